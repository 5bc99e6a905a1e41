/-! PRINTED by wip/gen/gen1.py: names and links -/
theorem ac_int : Cond.arrayClass .int ∈ tb := mem_c1 71 rfl rfl
theorem ac_byte : Cond.arrayClass .byte ∈ tb := mem_c1 235 rfl rfl
theorem ac_boolean : Cond.arrayClass .boolean ∈ tb := mem_c1 236 rfl rfl
theorem ac_long : Cond.arrayClass .long ∈ tb := mem_c1 234 rfl rfl
def Y_Ar_fill_AI : YT := (⟨"java/util/Arrays", "fill", "([II)V"⟩, prog_22_method_103_code, 4, none)
theorem cw_Ar_fill_AI : Cond.code Y_Ar_fill_AI.1 Y_Ar_fill_AI.2.1 Y_Ar_fill_AI.2.2.1 Y_Ar_fill_AI.2.2.2 ∈ tb := mem_c1 39 rfl rfl
theorem pn_Ar_fill_AI : plainFor Y_Ar_fill_AI.1 = true := by decide +kernel
def Y_Sc_init : YT := (⟨"SinkingChoir$Score", "<init>", "()V"⟩, prog_9_method_1_code, 1, none)
theorem cw_Sc_init : Cond.code Y_Sc_init.1 Y_Sc_init.2.1 Y_Sc_init.2.2.1 Y_Sc_init.2.2.2 ∈ tb := mem_c1 35 rfl rfl
theorem pn_Sc_init : plainFor Y_Sc_init.1 = true := by decide +kernel
def Y_Pr_init : YT := (⟨"SinkingChoir$Program", "<init>", "()V"⟩, prog_6_method_1_code, 1, none)
theorem cw_Pr_init : Cond.code Y_Pr_init.1 Y_Pr_init.2.1 Y_Pr_init.2.2.1 Y_Pr_init.2.2.2 ∈ tb := mem_c1 82 rfl rfl
theorem pn_Pr_init : plainFor Y_Pr_init.1 = true := by decide +kernel
def Y_Ch_init : YT := (⟨"SinkingChoir$Choir", "<init>", "(LSinkingChoir$Score;)V"⟩, prog_2_method_1_code, 2, none)
theorem cw_Ch_init : Cond.code Y_Ch_init.1 Y_Ch_init.2.1 Y_Ch_init.2.2.1 Y_Ch_init.2.2.2 ∈ tb := mem_c1 76 rfl rfl
theorem pn_Ch_init : plainFor Y_Ch_init.1 = true := by decide +kernel
def Y_Str_coder : YT := (⟨"java/lang/String", "coder", "()B"⟩, prog_18_method_152_code, 1, some .byte)
theorem cw_Str_coder : Cond.code Y_Str_coder.1 Y_Str_coder.2.1 Y_Str_coder.2.2.1 Y_Str_coder.2.2.2 ∈ tb := mem_c1 185 rfl rfl
theorem pn_Str_coder : plainFor Y_Str_coder.1 = true := by decide +kernel
def Y_Str_length : YT := (⟨"java/lang/String", "length", "()I"⟩, prog_18_method_54_code, 1, some .int)
theorem cw_Str_length : Cond.code Y_Str_length.1 Y_Str_length.2.1 Y_Str_length.2.2.1 Y_Str_length.2.2.2 ∈ tb := mem_c1 181 rfl rfl
theorem pn_Str_length : plainFor Y_Str_length.1 = true := by decide +kernel
def Y_Si_init : YT := (⟨"SinkingChoir$Singing", "<init>", "(LSinkingChoir$Score;LSinkingChoir$Choir;)V"⟩, prog_10_method_1_code, 3, none)
theorem cw_Si_init : Cond.code Y_Si_init.1 Y_Si_init.2.1 Y_Si_init.2.2.1 Y_Si_init.2.2.2 ∈ tb := mem_c1 175 rfl rfl
theorem pn_Si_init : plainFor Y_Si_init.1 = true := by decide +kernel
def Y_St_init : YT := (⟨"SinkingChoir$Standing", "<init>", "(LSinkingChoir$Choir;LSinkingChoir$Singing;)V"⟩, prog_11_method_1_code, 3, none)
theorem cw_St_init : Cond.code Y_St_init.1 Y_St_init.2.1 Y_St_init.2.2.1 Y_St_init.2.2.2 ∈ tb := mem_c2 1 rfl rfl
theorem pn_St_init : plainFor Y_St_init.1 = true := by decide +kernel
def Y_Le_init : YT := (⟨"SinkingChoir$Leading", "<init>", "(LSinkingChoir$Choir;LSinkingChoir$Singing;)V"⟩, prog_5_method_1_code, 3, none)
theorem cw_Le_init : Cond.code Y_Le_init.1 Y_Le_init.2.1 Y_Le_init.2.2.1 Y_Le_init.2.2.2 ∈ tb := mem_c2 32 rfl rfl
theorem pn_Le_init : plainFor Y_Le_init.1 = true := by decide +kernel
def Y_Fi_init : YT := (⟨"SinkingChoir$Fitting", "<init>", "(LSinkingChoir$Score;LSinkingChoir$Choir;LSinkingChoir$Singing;)V"⟩, prog_3_method_1_code, 4, none)
theorem cw_Fi_init : Cond.code Y_Fi_init.1 Y_Fi_init.2.1 Y_Fi_init.2.2.1 Y_Fi_init.2.2.2 ∈ tb := mem_c2 56 rfl rfl
theorem pn_Fi_init : plainFor Y_Fi_init.1 = true := by decide +kernel
def Y_Rl_init : YT := (⟨"SinkingChoir$Reel", "<init>", "()V"⟩, prog_8_method_1_code, 1, none)
theorem cw_Rl_init : Cond.code Y_Rl_init.1 Y_Rl_init.2.1 Y_Rl_init.2.2.1 Y_Rl_init.2.2.2 ∈ tb := mem_c2 78 rfl rfl
theorem pn_Rl_init : plainFor Y_Rl_init.1 = true := by decide +kernel
def Y_Re_init : YT := (⟨"SinkingChoir$Reader", "<init>", "()V"⟩, prog_7_method_1_code, 1, none)
theorem cw_Re_init : Cond.code Y_Re_init.1 Y_Re_init.2.1 Y_Re_init.2.2.1 Y_Re_init.2.2.2 ∈ tb := mem_c2 93 rfl rfl
theorem pn_Re_init : plainFor Y_Re_init.1 = true := by decide +kernel
def Y_X_init : YT := (⟨"SinkingChoir", "<init>", "()V"⟩, prog_1_method_1_code, 1, none)
theorem cw_X_init : Cond.code Y_X_init.1 Y_X_init.2.1 Y_X_init.2.2.1 Y_X_init.2.2.2 ∈ tb := mem_c1 27 rfl rfl
theorem pn_X_init : plainFor Y_X_init.1 = true := by decide +kernel
def Y_M_init : YT := (⟨"SinkingChoirModel", "<init>", "()V"⟩, prog_14_method_1_code, 2, none)
theorem cw_M_init : Cond.code Y_M_init.1 Y_M_init.2.1 Y_M_init.2.2.1 Y_M_init.2.2.2 ∈ tb := mem_c5 213 rfl rfl
theorem pn_M_init : plainFor Y_M_init.1 = true := by decide +kernel
def Y_Fr_ofNumber : YT := (⟨"SinkingChoir$Fraction", "ofNumber", "(I)I"⟩, prog_4_method_5_code, 4, some .int)
theorem cw_Fr_ofNumber : Cond.code Y_Fr_ofNumber.1 Y_Fr_ofNumber.2.1 Y_Fr_ofNumber.2.2.1 Y_Fr_ofNumber.2.2.2 ∈ tb := mem_c2 153 rfl rfl
theorem pn_Fr_ofNumber : plainFor Y_Fr_ofNumber.1 = true := by decide +kernel
def Y_Fr_exponent : YT := (⟨"SinkingChoir$Fraction", "exponent", "(II)I"⟩, prog_4_method_3_code, 3, some .int)
theorem cw_Fr_exponent : Cond.code Y_Fr_exponent.1 Y_Fr_exponent.2.1 Y_Fr_exponent.2.2.1 Y_Fr_exponent.2.2.2 ∈ tb := mem_c2 162 rfl rfl
theorem pn_Fr_exponent : plainFor Y_Fr_exponent.1 = true := by decide +kernel
def Y_Fr_mills : YT := (⟨"SinkingChoir$Fraction", "mills", "(I)I"⟩, prog_4_method_4_code, 1, some .int)
theorem cw_Fr_mills : Cond.code Y_Fr_mills.1 Y_Fr_mills.2.1 Y_Fr_mills.2.2.1 Y_Fr_mills.2.2.2 ∈ tb := mem_c2 158 rfl rfl
theorem pn_Fr_mills : plainFor Y_Fr_mills.1 = true := by decide +kernel
def Y_Fr_of : YT := (⟨"SinkingChoir$Fraction", "of", "(II)I"⟩, prog_4_method_2_code, 6, some .int)
theorem cw_Fr_of : Cond.code Y_Fr_of.1 Y_Fr_of.2.1 Y_Fr_of.2.2.1 Y_Fr_of.2.2.2 ∈ tb := mem_c2 150 rfl rfl
theorem pn_Fr_of : plainFor Y_Fr_of.1 = true := by decide +kernel
def Y_Sc_has : YT := (⟨"SinkingChoir$Score", "has", "(II)Z"⟩, prog_9_method_2_code, 2, some .boolean)
theorem cw_Sc_has : Cond.code Y_Sc_has.1 Y_Sc_has.2.1 Y_Sc_has.2.2.1 Y_Sc_has.2.2.2 ∈ tb := mem_c2 170 rfl rfl
theorem pn_Sc_has : plainFor Y_Sc_has.1 = true := by decide +kernel
def Y_Sc_cell : YT := (⟨"SinkingChoir$Score", "cell", "(II)I"⟩, prog_9_method_3_code, 2, some .int)
theorem cw_Sc_cell : Cond.code Y_Sc_cell.1 Y_Sc_cell.2.1 Y_Sc_cell.2.2.1 Y_Sc_cell.2.2.2 ∈ tb := mem_c2 179 rfl rfl
theorem pn_Sc_cell : plainFor Y_Sc_cell.1 = true := by decide +kernel
def Y_Sc_sounds : YT := (⟨"SinkingChoir$Score", "sounds", "(II)Z"⟩, prog_9_method_4_code, 3, some .boolean)
theorem cw_Sc_sounds : Cond.code Y_Sc_sounds.1 Y_Sc_sounds.2.1 Y_Sc_sounds.2.2.1 Y_Sc_sounds.2.2.2 ∈ tb := mem_c2 188 rfl rfl
theorem pn_Sc_sounds : plainFor Y_Sc_sounds.1 = true := by decide +kernel
def Y_Sc_holds : YT := (⟨"SinkingChoir$Score", "holds", "(II)Z"⟩, prog_9_method_5_code, 3, some .boolean)
theorem cw_Sc_holds : Cond.code Y_Sc_holds.1 Y_Sc_holds.2.1 Y_Sc_holds.2.2.1 Y_Sc_holds.2.2.2 ∈ tb := mem_c2 184 rfl rfl
theorem pn_Sc_holds : plainFor Y_Sc_holds.1 = true := by decide +kernel
def Y_Sc_shift : YT := (⟨"SinkingChoir$Score", "shift", "(II)I"⟩, prog_9_method_9_code, 3, some .int)
theorem cw_Sc_shift : Cond.code Y_Sc_shift.1 Y_Sc_shift.2.1 Y_Sc_shift.2.2.1 Y_Sc_shift.2.2.2 ∈ tb := mem_c2 196 rfl rfl
theorem pn_Sc_shift : plainFor Y_Sc_shift.1 = true := by decide +kernel
def Y_Sc_tune : YT := (⟨"SinkingChoir$Score", "tune", "()V"⟩, prog_9_method_10_code, 2, none)
theorem cw_Sc_tune : Cond.code Y_Sc_tune.1 Y_Sc_tune.2.1 Y_Sc_tune.2.2.1 Y_Sc_tune.2.2.2 ∈ tb := mem_c2 192 rfl rfl
theorem pn_Sc_tune : plainFor Y_Sc_tune.1 = true := by decide +kernel
def Y_Sc_put : YT := (⟨"SinkingChoir$Score", "put", "(IIII)V"⟩, prog_9_method_7_code, 6, none)
theorem cw_Sc_put : Cond.code Y_Sc_put.1 Y_Sc_put.2.1 Y_Sc_put.2.2.1 Y_Sc_put.2.2.2 ∈ tb := mem_c2 175 rfl rfl
theorem pn_Sc_put : plainFor Y_Sc_put.1 = true := by decide +kernel
def Y_X_changed : YT := (⟨"SinkingChoir", "changed", "()Z"⟩, prog_1_method_34_code, 1, some .boolean)
theorem cw_X_changed : Cond.code Y_X_changed.1 Y_X_changed.2.1 Y_X_changed.2.2.1 Y_X_changed.2.2.2 ∈ tb := mem_c2 200 rfl rfl
theorem pn_X_changed : plainFor Y_X_changed.1 = true := by decide +kernel
def Y_X_note : YT := (⟨"SinkingChoir", "note", "(IIIII)Z"⟩, prog_1_method_2_code, 7, some .boolean)
theorem cw_X_note : Cond.code Y_X_note.1 Y_X_note.2.1 Y_X_note.2.2.1 Y_X_note.2.2.2 ∈ tb := mem_c2 147 rfl rfl
theorem pn_X_note : plainFor Y_X_note.1 = true := by decide +kernel
def Y_M_lies : YT := (⟨"SinkingChoirModel", "lies", "(JJJ)Z"⟩, prog_14_method_2_code, 6, some .boolean)
theorem cw_M_lies : Cond.code Y_M_lies.1 Y_M_lies.2.1 Y_M_lies.2.2.1 Y_M_lies.2.2.2 ∈ tb := mem_c6 199 rfl rfl
theorem pn_M_lies : plainFor Y_M_lies.1 = true := by decide +kernel
def Y_M_isVoice : YT := (⟨"SinkingChoirModel", "isVoice", "(I)Z"⟩, prog_14_method_7_code, 1, some .boolean)
theorem cw_M_isVoice : Cond.code Y_M_isVoice.1 Y_M_isVoice.2.1 Y_M_isVoice.2.2.1 Y_M_isVoice.2.2.2 ∈ tb := mem_c6 224 rfl rfl
theorem pn_M_isVoice : plainFor Y_M_isVoice.1 = true := by decide +kernel
def Y_M_isBeat : YT := (⟨"SinkingChoirModel", "isBeat", "(I)Z"⟩, prog_14_method_8_code, 1, some .boolean)
theorem cw_M_isBeat : Cond.code Y_M_isBeat.1 Y_M_isBeat.2.1 Y_M_isBeat.2.2.1 Y_M_isBeat.2.2.2 ∈ tb := mem_c6 228 rfl rfl
theorem pn_M_isBeat : plainFor Y_M_isBeat.1 = true := by decide +kernel
def Y_M_bare : YT := (⟨"SinkingChoirModel", "bare", "(I)I"⟩, prog_14_method_13_code, 2, some .int)
theorem cw_M_bare : Cond.code Y_M_bare.1 Y_M_bare.2.1 Y_M_bare.2.2.1 Y_M_bare.2.2.2 ∈ tb := mem_c6 202 rfl rfl
theorem pn_M_bare : plainFor Y_M_bare.1 = true := by decide +kernel
def Y_M_powerOf : YT := (⟨"SinkingChoirModel", "powerOf", "(II)I"⟩, prog_14_method_12_code, 4, some .int)
theorem cw_M_powerOf : Cond.code Y_M_powerOf.1 Y_M_powerOf.2.1 Y_M_powerOf.2.2.1 Y_M_powerOf.2.2.2 ∈ tb := mem_c6 208 rfl rfl
theorem pn_M_powerOf : plainFor Y_M_powerOf.1 = true := by decide +kernel
def Y_M_mills : YT := (⟨"SinkingChoirModel", "mills", "(III)I"⟩, prog_14_method_14_code, 3, some .int)
theorem cw_M_mills : Cond.code Y_M_mills.1 Y_M_mills.2.1 Y_M_mills.2.2.1 Y_M_mills.2.2.2 ∈ tb := mem_c6 211 rfl rfl
theorem pn_M_mills : plainFor Y_M_mills.1 = true := by decide +kernel
def Y_M_fraction : YT := (⟨"SinkingChoirModel", "fraction", "(II)I"⟩, prog_14_method_15_code, 2, some .int)
theorem cw_M_fraction : Cond.code Y_M_fraction.1 Y_M_fraction.2.1 Y_M_fraction.2.2.1 Y_M_fraction.2.2.2 ∈ tb := mem_c6 205 rfl rfl
theorem pn_M_fraction : plainFor Y_M_fraction.1 = true := by decide +kernel
def Y_M_isFraction : YT := (⟨"SinkingChoirModel", "isFraction", "(II)Z"⟩, prog_14_method_16_code, 2, some .boolean)
theorem cw_M_isFraction : Cond.code Y_M_isFraction.1 Y_M_isFraction.2.1 Y_M_isFraction.2.2.1 Y_M_isFraction.2.2.2 ∈ tb := mem_c6 195 rfl rfl
theorem pn_M_isFraction : plainFor Y_M_isFraction.1 = true := by decide +kernel
def Y_M_cellOf : YT := (⟨"SinkingChoirModel", "cellOf", "(II)I"⟩, prog_14_method_9_code, 2, some .int)
theorem cw_M_cellOf : Cond.code Y_M_cellOf.1 Y_M_cellOf.2.1 Y_M_cellOf.2.2.1 Y_M_cellOf.2.2.2 ∈ tb := mem_c6 233 rfl rfl
theorem pn_M_cellOf : plainFor Y_M_cellOf.1 = true := by decide +kernel
def Y_M_isNote : YT := (⟨"SinkingChoirModel", "isNote", "(II)Z"⟩, prog_14_method_10_code, 3, some .boolean)
theorem cw_M_isNote : Cond.code Y_M_isNote.1 Y_M_isNote.2.1 Y_M_isNote.2.2.1 Y_M_isNote.2.2.2 ∈ tb := mem_c7 5 rfl rfl
theorem pn_M_isNote : plainFor Y_M_isNote.1 = true := by decide +kernel
def Y_M_isHeld : YT := (⟨"SinkingChoirModel", "isHeld", "(II)Z"⟩, prog_14_method_11_code, 3, some .boolean)
theorem cw_M_isHeld : Cond.code Y_M_isHeld.1 Y_M_isHeld.2.1 Y_M_isHeld.2.2.1 Y_M_isHeld.2.2.2 ∈ tb := mem_c7 1 rfl rfl
theorem pn_M_isHeld : plainFor Y_M_isHeld.1 = true := by decide +kernel
def Y_M_falls : YT := (⟨"SinkingChoirModel", "falls", "(II)V"⟩, prog_14_method_19_code, 4, none)
theorem cw_M_falls : Cond.code Y_M_falls.1 Y_M_falls.2.1 Y_M_falls.2.2.1 Y_M_falls.2.2.2 ∈ tb := mem_c6 237 rfl rfl
theorem pn_M_falls : plainFor Y_M_falls.1 = true := by decide +kernel
def Y_M_note : YT := (⟨"SinkingChoirModel", "note", "(IIIII)Z"⟩, prog_14_method_20_code, 7, some .boolean)
theorem cw_M_note : Cond.code Y_M_note.1 Y_M_note.2.1 Y_M_note.2.2.1 Y_M_note.2.2.2 ∈ tb := mem_c6 221 rfl rfl
theorem pn_M_note : plainFor Y_M_note.1 = true := by decide +kernel
def Y_X_silent : YT := (⟨"SinkingChoir", "silent", "(II)Z"⟩, prog_1_method_3_code, 3, some .boolean)
theorem cw_X_silent : Cond.code Y_X_silent.1 Y_X_silent.2.1 Y_X_silent.2.2.1 Y_X_silent.2.2.2 ∈ tb := mem_c2 204 rfl rfl
theorem pn_X_silent : plainFor Y_X_silent.1 = true := by decide +kernel
def Y_M_silent : YT := (⟨"SinkingChoirModel", "silent", "(II)Z"⟩, prog_14_method_21_code, 3, some .boolean)
theorem cw_M_silent : Cond.code Y_M_silent.1 Y_M_silent.2.1 Y_M_silent.2.2.1 Y_M_silent.2.2.2 ∈ tb := mem_c7 9 rfl rfl
theorem pn_M_silent : plainFor Y_M_silent.1 = true := by decide +kernel
def Y_Sc_breathes : YT := (⟨"SinkingChoir$Score", "breathes", "(II)Z"⟩, prog_9_method_6_code, 3, some .boolean)
theorem cw_Sc_breathes : Cond.code Y_Sc_breathes.1 Y_Sc_breathes.2.1 Y_Sc_breathes.2.2.1 Y_Sc_breathes.2.2.2 ∈ tb := mem_c2 213 rfl rfl
theorem pn_Sc_breathes : plainFor Y_Sc_breathes.1 = true := by decide +kernel
def Y_X_breath : YT := (⟨"SinkingChoir", "breath", "(IIZ)Z"⟩, prog_1_method_4_code, 4, some .boolean)
theorem cw_X_breath : Cond.code Y_X_breath.1 Y_X_breath.2.1 Y_X_breath.2.2.1 Y_X_breath.2.2.2 ∈ tb := mem_c2 209 rfl rfl
theorem pn_X_breath : plainFor Y_X_breath.1 = true := by decide +kernel
def Y_M_breath : YT := (⟨"SinkingChoirModel", "breath", "(IIZ)Z"⟩, prog_14_method_22_code, 4, some .boolean)
theorem cw_M_breath : Cond.code Y_M_breath.1 Y_M_breath.2.1 Y_M_breath.2.2.1 Y_M_breath.2.2.2 ∈ tb := mem_c7 13 rfl rfl
theorem pn_M_breath : plainFor Y_M_breath.1 = true := by decide +kernel
def Y_X_size : YT := (⟨"SinkingChoir", "size", "(II)I"⟩, prog_1_method_5_code, 4, some .int)
theorem cw_X_size : Cond.code Y_X_size.1 Y_X_size.2.1 Y_X_size.2.2.1 Y_X_size.2.2.2 ∈ tb := mem_c2 217 rfl rfl
theorem pn_X_size : plainFor Y_X_size.1 = true := by decide +kernel
def Y_M_size : YT := (⟨"SinkingChoirModel", "size", "(II)I"⟩, prog_14_method_17_code, 3, some .int)
theorem cw_M_size : Cond.code Y_M_size.1 Y_M_size.2.1 Y_M_size.2.2.1 Y_M_size.2.2.2 ∈ tb := mem_c6 192 rfl rfl
theorem pn_M_size : plainFor Y_M_size.1 = true := by decide +kernel
def Y_Sc_bind : YT := (⟨"SinkingChoir$Score", "bind", "(II)V"⟩, prog_9_method_8_code, 3, none)
theorem cw_Sc_bind : Cond.code Y_Sc_bind.1 Y_Sc_bind.2.1 Y_Sc_bind.2.2.1 Y_Sc_bind.2.2.2 ∈ tb := mem_c2 228 rfl rfl
theorem pn_Sc_bind : plainFor Y_Sc_bind.1 = true := by decide +kernel
def Y_X_link : YT := (⟨"SinkingChoir", "link", "(II)Z"⟩, prog_1_method_6_code, 3, some .boolean)
theorem cw_X_link : Cond.code Y_X_link.1 Y_X_link.2.1 Y_X_link.2.2.1 Y_X_link.2.2.2 ∈ tb := mem_c2 223 rfl rfl
theorem pn_X_link : plainFor Y_X_link.1 = true := by decide +kernel
def Y_M_link : YT := (⟨"SinkingChoirModel", "link", "(II)Z"⟩, prog_14_method_23_code, 3, some .boolean)
theorem cw_M_link : Cond.code Y_M_link.1 Y_M_link.2.1 Y_M_link.2.2.1 Y_M_link.2.2.2 ∈ tb := mem_c7 17 rfl rfl
theorem pn_M_link : plainFor Y_M_link.1 = true := by decide +kernel
def Y_Sc_heldIn : YT := (⟨"SinkingChoir$Score", "heldIn", "(I)I"⟩, prog_9_method_15_code, 4, some .int)
theorem cw_Sc_heldIn : Cond.code Y_Sc_heldIn.1 Y_Sc_heldIn.2.1 Y_Sc_heldIn.2.2.1 Y_Sc_heldIn.2.2.2 ∈ tb := mem_c2 237 rfl rfl
theorem pn_Sc_heldIn : plainFor Y_Sc_heldIn.1 = true := by decide +kernel
def Y_Sc_tearBy : YT := (⟨"SinkingChoir$Score", "tearBy", "(III)I"⟩, prog_9_method_11_code, 4, some .int)
theorem cw_Sc_tearBy : Cond.code Y_Sc_tearBy.1 Y_Sc_tearBy.2.1 Y_Sc_tearBy.2.2.1 Y_Sc_tearBy.2.2.2 ∈ tb := mem_c3 9 rfl rfl
theorem pn_Sc_tearBy : plainFor Y_Sc_tearBy.1 = true := by decide +kernel
def Y_Sc_tear : YT := (⟨"SinkingChoir$Score", "tear", "(II)I"⟩, prog_9_method_12_code, 3, some .int)
theorem cw_Sc_tear : Cond.code Y_Sc_tear.1 Y_Sc_tear.2.1 Y_Sc_tear.2.2.1 Y_Sc_tear.2.2.2 ∈ tb := mem_c3 5 rfl rfl
theorem pn_Sc_tear : plainFor Y_Sc_tear.1 = true := by decide +kernel
def Y_Sc_tornIn : YT := (⟨"SinkingChoir$Score", "tornIn", "(I)I"⟩, prog_9_method_16_code, 4, some .int)
theorem cw_Sc_tornIn : Cond.code Y_Sc_tornIn.1 Y_Sc_tornIn.2.1 Y_Sc_tornIn.2.2.1 Y_Sc_tornIn.2.2.2 ∈ tb := mem_c3 1 rfl rfl
theorem pn_Sc_tornIn : plainFor Y_Sc_tornIn.1 = true := by decide +kernel
def Y_X_keynote : YT := (⟨"SinkingChoir", "keynote", "(II)I"⟩, prog_1_method_7_code, 3, some .int)
theorem cw_X_keynote : Cond.code Y_X_keynote.1 Y_X_keynote.2.1 Y_X_keynote.2.2.1 Y_X_keynote.2.2.2 ∈ tb := mem_c2 232 rfl rfl
theorem pn_X_keynote : plainFor Y_X_keynote.1 = true := by decide +kernel
def Y_M_leap : YT := (⟨"SinkingChoirModel", "leap", "([III)I"⟩, prog_14_method_24_code, 4, some .int)
theorem cw_M_leap : Cond.code Y_M_leap.1 Y_M_leap.2.1 Y_M_leap.2.2.1 Y_M_leap.2.2.2 ∈ tb := mem_c7 34 rfl rfl
theorem pn_M_leap : plainFor Y_M_leap.1 = true := by decide +kernel
def Y_M_goesTo : YT := (⟨"SinkingChoirModel", "goesTo", "(I)V"⟩, prog_14_method_25_code, 3, none)
theorem cw_M_goesTo : Cond.code Y_M_goesTo.1 Y_M_goesTo.2.1 Y_M_goesTo.2.2.1 Y_M_goesTo.2.2.2 ∈ tb := mem_c7 30 rfl rfl
theorem pn_M_goesTo : plainFor Y_M_goesTo.1 = true := by decide +kernel
def Y_M_keynoteOf : YT := (⟨"SinkingChoirModel", "keynoteOf", "(I)I"⟩, prog_14_method_26_code, 2, some .int)
theorem cw_M_keynoteOf : Cond.code Y_M_keynoteOf.1 Y_M_keynoteOf.2.1 Y_M_keynoteOf.2.2.1 Y_M_keynoteOf.2.2.2 ∈ tb := mem_c7 26 rfl rfl
theorem pn_M_keynoteOf : plainFor Y_M_keynoteOf.1 = true := by decide +kernel
def Y_M_sizeAt : YT := (⟨"SinkingChoirModel", "sizeAt", "(II)I"⟩, prog_14_method_18_code, 3, some .int)
theorem cw_M_sizeAt : Cond.code Y_M_sizeAt.1 Y_M_sizeAt.2.1 Y_M_sizeAt.2.2.1 Y_M_sizeAt.2.2.2 ∈ tb := mem_c7 42 rfl rfl
theorem pn_M_sizeAt : plainFor Y_M_sizeAt.1 = true := by decide +kernel
def Y_M_tornBy : YT := (⟨"SinkingChoirModel", "tornBy", "(III)I"⟩, prog_14_method_27_code, 5, some .int)
theorem cw_M_tornBy : Cond.code Y_M_tornBy.1 Y_M_tornBy.2.1 Y_M_tornBy.2.2.1 Y_M_tornBy.2.2.2 ∈ tb := mem_c7 38 rfl rfl
theorem pn_M_tornBy : plainFor Y_M_tornBy.1 = true := by decide +kernel
def Y_M_keynote : YT := (⟨"SinkingChoirModel", "keynote", "(II)I"⟩, prog_14_method_30_code, 7, some .int)
theorem cw_M_keynote : Cond.code Y_M_keynote.1 Y_M_keynote.2.1 Y_M_keynote.2.2.1 Y_M_keynote.2.2.2 ∈ tb := mem_c7 21 rfl rfl
theorem pn_M_keynote : plainFor Y_M_keynote.1 = true := by decide +kernel
def Y_X_torn : YT := (⟨"SinkingChoir", "torn", "(II)I"⟩, prog_1_method_8_code, 3, some .int)
theorem cw_X_torn : Cond.code Y_X_torn.1 Y_X_torn.2.1 Y_X_torn.2.2.1 Y_X_torn.2.2.2 ∈ tb := mem_c3 13 rfl rfl
theorem pn_X_torn : plainFor Y_X_torn.1 = true := by decide +kernel
def Y_M_torn : YT := (⟨"SinkingChoirModel", "torn", "(II)I"⟩, prog_14_method_31_code, 3, some .int)
theorem cw_M_torn : Cond.code Y_M_torn.1 Y_M_torn.2.1 Y_M_torn.2.2.1 Y_M_torn.2.2.2 ∈ tb := mem_c7 46 rfl rfl
theorem pn_M_torn : plainFor Y_M_torn.1 = true := by decide +kernel
def Y_Sc_soundsIn : YT := (⟨"SinkingChoir$Score", "soundsIn", "(I)Z"⟩, prog_9_method_17_code, 3, some .boolean)
theorem cw_Sc_soundsIn : Cond.code Y_Sc_soundsIn.1 Y_Sc_soundsIn.2.1 Y_Sc_soundsIn.2.2.1 Y_Sc_soundsIn.2.2.2 ∈ tb := mem_c3 26 rfl rfl
theorem pn_Sc_soundsIn : plainFor Y_Sc_soundsIn.1 = true := by decide +kernel
def Y_Sc_lastBeat : YT := (⟨"SinkingChoir$Score", "lastBeat", "()I"⟩, prog_9_method_18_code, 2, some .int)
theorem cw_Sc_lastBeat : Cond.code Y_Sc_lastBeat.1 Y_Sc_lastBeat.2.1 Y_Sc_lastBeat.2.2.1 Y_Sc_lastBeat.2.2.2 ∈ tb := mem_c3 22 rfl rfl
theorem pn_Sc_lastBeat : plainFor Y_Sc_lastBeat.1 = true := by decide +kernel
def Y_Mt_abs_I : YT := (⟨"java/lang/Math", "abs", "(I)I"⟩, prog_17_method_59_code, 1, some .int)
theorem cw_Mt_abs_I : Cond.code Y_Mt_abs_I.1 Y_Mt_abs_I.2.1 Y_Mt_abs_I.2.2.1 Y_Mt_abs_I.2.2.2 ∈ tb := mem_c3 37 rfl rfl
theorem pn_Mt_abs_I : plainFor Y_Mt_abs_I.1 = true := by decide +kernel
def Y_Sc_foulnessBy : YT := (⟨"SinkingChoir$Score", "foulnessBy", "(II)I"⟩, prog_9_method_13_code, 5, some .int)
theorem cw_Sc_foulnessBy : Cond.code Y_Sc_foulnessBy.1 Y_Sc_foulnessBy.2.1 Y_Sc_foulnessBy.2.2.1 Y_Sc_foulnessBy.2.2.2 ∈ tb := mem_c3 34 rfl rfl
theorem pn_Sc_foulnessBy : plainFor Y_Sc_foulnessBy.1 = true := by decide +kernel
def Y_Sc_foulness : YT := (⟨"SinkingChoir$Score", "foulness", "()I"⟩, prog_9_method_14_code, 3, some .int)
theorem cw_Sc_foulness : Cond.code Y_Sc_foulness.1 Y_Sc_foulness.2.1 Y_Sc_foulness.2.2.1 Y_Sc_foulness.2.2.2 ∈ tb := mem_c3 30 rfl rfl
theorem pn_Sc_foulness : plainFor Y_Sc_foulness.1 = true := by decide +kernel
def Y_X_sink : YT := (⟨"SinkingChoir", "sink", "(I)I"⟩, prog_1_method_9_code, 3, some .int)
theorem cw_X_sink : Cond.code Y_X_sink.1 Y_X_sink.2.1 Y_X_sink.2.2.1 Y_X_sink.2.2.2 ∈ tb := mem_c3 18 rfl rfl
theorem pn_X_sink : plainFor Y_X_sink.1 = true := by decide +kernel
def Y_M_lastBeat : YT := (⟨"SinkingChoirModel", "lastBeat", "()I"⟩, prog_14_method_29_code, 4, some .int)
theorem cw_M_lastBeat : Cond.code Y_M_lastBeat.1 Y_M_lastBeat.2.1 Y_M_lastBeat.2.2.1 Y_M_lastBeat.2.2.2 ∈ tb := mem_c7 54 rfl rfl
theorem pn_M_lastBeat : plainFor Y_M_lastBeat.1 = true := by decide +kernel
def Y_M_plain : YT := (⟨"SinkingChoirModel", "plain", "(J)J"⟩, prog_14_method_6_code, 2, some .long)
theorem cw_M_plain : Cond.code Y_M_plain.1 Y_M_plain.2.1 Y_M_plain.2.2.1 Y_M_plain.2.2.2 ∈ tb := mem_c7 61 rfl rfl
theorem pn_M_plain : plainFor Y_M_plain.1 = true := by decide +kernel
def Y_M_foulBy : YT := (⟨"SinkingChoirModel", "foulBy", "(II)J"⟩, prog_14_method_28_code, 6, some .long)
theorem cw_M_foulBy : Cond.code Y_M_foulBy.1 Y_M_foulBy.2.1 Y_M_foulBy.2.2.1 Y_M_foulBy.2.2.2 ∈ tb := mem_c7 58 rfl rfl
theorem pn_M_foulBy : plainFor Y_M_foulBy.1 = true := by decide +kernel
def Y_M_sink : YT := (⟨"SinkingChoirModel", "sink", "(I)I"⟩, prog_14_method_32_code, 6, some .int)
theorem cw_M_sink : Cond.code Y_M_sink.1 Y_M_sink.2.1 Y_M_sink.2.2.1 Y_M_sink.2.2.2 ∈ tb := mem_c7 50 rfl rfl
theorem pn_M_sink : plainFor Y_M_sink.1 = true := by decide +kernel
def Y_X_asksRow : YT := (⟨"SinkingChoir", "asksRow", "(I)Z"⟩, prog_1_method_35_code, 2, some .boolean)
theorem cw_X_asksRow : Cond.code Y_X_asksRow.1 Y_X_asksRow.2.1 Y_X_asksRow.2.2.1 Y_X_asksRow.2.2.2 ∈ tb := mem_c3 45 rfl rfl
theorem pn_X_asksRow : plainFor Y_X_asksRow.1 = true := by decide +kernel
def Y_Wa_init : YT := (⟨"SinkingChoir$Ways", "<init>", "(LSinkingChoir$Score;)V"⟩, prog_12_method_1_code, 2, none)
theorem cw_Wa_init : Cond.code Y_Wa_init.1 Y_Wa_init.2.1 Y_Wa_init.2.2.1 Y_Wa_init.2.2.2 ∈ tb := mem_c3 54 rfl rfl
theorem pn_Wa_init : plainFor Y_Wa_init.1 = true := by decide +kernel
def Y_Mt_min : YT := (⟨"java/lang/Math", "min", "(II)I"⟩, prog_17_method_69_code, 2, some .int)
theorem cw_Mt_min : Cond.code Y_Mt_min.1 Y_Mt_min.2.1 Y_Mt_min.2.2.1 Y_Mt_min.2.2.2 ∈ tb := mem_c3 104 rfl rfl
theorem pn_Mt_min : plainFor Y_Mt_min.1 = true := by decide +kernel
def Y_Wa_spread : YT := (⟨"SinkingChoir$Ways", "spread", "(II)Z"⟩, prog_12_method_3_code, 10, some .boolean)
theorem cw_Wa_spread : Cond.code Y_Wa_spread.1 Y_Wa_spread.2.1 Y_Wa_spread.2.2.1 Y_Wa_spread.2.2.2 ∈ tb := mem_c3 100 rfl rfl
theorem pn_Wa_spread : plainFor Y_Wa_spread.1 = true := by decide +kernel
def Y_Wa_explore : YT := (⟨"SinkingChoir$Ways", "explore", "()Z"⟩, prog_12_method_2_code, 4, some .boolean)
theorem cw_Wa_explore : Cond.code Y_Wa_explore.1 Y_Wa_explore.2.1 Y_Wa_explore.2.2.1 Y_Wa_explore.2.2.2 ∈ tb := mem_c3 90 rfl rfl
theorem pn_Wa_explore : plainFor Y_Wa_explore.1 = true := by decide +kernel
def Y_X_explored : YT := (⟨"SinkingChoir", "explored", "()LSinkingChoir$Ways;"⟩, prog_1_method_36_code, 1, some (.object "SinkingChoir$Ways"))
theorem cw_X_explored : Cond.code Y_X_explored.1 Y_X_explored.2.1 Y_X_explored.2.2.1 Y_X_explored.2.2.2 ∈ tb := mem_c3 49 rfl rfl
theorem pn_X_explored : plainFor Y_X_explored.1 = true := by decide +kernel
def Y_Wa_find : YT := (⟨"SinkingChoir$Ways", "find", "(II)I"⟩, prog_12_method_7_code, 4, some .int)
theorem cw_Wa_find : Cond.code Y_Wa_find.1 Y_Wa_find.2.1 Y_Wa_find.2.2.1 Y_Wa_find.2.2.2 ∈ tb := mem_c3 112 rfl rfl
theorem pn_Wa_find : plainFor Y_Wa_find.1 = true := by decide +kernel
def Y_Wa_price : YT := (⟨"SinkingChoir$Ways", "price", "(Z)V"⟩, prog_12_method_4_code, 7, none)
theorem cw_Wa_price : Cond.code Y_Wa_price.1 Y_Wa_price.2.1 Y_Wa_price.2.2.1 Y_Wa_price.2.2.2 ∈ tb := mem_c3 116 rfl rfl
theorem pn_Wa_price : plainFor Y_Wa_price.1 = true := by decide +kernel
def Y_Wa_relax : YT := (⟨"SinkingChoir$Ways", "relax", "(IIZ)V"⟩, prog_12_method_8_code, 12, none)
theorem cw_Wa_relax : Cond.code Y_Wa_relax.1 Y_Wa_relax.2.1 Y_Wa_relax.2.2.1 Y_Wa_relax.2.2.2 ∈ tb := mem_c3 123 rfl rfl
theorem pn_Wa_relax : plainFor Y_Wa_relax.1 = true := by decide +kernel
def Y_Wa_follow : YT := (⟨"SinkingChoir$Ways", "follow", "()Z"⟩, prog_12_method_9_code, 7, some .boolean)
theorem cw_Wa_follow : Cond.code Y_Wa_follow.1 Y_Wa_follow.2.1 Y_Wa_follow.2.2.1 Y_Wa_follow.2.2.2 ∈ tb := mem_c3 127 rfl rfl
theorem pn_Wa_follow : plainFor Y_Wa_follow.1 = true := by decide +kernel
def Y_Wa_leastRow : YT := (⟨"SinkingChoir$Ways", "leastRow", "(Z)Z"⟩, prog_12_method_5_code, 5, some .boolean)
theorem cw_Wa_leastRow : Cond.code Y_Wa_leastRow.1 Y_Wa_leastRow.2.1 Y_Wa_leastRow.2.2.1 Y_Wa_leastRow.2.2.2 ∈ tb := mem_c3 108 rfl rfl
theorem pn_Wa_leastRow : plainFor Y_Wa_leastRow.1 = true := by decide +kernel
def Y_Wa_told : YT := (⟨"SinkingChoir$Ways", "told", "(I)I"⟩, prog_12_method_6_code, 2, some .int)
theorem cw_Wa_told : Cond.code Y_Wa_told.1 Y_Wa_told.2.1 Y_Wa_told.2.2.1 Y_Wa_told.2.2.2 ∈ tb := mem_c3 131 rfl rfl
theorem pn_Wa_told : plainFor Y_Wa_told.1 = true := by decide +kernel
def Y_X_way : YT := (⟨"SinkingChoir", "way", "(I)I"⟩, prog_1_method_10_code, 3, some .int)
theorem cw_X_way : Cond.code Y_X_way.1 Y_X_way.2.1 Y_X_way.2.2.1 Y_X_way.2.2.2 ∈ tb := mem_c3 41 rfl rfl
theorem pn_X_way : plainFor Y_X_way.1 = true := by decide +kernel
def Y_M_placeOf : YT := (⟨"SinkingChoirModel", "placeOf", "(IIII)I"⟩, prog_14_method_33_code, 7, some .int)
theorem cw_M_placeOf : Cond.code Y_M_placeOf.1 Y_M_placeOf.2.1 Y_M_placeOf.2.2.1 Y_M_placeOf.2.2.2 ∈ tb := mem_c7 81 rfl rfl
theorem pn_M_placeOf : plainFor Y_M_placeOf.1 = true := by decide +kernel
def Y_M_mayLink : YT := (⟨"SinkingChoirModel", "mayLink", "(II)Z"⟩, prog_14_method_34_code, 3, some .boolean)
theorem cw_M_mayLink : Cond.code Y_M_mayLink.1 Y_M_mayLink.2.1 Y_M_mayLink.2.2.1 Y_M_mayLink.2.2.2 ∈ tb := mem_c7 85 rfl rfl
theorem pn_M_mayLink : plainFor Y_M_mayLink.1 = true := by decide +kernel
def Y_M_nextOf : YT := (⟨"SinkingChoirModel", "nextOf", "(III)I"⟩, prog_14_method_35_code, 5, some .int)
theorem cw_M_nextOf : Cond.code Y_M_nextOf.1 Y_M_nextOf.2.1 Y_M_nextOf.2.2.1 Y_M_nextOf.2.2.2 ∈ tb := mem_c7 89 rfl rfl
theorem pn_M_nextOf : plainFor Y_M_nextOf.1 = true := by decide +kernel
def Y_M_lays : YT := (⟨"SinkingChoirModel", "lays", "(I)Z"⟩, prog_14_method_36_code, 6, some .boolean)
theorem cw_M_lays : Cond.code Y_M_lays.1 Y_M_lays.2.1 Y_M_lays.2.2.1 Y_M_lays.2.2.2 ∈ tb := mem_c7 77 rfl rfl
theorem pn_M_lays : plainFor Y_M_lays.1 = true := by decide +kernel
def Y_M_costBy : YT := (⟨"SinkingChoirModel", "costBy", "(IIZ)J"⟩, prog_14_method_37_code, 4, some .long)
theorem cw_M_costBy : Cond.code Y_M_costBy.1 Y_M_costBy.2.1 Y_M_costBy.2.2.1 Y_M_costBy.2.2.2 ∈ tb := mem_c7 94 rfl rfl
theorem pn_M_costBy : plainFor Y_M_costBy.1 = true := by decide +kernel
def Y_M_finds : YT := (⟨"SinkingChoirModel", "finds", "(IZ)Z"⟩, prog_14_method_38_code, 10, some .boolean)
theorem cw_M_finds : Cond.code Y_M_finds.1 Y_M_finds.2.1 Y_M_finds.2.2.1 Y_M_finds.2.2.2 ∈ tb := mem_c7 73 rfl rfl
theorem pn_M_finds : plainFor Y_M_finds.1 = true := by decide +kernel
def Y_M_rowOf : YT := (⟨"SinkingChoirModel", "rowOf", "(IZ)I"⟩, prog_14_method_39_code, 4, some .int)
theorem cw_M_rowOf : Cond.code Y_M_rowOf.1 Y_M_rowOf.2.1 Y_M_rowOf.2.2.1 Y_M_rowOf.2.2.2 ∈ tb := mem_c7 69 rfl rfl
theorem pn_M_rowOf : plainFor Y_M_rowOf.1 = true := by decide +kernel
def Y_M_way : YT := (⟨"SinkingChoirModel", "way", "(I)I"⟩, prog_14_method_40_code, 2, some .int)
theorem cw_M_way : Cond.code Y_M_way.1 Y_M_way.2.1 Y_M_way.2.2.1 Y_M_way.2.2.2 ∈ tb := mem_c7 65 rfl rfl
theorem pn_M_way : plainFor Y_M_way.1 = true := by decide +kernel
def Y_X_change : YT := (⟨"SinkingChoir", "change", "(I)I"⟩, prog_1_method_11_code, 3, some .int)
theorem cw_X_change : Cond.code Y_X_change.1 Y_X_change.2.1 Y_X_change.2.2.1 Y_X_change.2.2.2 ∈ tb := mem_c3 135 rfl rfl
theorem pn_X_change : plainFor Y_X_change.1 = true := by decide +kernel
def Y_M_change : YT := (⟨"SinkingChoirModel", "change", "(I)I"⟩, prog_14_method_41_code, 2, some .int)
theorem cw_M_change : Cond.code Y_M_change.1 Y_M_change.2.1 Y_M_change.2.2.1 Y_M_change.2.2.2 ∈ tb := mem_c7 98 rfl rfl
theorem pn_M_change : plainFor Y_M_change.1 = true := by decide +kernel
def Y_Wa_nearer : YT := (⟨"SinkingChoir$Ways", "nearer", "(II)I"⟩, prog_12_method_11_code, 4, some .int)
theorem cw_Wa_nearer : Cond.code Y_Wa_nearer.1 Y_Wa_nearer.2.1 Y_Wa_nearer.2.2.1 Y_Wa_nearer.2.2.2 ∈ tb := mem_c3 148 rfl rfl
theorem pn_Wa_nearer : plainFor Y_Wa_nearer.1 = true := by decide +kernel
def Y_Wa_nearest : YT := (⟨"SinkingChoir$Ways", "nearest", "(I)I"⟩, prog_12_method_10_code, 4, some .int)
theorem cw_Wa_nearest : Cond.code Y_Wa_nearest.1 Y_Wa_nearest.2.1 Y_Wa_nearest.2.2.1 Y_Wa_nearest.2.2.2 ∈ tb := mem_c3 144 rfl rfl
theorem pn_Wa_nearest : plainFor Y_Wa_nearest.1 = true := by decide +kernel
def Y_X_bounded : YT := (⟨"SinkingChoir", "bounded", "(I)I"⟩, prog_1_method_12_code, 3, some .int)
theorem cw_X_bounded : Cond.code Y_X_bounded.1 Y_X_bounded.2.1 Y_X_bounded.2.2.1 Y_X_bounded.2.2.2 ∈ tb := mem_c3 139 rfl rfl
theorem pn_X_bounded : plainFor Y_X_bounded.1 = true := by decide +kernel
def Y_M_bounded : YT := (⟨"SinkingChoirModel", "bounded", "(I)I"⟩, prog_14_method_42_code, 11, some .int)
theorem cw_M_bounded : Cond.code Y_M_bounded.1 Y_M_bounded.2.1 Y_M_bounded.2.2.1 Y_M_bounded.2.2.2 ∈ tb := mem_c7 102 rfl rfl
theorem pn_M_bounded : plainFor Y_M_bounded.1 = true := by decide +kernel
def Y_X_singer : YT := (⟨"SinkingChoir", "singer", "(IIII)I"⟩, prog_1_method_13_code, 7, some .int)
theorem cw_X_singer : Cond.code Y_X_singer.1 Y_X_singer.2.1 Y_X_singer.2.2.1 Y_X_singer.2.2.2 ∈ tb := mem_c3 153 rfl rfl
theorem pn_X_singer : plainFor Y_X_singer.1 = true := by decide +kernel
def Y_M_singer : YT := (⟨"SinkingChoirModel", "singer", "(IIII)I"⟩, prog_14_method_44_code, 5, some .int)
theorem cw_M_singer : Cond.code Y_M_singer.1 Y_M_singer.2.1 Y_M_singer.2.2.1 Y_M_singer.2.2.2 ∈ tb := mem_c7 107 rfl rfl
theorem pn_M_singer : plainFor Y_M_singer.1 = true := by decide +kernel
def Y_Ch_has : YT := (⟨"SinkingChoir$Choir", "has", "(I)Z"⟩, prog_2_method_2_code, 2, some .boolean)
theorem cw_Ch_has : Cond.code Y_Ch_has.1 Y_Ch_has.2.1 Y_Ch_has.2.2.1 Y_Ch_has.2.2.2 ∈ tb := mem_c3 161 rfl rfl
theorem pn_Ch_has : plainFor Y_Ch_has.1 = true := by decide +kernel
def Y_X_place : YT := (⟨"SinkingChoir", "place", "(II)Z"⟩, prog_1_method_14_code, 3, some .boolean)
theorem cw_X_place : Cond.code Y_X_place.1 Y_X_place.2.1 Y_X_place.2.2.1 Y_X_place.2.2.2 ∈ tb := mem_c3 157 rfl rfl
theorem pn_X_place : plainFor Y_X_place.1 = true := by decide +kernel
def Y_M_isSinger : YT := (⟨"SinkingChoirModel", "isSinger", "(I)Z"⟩, prog_14_method_43_code, 2, some .boolean)
theorem cw_M_isSinger : Cond.code Y_M_isSinger.1 Y_M_isSinger.2.1 Y_M_isSinger.2.2.1 Y_M_isSinger.2.2.2 ∈ tb := mem_c7 117 rfl rfl
theorem pn_M_isSinger : plainFor Y_M_isSinger.1 = true := by decide +kernel
def Y_M_place : YT := (⟨"SinkingChoirModel", "place", "(II)Z"⟩, prog_14_method_45_code, 3, some .boolean)
theorem cw_M_place : Cond.code Y_M_place.1 Y_M_place.2.1 Y_M_place.2.2.1 Y_M_place.2.2.2 ∈ tb := mem_c7 113 rfl rfl
theorem pn_M_place : plainFor Y_M_place.1 = true := by decide +kernel
def Y_X_table : YT := (⟨"SinkingChoir", "table", "(II)Z"⟩, prog_1_method_15_code, 3, some .boolean)
theorem cw_X_table : Cond.code Y_X_table.1 Y_X_table.2.1 Y_X_table.2.2.1 Y_X_table.2.2.2 ∈ tb := mem_c3 165 rfl rfl
theorem pn_X_table : plainFor Y_X_table.1 = true := by decide +kernel
def Y_M_table : YT := (⟨"SinkingChoirModel", "table", "(II)Z"⟩, prog_14_method_46_code, 3, some .boolean)
theorem cw_M_table : Cond.code Y_M_table.1 Y_M_table.2.1 Y_M_table.2.2.1 Y_M_table.2.2.2 ∈ tb := mem_c7 121 rfl rfl
theorem pn_M_table : plainFor Y_M_table.1 = true := by decide +kernel
def Y_X_seed : YT := (⟨"SinkingChoir", "seed", "(I)Z"⟩, prog_1_method_16_code, 2, some .boolean)
theorem cw_X_seed : Cond.code Y_X_seed.1 Y_X_seed.2.1 Y_X_seed.2.2.1 Y_X_seed.2.2.2 ∈ tb := mem_c3 171 rfl rfl
theorem pn_X_seed : plainFor Y_X_seed.1 = true := by decide +kernel
def Y_M_seed : YT := (⟨"SinkingChoirModel", "seed", "(I)Z"⟩, prog_14_method_47_code, 2, some .boolean)
theorem cw_M_seed : Cond.code Y_M_seed.1 Y_M_seed.2.1 Y_M_seed.2.2.1 Y_M_seed.2.2.2 ∈ tb := mem_c7 128 rfl rfl
theorem pn_M_seed : plainFor Y_M_seed.1 = true := by decide +kernel
def Y_X_blown : YT := (⟨"SinkingChoir", "blown", "(I)Z"⟩, prog_1_method_17_code, 2, some .boolean)
theorem cw_X_blown : Cond.code Y_X_blown.1 Y_X_blown.2.1 Y_X_blown.2.2.1 Y_X_blown.2.2.2 ∈ tb := mem_c3 176 rfl rfl
theorem pn_X_blown : plainFor Y_X_blown.1 = true := by decide +kernel
def Y_M_blown : YT := (⟨"SinkingChoirModel", "blown", "(I)Z"⟩, prog_14_method_48_code, 2, some .boolean)
theorem cw_M_blown : Cond.code Y_M_blown.1 Y_M_blown.2.1 Y_M_blown.2.2.1 Y_M_blown.2.2.2 ∈ tb := mem_c7 133 rfl rfl
theorem pn_M_blown : plainFor Y_M_blown.1 = true := by decide +kernel
def Y_X_given : YT := (⟨"SinkingChoir", "given", "(I)Z"⟩, prog_1_method_18_code, 2, some .boolean)
theorem cw_X_given : Cond.code Y_X_given.1 Y_X_given.2.1 Y_X_given.2.2.1 Y_X_given.2.2.2 ∈ tb := mem_c3 182 rfl rfl
theorem pn_X_given : plainFor Y_X_given.1 = true := by decide +kernel
def Y_M_given : YT := (⟨"SinkingChoirModel", "given", "(I)Z"⟩, prog_14_method_49_code, 2, some .boolean)
theorem cw_M_given : Cond.code Y_M_given.1 Y_M_given.2.1 Y_M_given.2.2.1 Y_M_given.2.2.2 ∈ tb := mem_c7 139 rfl rfl
theorem pn_M_given : plainFor Y_M_given.1 = true := by decide +kernel
def Y_Rl_hasRoom : YT := (⟨"SinkingChoir$Reel", "hasRoom", "()Z"⟩, prog_8_method_2_code, 1, some .boolean)
theorem cw_Rl_hasRoom : Cond.code Y_Rl_hasRoom.1 Y_Rl_hasRoom.2.1 Y_Rl_hasRoom.2.2.1 Y_Rl_hasRoom.2.2.2 ∈ tb := mem_c3 191 rfl rfl
theorem pn_Rl_hasRoom : plainFor Y_Rl_hasRoom.1 = true := by decide +kernel
def Y_Rl_add : YT := (⟨"SinkingChoir$Reel", "add", "(I)V"⟩, prog_8_method_3_code, 3, none)
theorem cw_Rl_add : Cond.code Y_Rl_add.1 Y_Rl_add.2.1 Y_Rl_add.2.2.1 Y_Rl_add.2.2.2 ∈ tb := mem_c3 195 rfl rfl
theorem pn_Rl_add : plainFor Y_Rl_add.1 = true := by decide +kernel
def Y_X_feed : YT := (⟨"SinkingChoir", "feed", "(IIIII)I"⟩, prog_1_method_19_code, 6, some .int)
theorem cw_X_feed : Cond.code Y_X_feed.1 Y_X_feed.2.1 Y_X_feed.2.2.1 Y_X_feed.2.2.2 ∈ tb := mem_c3 187 rfl rfl
theorem pn_X_feed : plainFor Y_X_feed.1 = true := by decide +kernel
def Y_M_push : YT := (⟨"SinkingChoirModel", "push", "(I)V"⟩, prog_14_method_50_code, 3, none)
theorem cw_M_push : Cond.code Y_M_push.1 Y_M_push.2.1 Y_M_push.2.2.1 Y_M_push.2.2.2 ∈ tb := mem_c7 148 rfl rfl
theorem pn_M_push : plainFor Y_M_push.1 = true := by decide +kernel
def Y_M_feed : YT := (⟨"SinkingChoirModel", "feed", "(IIIII)I"⟩, prog_14_method_51_code, 6, some .int)
theorem cw_M_feed : Cond.code Y_M_feed.1 Y_M_feed.2.1 Y_M_feed.2.2.1 Y_M_feed.2.2.2 ∈ tb := mem_c7 144 rfl rfl
theorem pn_M_feed : plainFor Y_M_feed.1 = true := by decide +kernel
def Y_Pr_clear : YT := (⟨"SinkingChoir$Program", "clear", "()V"⟩, prog_6_method_2_code, 1, none)
theorem cw_Pr_clear : Cond.code Y_Pr_clear.1 Y_Pr_clear.2.1 Y_Pr_clear.2.2.1 Y_Pr_clear.2.2.2 ∈ tb := mem_c3 209 rfl rfl
theorem pn_Pr_clear : plainFor Y_Pr_clear.1 = true := by decide +kernel
def Y_Re_here : YT := (⟨"SinkingChoir$Reader", "here", "()I"⟩, prog_7_method_4_code, 1, some .int)
theorem cw_Re_here : Cond.code Y_Re_here.1 Y_Re_here.2.1 Y_Re_here.2.2.1 Y_Re_here.2.2.2 ∈ tb := mem_c3 218 rfl rfl
theorem pn_Re_here : plainFor Y_Re_here.1 = true := by decide +kernel
def Y_Str_isLatin1 : YT := (⟨"java/lang/String", "isLatin1", "()Z"⟩, prog_18_method_154_code, 1, some .boolean)
theorem cw_Str_isLatin1 : Cond.code Y_Str_isLatin1.1 Y_Str_isLatin1.2.1 Y_Str_isLatin1.2.2.1 Y_Str_isLatin1.2.2.2 ∈ tb := mem_c3 233 rfl rfl
theorem pn_Str_isLatin1 : plainFor Y_Str_isLatin1.1 = true := by decide +kernel
def Y_SL_canEncode : YT := (⟨"java/lang/StringLatin1", "canEncode", "(I)Z"⟩, prog_19_method_4_code, 1, some .boolean)
theorem cw_SL_canEncode : Cond.code Y_SL_canEncode.1 Y_SL_canEncode.2.1 Y_SL_canEncode.2.2.1 Y_SL_canEncode.2.2.2 ∈ tb := mem_c4 0 rfl rfl
theorem pn_SL_canEncode : plainFor Y_SL_canEncode.1 = true := by decide +kernel
def Y_Mt_max_II : YT := (⟨"java/lang/Math", "max", "(II)I"⟩, prog_17_method_65_code, 2, some .int)
theorem cw_Mt_max_II : Cond.code Y_Mt_max_II.1 Y_Mt_max_II.2.1 Y_Mt_max_II.2.2.1 Y_Mt_max_II.2.2.2 ∈ tb := mem_c4 3 rfl rfl
theorem pn_Mt_max_II : plainFor Y_Mt_max_II.1 = true := by decide +kernel
def Y_SL_indexOfChar : YT := (⟨"java/lang/StringLatin1", "indexOfChar", "([BIII)I"⟩, prog_19_method_23_code, 6, some .int)
theorem cw_SL_indexOfChar : Cond.code Y_SL_indexOfChar.1 Y_SL_indexOfChar.2.1 Y_SL_indexOfChar.2.2.1 Y_SL_indexOfChar.2.2.2 ∈ tb := mem_c4 7 rfl rfl
theorem pn_SL_indexOfChar : plainFor Y_SL_indexOfChar.1 = true := by decide +kernel
def Y_SL_indexOf : YT := (⟨"java/lang/StringLatin1", "indexOf", "([BIII)I"⟩, prog_19_method_22_code, 4, some .int)
theorem cw_SL_indexOf : Cond.code Y_SL_indexOf.1 Y_SL_indexOf.2.1 Y_SL_indexOf.2.2.1 Y_SL_indexOf.2.2.2 ∈ tb := mem_c3 237 rfl rfl
theorem pn_SL_indexOf : plainFor Y_SL_indexOf.1 = true := by decide +kernel
def Y_Str_indexOf_II : YT := (⟨"java/lang/String", "indexOf", "(II)I"⟩, prog_18_method_80_code, 3, some .int)
theorem cw_Str_indexOf_II : Cond.code Y_Str_indexOf_II.1 Y_Str_indexOf_II.2.1 Y_Str_indexOf_II.2.2.1 Y_Str_indexOf_II.2.2.2 ∈ tb := mem_c3 229 rfl rfl
theorem pn_Str_indexOf_II : plainFor Y_Str_indexOf_II.1 = true := by decide +kernel
def Y_Str_indexOf_I : YT := (⟨"java/lang/String", "indexOf", "(I)I"⟩, prog_18_method_79_code, 2, some .int)
theorem cw_Str_indexOf_I : Cond.code Y_Str_indexOf_I.1 Y_Str_indexOf_I.2.1 Y_Str_indexOf_I.2.2.1 Y_Str_indexOf_I.2.2.2 ∈ tb := mem_c3 225 rfl rfl
theorem pn_Str_indexOf_I : plainFor Y_Str_indexOf_I.1 = true := by decide +kernel
def Y_Re_indexIn : YT := (⟨"SinkingChoir$Reader", "indexIn", "(Ljava/lang/String;I)I"⟩, prog_7_method_7_code, 2, some .int)
theorem cw_Re_indexIn : Cond.code Y_Re_indexIn.1 Y_Re_indexIn.2.1 Y_Re_indexIn.2.2.1 Y_Re_indexIn.2.2.2 ∈ tb := mem_c3 221 rfl rfl
theorem pn_Re_indexIn : plainFor Y_Re_indexIn.1 = true := by decide +kernel
def Y_Re_fail : YT := (⟨"SinkingChoir$Reader", "fail", "(I)V"⟩, prog_7_method_5_code, 2, none)
theorem cw_Re_fail : Cond.code Y_Re_fail.1 Y_Re_fail.2.1 Y_Re_fail.2.2.1 Y_Re_fail.2.2.2 ∈ tb := mem_c4 60 rfl rfl
theorem pn_Re_fail : plainFor Y_Re_fail.1 = true := by decide +kernel
def Y_Pr_open : YT := (⟨"SinkingChoir$Program", "open", "(I)V"⟩, prog_6_method_5_code, 2, none)
theorem cw_Pr_open : Cond.code Y_Pr_open.1 Y_Pr_open.2.1 Y_Pr_open.2.2.1 Y_Pr_open.2.2.2 ∈ tb := mem_c4 64 rfl rfl
theorem pn_Pr_open : plainFor Y_Pr_open.1 = true := by decide +kernel
def Y_Pr_add : YT := (⟨"SinkingChoir$Program", "add", "(II)I"⟩, prog_6_method_3_code, 3, some .int)
theorem cw_Pr_add : Cond.code Y_Pr_add.1 Y_Pr_add.2.1 Y_Pr_add.2.2.1 Y_Pr_add.2.2.2 ∈ tb := mem_c4 81 rfl rfl
theorem pn_Pr_add : plainFor Y_Pr_add.1 = true := by decide +kernel
def Y_Pr_land : YT := (⟨"SinkingChoir$Program", "land", "(I)V"⟩, prog_6_method_4_code, 2, none)
theorem cw_Pr_land : Cond.code Y_Pr_land.1 Y_Pr_land.2.1 Y_Pr_land.2.2.1 Y_Pr_land.2.2.2 ∈ tb := mem_c4 116 rfl rfl
theorem pn_Pr_land : plainFor Y_Pr_land.1 = true := by decide +kernel
def Y_Re_comparison : YT := (⟨"SinkingChoir$Reader", "comparison", "()I"⟩, prog_7_method_12_code, 2, some .int)
theorem cw_Re_comparison : Cond.code Y_Re_comparison.1 Y_Re_comparison.2.1 Y_Re_comparison.2.2.1 Y_Re_comparison.2.2.2 ∈ tb := mem_c4 112 rfl rfl
theorem pn_Re_comparison : plainFor Y_Re_comparison.1 = true := by decide +kernel
def Y_Re_take : YT := (⟨"SinkingChoir$Reader", "take", "(I)V"⟩, prog_7_method_6_code, 2, none)
theorem cw_Re_take : Cond.code Y_Re_take.1 Y_Re_take.2.1 Y_Re_take.2.2.1 Y_Re_take.2.2.2 ∈ tb := mem_c4 92 rfl rfl
theorem pn_Re_take : plainFor Y_Re_take.1 = true := by decide +kernel
def Y_Re_isDigit : YT := (⟨"SinkingChoir$Reader", "isDigit", "(I)Z"⟩, prog_7_method_16_code, 1, some .boolean)
theorem cw_Re_isDigit : Cond.code Y_Re_isDigit.1 Y_Re_isDigit.2.1 Y_Re_isDigit.2.2.1 Y_Re_isDigit.2.2.2 ∈ tb := mem_c4 84 rfl rfl
theorem pn_Re_isDigit : plainFor Y_Re_isDigit.1 = true := by decide +kernel
def Y_Re_number : YT := (⟨"SinkingChoir$Reader", "number", "()V"⟩, prog_7_method_17_code, 3, none)
theorem cw_Re_number : Cond.code Y_Re_number.1 Y_Re_number.2.1 Y_Re_number.2.2.1 Y_Re_number.2.2.2 ∈ tb := mem_c4 88 rfl rfl
theorem pn_Re_number : plainFor Y_Re_number.1 = true := by decide +kernel
def Y_Re_either : YT := (⟨"SinkingChoir$Reader", "either", "(I)V"⟩, prog_7_method_9_code, 4, none)
theorem cw_Re_either : Cond.code Y_Re_either.1 Y_Re_either.2.1 Y_Re_either.2.2.1 Y_Re_either.2.2.2 ∈ tb := mem_c4 100 rfl rfl
theorem pn_Re_either : plainFor Y_Re_either.1 = true := by decide +kernel
def Y_Re_all : YT := (⟨"SinkingChoir$Reader", "all", "(I)V"⟩, prog_7_method_10_code, 4, none)
theorem cw_Re_all : Cond.code Y_Re_all.1 Y_Re_all.2.1 Y_Re_all.2.2.1 Y_Re_all.2.2.2 ∈ tb := mem_c4 104 rfl rfl
theorem pn_Re_all : plainFor Y_Re_all.1 = true := by decide +kernel
def Y_Re_piece : YT := (⟨"SinkingChoir$Reader", "piece", "(I)V"⟩, prog_7_method_11_code, 4, none)
theorem cw_Re_piece : Cond.code Y_Re_piece.1 Y_Re_piece.2.1 Y_Re_piece.2.2.1 Y_Re_piece.2.2.2 ∈ tb := mem_c4 108 rfl rfl
theorem pn_Re_piece : plainFor Y_Re_piece.1 = true := by decide +kernel
def Y_Re_sum : YT := (⟨"SinkingChoir$Reader", "sum", "(I)V"⟩, prog_7_method_13_code, 4, none)
theorem cw_Re_sum : Cond.code Y_Re_sum.1 Y_Re_sum.2.1 Y_Re_sum.2.2.1 Y_Re_sum.2.2.2 ∈ tb := mem_c4 68 rfl rfl
theorem pn_Re_sum : plainFor Y_Re_sum.1 = true := by decide +kernel
def Y_Re_product : YT := (⟨"SinkingChoir$Reader", "product", "(I)V"⟩, prog_7_method_14_code, 4, none)
theorem cw_Re_product : Cond.code Y_Re_product.1 Y_Re_product.2.1 Y_Re_product.2.2.1 Y_Re_product.2.2.2 ∈ tb := mem_c4 72 rfl rfl
theorem pn_Re_product : plainFor Y_Re_product.1 = true := by decide +kernel
def Y_Re_factor : YT := (⟨"SinkingChoir$Reader", "factor", "(I)V"⟩, prog_7_method_15_code, 4, none)
theorem cw_Re_factor : Cond.code Y_Re_factor.1 Y_Re_factor.2.1 Y_Re_factor.2.2.1 Y_Re_factor.2.2.2 ∈ tb := mem_c4 76 rfl rfl
theorem pn_Re_factor : plainFor Y_Re_factor.1 = true := by decide +kernel
def Y_Pr_divide : YT := (⟨"SinkingChoir$Program", "divide", "()V"⟩, prog_6_method_6_code, 1, none)
theorem cw_Pr_divide : Cond.code Y_Pr_divide.1 Y_Pr_divide.2.1 Y_Pr_divide.2.2.1 Y_Pr_divide.2.2.2 ∈ tb := mem_c4 96 rfl rfl
theorem pn_Pr_divide : plainFor Y_Pr_divide.1 = true := by decide +kernel
def Y_Pr_close : YT := (⟨"SinkingChoir$Program", "close", "()V"⟩, prog_6_method_7_code, 1, none)
theorem cw_Pr_close : Cond.code Y_Pr_close.1 Y_Pr_close.2.1 Y_Pr_close.2.2.1 Y_Pr_close.2.2.2 ∈ tb := mem_c4 120 rfl rfl
theorem pn_Pr_close : plainFor Y_Pr_close.1 = true := by decide +kernel
def Y_Re_clause : YT := (⟨"SinkingChoir$Reader", "clause", "(I)V"⟩, prog_7_method_8_code, 3, none)
theorem cw_Re_clause : Cond.code Y_Re_clause.1 Y_Re_clause.2.1 Y_Re_clause.2.2.1 Y_Re_clause.2.2.2 ∈ tb := mem_c3 213 rfl rfl
theorem pn_Re_clause : plainFor Y_Re_clause.1 = true := by decide +kernel
def Y_Re_read : YT := (⟨"SinkingChoir$Reader", "read", "([II)I"⟩, prog_7_method_2_code, 4, some .int)
theorem cw_Re_read : Cond.code Y_Re_read.1 Y_Re_read.2.1 Y_Re_read.2.2.1 Y_Re_read.2.2.2 ∈ tb := mem_c3 203 rfl rfl
theorem pn_Re_read : plainFor Y_Re_read.1 = true := by decide +kernel
def Y_Re_exchange : YT := (⟨"SinkingChoir$Reader", "exchange", "(LSinkingChoir$Program;)LSinkingChoir$Program;"⟩, prog_7_method_3_code, 3, some (.object "SinkingChoir$Program"))
theorem cw_Re_exchange : Cond.code Y_Re_exchange.1 Y_Re_exchange.2.1 Y_Re_exchange.2.2.1 Y_Re_exchange.2.2.2 ∈ tb := mem_c4 124 rfl rfl
theorem pn_Re_exchange : plainFor Y_Re_exchange.1 = true := by decide +kernel
def Y_X_text : YT := (⟨"SinkingChoir", "text", "(I)I"⟩, prog_1_method_20_code, 3, some .int)
theorem cw_X_text : Cond.code Y_X_text.1 Y_X_text.2.1 Y_X_text.2.2.1 Y_X_text.2.2.2 ∈ tb := mem_c3 199 rfl rfl
theorem pn_X_text : plainFor Y_X_text.1 = true := by decide +kernel
def Y_M_isGood : YT := (⟨"SinkingChoirModel", "isGood", "()Z"⟩, prog_14_method_54_code, 1, some .boolean)
theorem cw_M_isGood : Cond.code Y_M_isGood.1 Y_M_isGood.2.1 Y_M_isGood.2.2.1 Y_M_isGood.2.2.2 ∈ tb := mem_c7 157 rfl rfl
theorem pn_M_isGood : plainFor Y_M_isGood.1 = true := by decide +kernel
def Y_M_here : YT := (⟨"SinkingChoirModel", "here", "()I"⟩, prog_14_method_52_code, 1, some .int)
theorem cw_M_here : Cond.code Y_M_here.1 Y_M_here.2.1 Y_M_here.2.2.1 Y_M_here.2.2.2 ∈ tb := mem_c7 165 rfl rfl
theorem pn_M_here : plainFor Y_M_here.1 = true := by decide +kernel
def Y_M_wrongs : YT := (⟨"SinkingChoirModel", "wrongs", "(II)V"⟩, prog_14_method_53_code, 3, none)
theorem cw_M_wrongs : Cond.code Y_M_wrongs.1 Y_M_wrongs.2.1 Y_M_wrongs.2.2.1 Y_M_wrongs.2.2.2 ∈ tb := mem_c7 169 rfl rfl
theorem pn_M_wrongs : plainFor Y_M_wrongs.1 = true := by decide +kernel
def Y_M_puts : YT := (⟨"SinkingChoirModel", "puts", "(I)V"⟩, prog_14_method_57_code, 2, none)
theorem cw_M_puts : Cond.code Y_M_puts.1 Y_M_puts.2.1 Y_M_puts.2.2.1 Y_M_puts.2.2.2 ∈ tb := mem_c7 185 rfl rfl
theorem pn_M_puts : plainFor Y_M_puts.1 = true := by decide +kernel
def Y_M_opens : YT := (⟨"SinkingChoirModel", "opens", "()V"⟩, prog_14_method_58_code, 1, none)
theorem cw_M_opens : Cond.code Y_M_opens.1 Y_M_opens.2.1 Y_M_opens.2.2.1 Y_M_opens.2.2.2 ∈ tb := mem_c7 181 rfl rfl
theorem pn_M_opens : plainFor Y_M_opens.1 = true := by decide +kernel
def Y_M_seesDigit : YT := (⟨"SinkingChoirModel", "seesDigit", "()Z"⟩, prog_14_method_59_code, 1, some .boolean)
theorem cw_M_seesDigit : Cond.code Y_M_seesDigit.1 Y_M_seesDigit.2.1 Y_M_seesDigit.2.2.1 Y_M_seesDigit.2.2.2 ∈ tb := mem_c7 189 rfl rfl
theorem pn_M_seesDigit : plainFor Y_M_seesDigit.1 = true := by decide +kernel
def Y_M_reads : YT := (⟨"SinkingChoirModel", "reads", "()I"⟩, prog_14_method_60_code, 3, some .int)
theorem cw_M_reads : Cond.code Y_M_reads.1 Y_M_reads.2.1 Y_M_reads.2.2.1 Y_M_reads.2.2.2 ∈ tb := mem_c7 195 rfl rfl
theorem pn_M_reads : plainFor Y_M_reads.1 = true := by decide +kernel
def Y_M_emit : YT := (⟨"SinkingChoirModel", "emit", "(II)V"⟩, prog_14_method_55_code, 3, none)
theorem cw_M_emit : Cond.code Y_M_emit.1 Y_M_emit.2.1 Y_M_emit.2.2.1 Y_M_emit.2.2.2 ∈ tb := mem_c7 199 rfl rfl
theorem pn_M_emit : plainFor Y_M_emit.1 = true := by decide +kernel
def Y_M_isValue : YT := (⟨"SinkingChoirModel", "isValue", "(I)Z"⟩, prog_14_method_64_code, 1, some .boolean)
theorem cw_M_isValue : Cond.code Y_M_isValue.1 Y_M_isValue.2.1 Y_M_isValue.2.2.1 Y_M_isValue.2.2.2 ∈ tb := mem_c7 202 rfl rfl
theorem pn_M_isValue : plainFor Y_M_isValue.1 = true := by decide +kernel
def Y_M_factor : YT := (⟨"SinkingChoirModel", "factor", "()V"⟩, prog_14_method_68_code, 1, none)
theorem cw_M_factor : Cond.code Y_M_factor.1 Y_M_factor.2.1 Y_M_factor.2.2.1 Y_M_factor.2.2.2 ∈ tb := mem_c7 177 rfl rfl
theorem pn_M_factor : plainFor Y_M_factor.1 = true := by decide +kernel
def Y_M_isTimes : YT := (⟨"SinkingChoirModel", "isTimes", "(I)Z"⟩, prog_14_method_61_code, 1, some .boolean)
theorem cw_M_isTimes : Cond.code Y_M_isTimes.1 Y_M_isTimes.2.1 Y_M_isTimes.2.2.1 Y_M_isTimes.2.2.2 ∈ tb := mem_c7 209 rfl rfl
theorem pn_M_isTimes : plainFor Y_M_isTimes.1 = true := by decide +kernel
def Y_M_isPlus : YT := (⟨"SinkingChoirModel", "isPlus", "(I)Z"⟩, prog_14_method_62_code, 1, some .boolean)
theorem cw_M_isPlus : Cond.code Y_M_isPlus.1 Y_M_isPlus.2.1 Y_M_isPlus.2.2.1 Y_M_isPlus.2.2.2 ∈ tb := mem_c7 212 rfl rfl
theorem pn_M_isPlus : plainFor Y_M_isPlus.1 = true := by decide +kernel
def Y_M_top : YT := (⟨"SinkingChoirModel", "top", "()I"⟩, prog_14_method_56_code, 1, some .int)
theorem cw_M_top : Cond.code Y_M_top.1 Y_M_top.2.1 Y_M_top.2.2.1 Y_M_top.2.2.2 ∈ tb := mem_c7 220 rfl rfl
theorem pn_M_top : plainFor Y_M_top.1 = true := by decide +kernel
def Y_M_sums : YT := (⟨"SinkingChoirModel", "sums", "(Z)V"⟩, prog_14_method_65_code, 2, none)
theorem cw_M_sums : Cond.code Y_M_sums.1 Y_M_sums.2.1 Y_M_sums.2.2.1 Y_M_sums.2.2.2 ∈ tb := mem_c7 216 rfl rfl
theorem pn_M_sums : plainFor Y_M_sums.1 = true := by decide +kernel
def Y_M_stays : YT := (⟨"SinkingChoirModel", "stays", "()Z"⟩, prog_14_method_69_code, 2, some .boolean)
theorem cw_M_stays : Cond.code Y_M_stays.1 Y_M_stays.2.1 Y_M_stays.2.2.1 Y_M_stays.2.2.2 ∈ tb := mem_c7 206 rfl rfl
theorem pn_M_stays : plainFor Y_M_stays.1 = true := by decide +kernel
def Y_M_value : YT := (⟨"SinkingChoirModel", "value", "()V"⟩, prog_14_method_70_code, 2, none)
theorem cw_M_value : Cond.code Y_M_value.1 Y_M_value.2.1 Y_M_value.2.2.1 Y_M_value.2.2.2 ∈ tb := mem_c7 173 rfl rfl
theorem pn_M_value : plainFor Y_M_value.1 = true := by decide +kernel
def Y_M_isSign : YT := (⟨"SinkingChoirModel", "isSign", "(I)Z"⟩, prog_14_method_63_code, 1, some .boolean)
theorem cw_M_isSign : Cond.code Y_M_isSign.1 Y_M_isSign.2.1 Y_M_isSign.2.2.1 Y_M_isSign.2.2.2 ∈ tb := mem_c7 231 rfl rfl
theorem pn_M_isSign : plainFor Y_M_isSign.1 = true := by decide +kernel
def Y_M_ends : YT := (⟨"SinkingChoirModel", "ends", "()V"⟩, prog_14_method_67_code, 1, none)
theorem cw_M_ends : Cond.code Y_M_ends.1 Y_M_ends.2.1 Y_M_ends.2.2.1 Y_M_ends.2.2.2 ∈ tb := mem_c7 235 rfl rfl
theorem pn_M_ends : plainFor Y_M_ends.1 = true := by decide +kernel
def Y_M_pieceOfC : YT := (⟨"SinkingChoirModel", "pieceOfC", "()V"⟩, prog_14_method_71_code, 2, none)
theorem cw_M_pieceOfC : Cond.code Y_M_pieceOfC.1 Y_M_pieceOfC.2.1 Y_M_pieceOfC.2.2.1 Y_M_pieceOfC.2.2.2 ∈ tb := mem_c7 228 rfl rfl
theorem pn_M_pieceOfC : plainFor Y_M_pieceOfC.1 = true := by decide +kernel
def Y_M_joins : YT := (⟨"SinkingChoirModel", "joins", "(Z)V"⟩, prog_14_method_66_code, 2, none)
theorem cw_M_joins : Cond.code Y_M_joins.1 Y_M_joins.2.1 Y_M_joins.2.2.1 Y_M_joins.2.2.2 ∈ tb := mem_c8 3 rfl rfl
theorem pn_M_joins : plainFor Y_M_joins.1 = true := by decide +kernel
def Y_M_goesBehind : YT := (⟨"SinkingChoirModel", "goesBehind", "()Z"⟩, prog_14_method_72_code, 2, some .boolean)
theorem cw_M_goesBehind : Cond.code Y_M_goesBehind.1 Y_M_goesBehind.2.1 Y_M_goesBehind.2.2.1 Y_M_goesBehind.2.2.2 ∈ tb := mem_c7 239 rfl rfl
theorem pn_M_goesBehind : plainFor Y_M_goesBehind.1 = true := by decide +kernel
def Y_M_condition : YT := (⟨"SinkingChoirModel", "condition", "()V"⟩, prog_14_method_73_code, 2, none)
theorem cw_M_condition : Cond.code Y_M_condition.1 Y_M_condition.2.1 Y_M_condition.2.2.1 Y_M_condition.2.2.2 ∈ tb := mem_c7 224 rfl rfl
theorem pn_M_condition : plainFor Y_M_condition.1 = true := by decide +kernel
def Y_M_clause : YT := (⟨"SinkingChoirModel", "clause", "()V"⟩, prog_14_method_74_code, 2, none)
theorem cw_M_clause : Cond.code Y_M_clause.1 Y_M_clause.2.1 Y_M_clause.2.2.1 Y_M_clause.2.2.2 ∈ tb := mem_c7 161 rfl rfl
theorem pn_M_clause : plainFor Y_M_clause.1 = true := by decide +kernel
def Y_M_text : YT := (⟨"SinkingChoirModel", "text", "(I)I"⟩, prog_14_method_75_code, 4, some .int)
theorem cw_M_text : Cond.code Y_M_text.1 Y_M_text.2.1 Y_M_text.2.2.1 Y_M_text.2.2.2 ∈ tb := mem_c7 152 rfl rfl
theorem pn_M_text : plainFor Y_M_text.1 = true := by decide +kernel
def Y_Ch_sings : YT := (⟨"SinkingChoir$Choir", "sings", "(II)Z"⟩, prog_2_method_3_code, 3, some .boolean)
theorem cw_Ch_sings : Cond.code Y_Ch_sings.1 Y_Ch_sings.2.1 Y_Ch_sings.2.2.1 Y_Ch_sings.2.2.2 ∈ tb := mem_c4 132 rfl rfl
theorem pn_Ch_sings : plainFor Y_Ch_sings.1 = true := by decide +kernel
def Y_Ch_howMany : YT := (⟨"SinkingChoir$Choir", "howMany", "(I)I"⟩, prog_2_method_4_code, 4, some .int)
theorem cw_Ch_howMany : Cond.code Y_Ch_howMany.1 Y_Ch_howMany.2.1 Y_Ch_howMany.2.2.1 Y_Ch_howMany.2.2.2 ∈ tb := mem_c4 146 rfl rfl
theorem pn_Ch_howMany : plainFor Y_Ch_howMany.1 = true := by decide +kernel
def Y_Ch_lastNote : YT := (⟨"SinkingChoir$Choir", "lastNote", "(II)I"⟩, prog_2_method_6_code, 4, some .int)
theorem cw_Ch_lastNote : Cond.code Y_Ch_lastNote.1 Y_Ch_lastNote.2.1 Y_Ch_lastNote.2.2.1 Y_Ch_lastNote.2.2.2 ∈ tb := mem_c4 155 rfl rfl
theorem pn_Ch_lastNote : plainFor Y_Ch_lastNote.1 = true := by decide +kernel
def Y_Mt_floorMod : YT := (⟨"java/lang/Math", "floorMod", "(II)I"⟩, prog_17_method_50_code, 3, some .int)
theorem cw_Mt_floorMod : Cond.code Y_Mt_floorMod.1 Y_Mt_floorMod.2.1 Y_Mt_floorMod.2.2.1 Y_Mt_floorMod.2.2.2 ∈ tb := mem_c4 168 rfl rfl
theorem pn_Mt_floorMod : plainFor Y_Mt_floorMod.1 = true := by decide +kernel
def Y_Ch_tableOf : YT := (⟨"SinkingChoir$Choir", "tableOf", "(II)I"⟩, prog_2_method_10_code, 3, some .int)
theorem cw_Ch_tableOf : Cond.code Y_Ch_tableOf.1 Y_Ch_tableOf.2.1 Y_Ch_tableOf.2.2.1 Y_Ch_tableOf.2.2.2 ∈ tb := mem_c4 164 rfl rfl
theorem pn_Ch_tableOf : plainFor Y_Ch_tableOf.1 = true := by decide +kernel
def Y_Si_tableOf : YT := (⟨"SinkingChoir$Singing", "tableOf", "(II)J"⟩, prog_10_method_8_code, 3, some .long)
theorem cw_Si_tableOf : Cond.code Y_Si_tableOf.1 Y_Si_tableOf.2.1 Y_Si_tableOf.2.2.1 Y_Si_tableOf.2.2.2 ∈ tb := mem_c4 159 rfl rfl
theorem pn_Si_tableOf : plainFor Y_Si_tableOf.1 = true := by decide +kernel
def Y_Si_giveAgain : YT := (⟨"SinkingChoir$Singing", "giveAgain", "(I)V"⟩, prog_10_method_4_code, 4, none)
theorem cw_Si_giveAgain : Cond.code Y_Si_giveAgain.1 Y_Si_giveAgain.2.1 Y_Si_giveAgain.2.2.1 Y_Si_giveAgain.2.2.2 ∈ tb := mem_c4 151 rfl rfl
theorem pn_Si_giveAgain : plainFor Y_Si_giveAgain.1 = true := by decide +kernel
def Y_Si_isKnowing : YT := (⟨"SinkingChoir$Singing", "isKnowing", "(I)Z"⟩, prog_10_method_7_code, 2, some .boolean)
theorem cw_Si_isKnowing : Cond.code Y_Si_isKnowing.1 Y_Si_isKnowing.2.1 Y_Si_isKnowing.2.2.1 Y_Si_isKnowing.2.2.2 ∈ tb := mem_c4 182 rfl rfl
theorem pn_Si_isKnowing : plainFor Y_Si_isKnowing.1 = true := by decide +kernel
def Y_Mt_floorDiv : YT := (⟨"java/lang/Math", "floorDiv", "(JJ)J"⟩, prog_17_method_49_code, 6, some .long)
theorem cw_Mt_floorDiv : Cond.code Y_Mt_floorDiv.1 Y_Mt_floorDiv.2.1 Y_Mt_floorDiv.2.2.1 Y_Mt_floorDiv.2.2.2 ∈ tb := mem_c4 189 rfl rfl
theorem pn_Mt_floorDiv : plainFor Y_Mt_floorDiv.1 = true := by decide +kernel
def Y_Si_tellLetters : YT := (⟨"SinkingChoir$Singing", "tellLetters", "(III)V"⟩, prog_10_method_6_code, 6, none)
theorem cw_Si_tellLetters : Cond.code Y_Si_tellLetters.1 Y_Si_tellLetters.2.1 Y_Si_tellLetters.2.2.1 Y_Si_tellLetters.2.2.2 ∈ tb := mem_c4 178 rfl rfl
theorem pn_Si_tellLetters : plainFor Y_Si_tellLetters.1 = true := by decide +kernel
def Y_Pr_reckoned : YT := (⟨"SinkingChoir$Program", "reckoned", "(III)I"⟩, prog_6_method_11_code, 3, some .int)
theorem cw_Pr_reckoned : Cond.code Y_Pr_reckoned.1 Y_Pr_reckoned.2.1 Y_Pr_reckoned.2.2.1 Y_Pr_reckoned.2.2.2 ∈ tb := mem_c4 202 rfl rfl
theorem pn_Pr_reckoned : plainFor Y_Pr_reckoned.1 = true := by decide +kernel
def Y_Pr_reckon : YT := (⟨"SinkingChoir$Program", "reckon", "(II[I)Z"⟩, prog_6_method_10_code, 8, some .boolean)
theorem cw_Pr_reckon : Cond.code Y_Pr_reckon.1 Y_Pr_reckon.2.1 Y_Pr_reckon.2.2.1 Y_Pr_reckon.2.2.2 ∈ tb := mem_c4 198 rfl rfl
theorem pn_Pr_reckon : plainFor Y_Pr_reckon.1 = true := by decide +kernel
def Y_Pr_within : YT := (⟨"SinkingChoir$Program", "within", "(II)I"⟩, prog_6_method_9_code, 4, some .int)
theorem cw_Pr_within : Cond.code Y_Pr_within.1 Y_Pr_within.2.1 Y_Pr_within.2.2.1 Y_Pr_within.2.2.2 ∈ tb := mem_c4 205 rfl rfl
theorem pn_Pr_within : plainFor Y_Pr_within.1 = true := by decide +kernel
def Y_Pr_weigh : YT := (⟨"SinkingChoir$Program", "weigh", "([I[I)V"⟩, prog_6_method_8_code, 7, none)
theorem cw_Pr_weigh : Cond.code Y_Pr_weigh.1 Y_Pr_weigh.2.1 Y_Pr_weigh.2.2.1 Y_Pr_weigh.2.2.2 ∈ tb := mem_c4 193 rfl rfl
theorem pn_Pr_weigh : plainFor Y_Pr_weigh.1 = true := by decide +kernel
def Y_Ch_heard : YT := (⟨"SinkingChoir$Choir", "heard", "(III)I"⟩, prog_2_method_9_code, 4, some .int)
theorem cw_Ch_heard : Cond.code Y_Ch_heard.1 Y_Ch_heard.2.1 Y_Ch_heard.2.2.1 Y_Ch_heard.2.2.2 ∈ tb := mem_c4 212 rfl rfl
theorem pn_Ch_heard : plainFor Y_Ch_heard.1 = true := by decide +kernel
def Y_Si_millsOf : YT := (⟨"SinkingChoir$Singing", "millsOf", "(II)J"⟩, prog_10_method_9_code, 3, some .long)
theorem cw_Si_millsOf : Cond.code Y_Si_millsOf.1 Y_Si_millsOf.2.1 Y_Si_millsOf.2.2.1 Y_Si_millsOf.2.2.2 ∈ tb := mem_c4 217 rfl rfl
theorem pn_Si_millsOf : plainFor Y_Si_millsOf.1 = true := by decide +kernel
def Y_Si_givenIn : YT := (⟨"SinkingChoir$Singing", "givenIn", "(I)I"⟩, prog_10_method_10_code, 3, some .int)
theorem cw_Si_givenIn : Cond.code Y_Si_givenIn.1 Y_Si_givenIn.2.1 Y_Si_givenIn.2.2.1 Y_Si_givenIn.2.2.2 ∈ tb := mem_c4 221 rfl rfl
theorem pn_Si_givenIn : plainFor Y_Si_givenIn.1 = true := by decide +kernel
def Y_Si_aim : YT := (⟨"SinkingChoir$Singing", "aim", "(IIIJ)V"⟩, prog_10_method_11_code, 12, none)
theorem cw_Si_aim : Cond.code Y_Si_aim.1 Y_Si_aim.2.1 Y_Si_aim.2.2.1 Y_Si_aim.2.2.2 ∈ tb := mem_c4 209 rfl rfl
theorem pn_Si_aim : plainFor Y_Si_aim.1 = true := by decide +kernel
def Y_Si_blend : YT := (⟨"SinkingChoir$Singing", "blend", "(IIII)J"⟩, prog_10_method_12_code, 11, some .long)
theorem cw_Si_blend : Cond.code Y_Si_blend.1 Y_Si_blend.2.1 Y_Si_blend.2.2.1 Y_Si_blend.2.2.2 ∈ tb := mem_c4 225 rfl rfl
theorem pn_Si_blend : plainFor Y_Si_blend.1 = true := by decide +kernel
def Y_Si_singNote : YT := (⟨"SinkingChoir$Singing", "singNote", "(II)V"⟩, prog_10_method_5_code, 6, none)
theorem cw_Si_singNote : Cond.code Y_Si_singNote.1 Y_Si_singNote.2.1 Y_Si_singNote.2.2.1 Y_Si_singNote.2.2.2 ∈ tb := mem_c4 173 rfl rfl
theorem pn_Si_singNote : plainFor Y_Si_singNote.1 = true := by decide +kernel
def Y_Si_sing : YT := (⟨"SinkingChoir$Singing", "sing", "([IIIZ)V"⟩, prog_10_method_3_code, 7, none)
theorem cw_Si_sing : Cond.code Y_Si_sing.1 Y_Si_sing.2.1 Y_Si_sing.2.2.1 Y_Si_sing.2.2.2 ∈ tb := mem_c4 142 rfl rfl
theorem pn_Si_sing : plainFor Y_Si_sing.1 = true := by decide +kernel
def Y_Si_asTold : YT := (⟨"SinkingChoir$Singing", "asTold", "()V"⟩, prog_10_method_2_code, 1, none)
theorem cw_Si_asTold : Cond.code Y_Si_asTold.1 Y_Si_asTold.2.1 Y_Si_asTold.2.2.1 Y_Si_asTold.2.2.2 ∈ tb := mem_c4 138 rfl rfl
theorem pn_Si_asTold : plainFor Y_Si_asTold.1 = true := by decide +kernel
def Y_Si_sung : YT := (⟨"SinkingChoir$Singing", "sung", "(II)J"⟩, prog_10_method_13_code, 3, some .long)
theorem cw_Si_sung : Cond.code Y_Si_sung.1 Y_Si_sung.2.1 Y_Si_sung.2.2.1 Y_Si_sung.2.2.2 ∈ tb := mem_c4 229 rfl rfl
theorem pn_Si_sung : plainFor Y_Si_sung.1 = true := by decide +kernel
def Y_X_pitch : YT := (⟨"SinkingChoir", "pitch", "(II)I"⟩, prog_1_method_21_code, 3, some .int)
theorem cw_X_pitch : Cond.code Y_X_pitch.1 Y_X_pitch.2.1 Y_X_pitch.2.2.1 Y_X_pitch.2.2.2 ∈ tb := mem_c4 128 rfl rfl
theorem pn_X_pitch : plainFor Y_X_pitch.1 = true := by decide +kernel
def Y_M_sings : YT := (⟨"SinkingChoirModel", "sings", "(II)Z"⟩, prog_14_method_76_code, 3, some .boolean)
theorem cw_M_sings : Cond.code Y_M_sings.1 Y_M_sings.2.1 Y_M_sings.2.2.1 Y_M_sings.2.2.2 ∈ tb := mem_c8 11 rfl rfl
theorem pn_M_sings : plainFor Y_M_sings.1 = true := by decide +kernel
def Y_M_readies : YT := (⟨"SinkingChoirModel", "readies", "()V"⟩, prog_14_method_92_code, 2, none)
theorem cw_M_readies : Cond.code Y_M_readies.1 Y_M_readies.2.1 Y_M_readies.2.2.1 Y_M_readies.2.2.2 ∈ tb := mem_c8 19 rfl rfl
theorem pn_M_readies : plainFor Y_M_readies.1 = true := by decide +kernel
def Y_M_has : YT := (⟨"SinkingChoirModel", "has", "(II)Z"⟩, prog_14_method_3_code, 2, some .boolean)
theorem cw_M_has : Cond.code Y_M_has.1 Y_M_has.2.1 Y_M_has.2.2.1 Y_M_has.2.2.2 ∈ tb := mem_c8 26 rfl rfl
theorem pn_M_has : plainFor Y_M_has.1 = true := by decide +kernel
def Y_M_keyOf : YT := (⟨"SinkingChoirModel", "keyOf", "(II)I"⟩, prog_14_method_77_code, 3, some .int)
theorem cw_M_keyOf : Cond.code Y_M_keyOf.1 Y_M_keyOf.2.1 Y_M_keyOf.2.2.1 Y_M_keyOf.2.2.2 ∈ tb := mem_c8 30 rfl rfl
theorem pn_M_keyOf : plainFor Y_M_keyOf.1 = true := by decide +kernel
def Y_M_tableOf : YT := (⟨"SinkingChoirModel", "tableOf", "(I)I"⟩, prog_14_method_79_code, 2, some .int)
theorem cw_M_tableOf : Cond.code Y_M_tableOf.1 Y_M_tableOf.2.1 Y_M_tableOf.2.2.1 Y_M_tableOf.2.2.2 ∈ tb := mem_c8 34 rfl rfl
theorem pn_M_tableOf : plainFor Y_M_tableOf.1 = true := by decide +kernel
def Y_M_hearsOf : YT := (⟨"SinkingChoirModel", "hearsOf", "(II)I"⟩, prog_14_method_87_code, 4, some .int)
theorem cw_M_hearsOf : Cond.code Y_M_hearsOf.1 Y_M_hearsOf.2.1 Y_M_hearsOf.2.2.1 Y_M_hearsOf.2.2.2 ∈ tb := mem_c8 48 rfl rfl
theorem pn_M_hearsOf : plainFor Y_M_hearsOf.1 = true := by decide +kernel
def Y_M_sizeFor : YT := (⟨"SinkingChoirModel", "sizeFor", "(II)I"⟩, prog_14_method_78_code, 3, some .int)
theorem cw_M_sizeFor : Cond.code Y_M_sizeFor.1 Y_M_sizeFor.2.1 Y_M_sizeFor.2.2.1 Y_M_sizeFor.2.2.2 ∈ tb := mem_c8 52 rfl rfl
theorem pn_M_sizeFor : plainFor Y_M_sizeFor.1 = true := by decide +kernel
def Y_M_floor : YT := (⟨"SinkingChoirModel", "floor", "(JJ)J"⟩, prog_14_method_5_code, 4, some .long)
theorem cw_M_floor : Cond.code Y_M_floor.1 Y_M_floor.2.1 Y_M_floor.2.2.1 Y_M_floor.2.2.2 ∈ tb := mem_c8 55 rfl rfl
theorem pn_M_floor : plainFor Y_M_floor.1 = true := by decide +kernel
def Y_M_listens : YT := (⟨"SinkingChoirModel", "listens", "(II)V"⟩, prog_14_method_88_code, 10, none)
theorem cw_M_listens : Cond.code Y_M_listens.1 Y_M_listens.2.1 Y_M_listens.2.2.1 Y_M_listens.2.2.2 ∈ tb := mem_c8 44 rfl rfl
theorem pn_M_listens : plainFor Y_M_listens.1 = true := by decide +kernel
def Y_M_worked : YT := (⟨"SinkingChoirModel", "worked", "(III)I"⟩, prog_14_method_83_code, 3, some .int)
theorem cw_M_worked : Cond.code Y_M_worked.1 Y_M_worked.2.1 Y_M_worked.2.2.1 Y_M_worked.2.2.2 ∈ tb := mem_c8 70 rfl rfl
theorem pn_M_worked : plainFor Y_M_worked.1 = true := by decide +kernel
def Y_M_does : YT := (⟨"SinkingChoirModel", "does", "(II)V"⟩, prog_14_method_84_code, 4, none)
theorem cw_M_does : Cond.code Y_M_does.1 Y_M_does.2.1 Y_M_does.2.2.1 Y_M_does.2.2.2 ∈ tb := mem_c8 67 rfl rfl
theorem pn_M_does : plainFor Y_M_does.1 = true := by decide +kernel
def Y_M_leapOf : YT := (⟨"SinkingChoirModel", "leapOf", "()I"⟩, prog_14_method_81_code, 2, some .int)
theorem cw_M_leapOf : Cond.code Y_M_leapOf.1 Y_M_leapOf.2.1 Y_M_leapOf.2.2.1 Y_M_leapOf.2.2.2 ∈ tb := mem_c8 78 rfl rfl
theorem pn_M_leapOf : plainFor Y_M_leapOf.1 = true := by decide +kernel
def Y_M_singing : YT := (⟨"SinkingChoirModel", "singing", "(I)I"⟩, prog_14_method_80_code, 4, some .int)
theorem cw_M_singing : Cond.code Y_M_singing.1 Y_M_singing.2.1 Y_M_singing.2.2.1 Y_M_singing.2.2.2 ∈ tb := mem_c8 82 rfl rfl
theorem pn_M_singing : plainFor Y_M_singing.1 = true := by decide +kernel
def Y_M_valueOf : YT := (⟨"SinkingChoirModel", "valueOf", "(I)I"⟩, prog_14_method_82_code, 3, some .int)
theorem cw_M_valueOf : Cond.code Y_M_valueOf.1 Y_M_valueOf.2.1 Y_M_valueOf.2.2.1 Y_M_valueOf.2.2.2 ∈ tb := mem_c8 74 rfl rfl
theorem pn_M_valueOf : plainFor Y_M_valueOf.1 = true := by decide +kernel
def Y_M_works : YT := (⟨"SinkingChoirModel", "works", "(II)V"⟩, prog_14_method_85_code, 5, none)
theorem cw_M_works : Cond.code Y_M_works.1 Y_M_works.2.1 Y_M_works.2.2.1 Y_M_works.2.2.2 ∈ tb := mem_c8 63 rfl rfl
theorem pn_M_works : plainFor Y_M_works.1 = true := by decide +kernel
def Y_M_tells : YT := (⟨"SinkingChoirModel", "tells", "(III)I"⟩, prog_14_method_86_code, 6, some .int)
theorem cw_M_tells : Cond.code Y_M_tells.1 Y_M_tells.2.1 Y_M_tells.2.2.1 Y_M_tells.2.2.2 ∈ tb := mem_c8 59 rfl rfl
theorem pn_M_tells : plainFor Y_M_tells.1 = true := by decide +kernel
def Y_M_aimOf : YT := (⟨"SinkingChoirModel", "aimOf", "(IIJJJJ)J"⟩, prog_14_method_89_code, 21, some .long)
theorem cw_M_aimOf : Cond.code Y_M_aimOf.1 Y_M_aimOf.2.1 Y_M_aimOf.2.2.1 Y_M_aimOf.2.2.2 ∈ tb := mem_c8 87 rfl rfl
theorem pn_M_aimOf : plainFor Y_M_aimOf.1 = true := by decide +kernel
def Y_M_singsNote : YT := (⟨"SinkingChoirModel", "singsNote", "(II)V"⟩, prog_14_method_90_code, 10, none)
theorem cw_M_singsNote : Cond.code Y_M_singsNote.1 Y_M_singsNote.2.1 Y_M_singsNote.2.2.1 Y_M_singsNote.2.2.2 ∈ tb := mem_c8 39 rfl rfl
theorem pn_M_singsNote : plainFor Y_M_singsNote.1 = true := by decide +kernel
def Y_M_isSung : YT := (⟨"SinkingChoirModel", "isSung", "()V"⟩, prog_14_method_91_code, 4, none)
theorem cw_M_isSung : Cond.code Y_M_isSung.1 Y_M_isSung.2.1 Y_M_isSung.2.2.1 Y_M_isSung.2.2.2 ∈ tb := mem_c8 23 rfl rfl
theorem pn_M_isSung : plainFor Y_M_isSung.1 = true := by decide +kernel
def Y_M_plainly : YT := (⟨"SinkingChoirModel", "plainly", "()V"⟩, prog_14_method_93_code, 1, none)
theorem cw_M_plainly : Cond.code Y_M_plainly.1 Y_M_plainly.2.1 Y_M_plainly.2.2.1 Y_M_plainly.2.2.2 ∈ tb := mem_c8 15 rfl rfl
theorem pn_M_plainly : plainFor Y_M_plainly.1 = true := by decide +kernel
def Y_M_pitch : YT := (⟨"SinkingChoirModel", "pitch", "(II)I"⟩, prog_14_method_100_code, 3, some .int)
theorem cw_M_pitch : Cond.code Y_M_pitch.1 Y_M_pitch.2.1 Y_M_pitch.2.2.1 Y_M_pitch.2.2.2 ∈ tb := mem_c8 7 rfl rfl
theorem pn_M_pitch : plainFor Y_M_pitch.1 = true := by decide +kernel
def Y_Si_off : YT := (⟨"SinkingChoir$Singing", "off", "(I)J"⟩, prog_10_method_14_code, 7, some .long)
theorem cw_Si_off : Cond.code Y_Si_off.1 Y_Si_off.2.1 Y_Si_off.2.2.1 Y_Si_off.2.2.2 ∈ tb := mem_c4 239 rfl rfl
theorem pn_Si_off : plainFor Y_Si_off.1 = true := by decide +kernel
def Y_Mt_abs_J : YT := (⟨"java/lang/Math", "abs", "(J)J"⟩, prog_17_method_61_code, 2, some .long)
theorem cw_Mt_abs_J : Cond.code Y_Mt_abs_J.1 Y_Mt_abs_J.2.1 Y_Mt_abs_J.2.2.1 Y_Mt_abs_J.2.2.2 ∈ tb := mem_c5 7 rfl rfl
theorem pn_Mt_abs_J : plainFor Y_Mt_abs_J.1 = true := by decide +kernel
def Y_Si_foul : YT := (⟨"SinkingChoir$Singing", "foul", "(I)J"⟩, prog_10_method_15_code, 8, some .long)
theorem cw_Si_foul : Cond.code Y_Si_foul.1 Y_Si_foul.2.1 Y_Si_foul.2.2.1 Y_Si_foul.2.2.2 ∈ tb := mem_c5 4 rfl rfl
theorem pn_Si_foul : plainFor Y_Si_foul.1 = true := by decide +kernel
def Y_Ch_above : YT := (⟨"SinkingChoir$Choir", "above", "(II)I"⟩, prog_2_method_12_code, 4, some .int)
theorem cw_Ch_above : Cond.code Y_Ch_above.1 Y_Ch_above.2.1 Y_Ch_above.2.2.1 Y_Ch_above.2.2.2 ∈ tb := mem_c5 15 rfl rfl
theorem pn_Ch_above : plainFor Y_Ch_above.1 = true := by decide +kernel
def Y_Ch_tableFoul : YT := (⟨"SinkingChoir$Choir", "tableFoul", "(I)J"⟩, prog_2_method_11_code, 6, some .long)
theorem cw_Ch_tableFoul : Cond.code Y_Ch_tableFoul.1 Y_Ch_tableFoul.2.1 Y_Ch_tableFoul.2.2.1 Y_Ch_tableFoul.2.2.2 ∈ tb := mem_c5 11 rfl rfl
theorem pn_Ch_tableFoul : plainFor Y_Ch_tableFoul.1 = true := by decide +kernel
def Y_X_beat : YT := (⟨"SinkingChoir", "beat", "(II)J"⟩, prog_1_method_22_code, 3, some .long)
theorem cw_X_beat : Cond.code Y_X_beat.1 Y_X_beat.2.1 Y_X_beat.2.2.1 Y_X_beat.2.2.2 ∈ tb := mem_c4 233 rfl rfl
theorem pn_X_beat : plainFor Y_X_beat.1 = true := by decide +kernel
def Y_M_offOf : YT := (⟨"SinkingChoirModel", "offOf", "(I)J"⟩, prog_14_method_94_code, 5, some .long)
theorem cw_M_offOf : Cond.code Y_M_offOf.1 Y_M_offOf.2.1 Y_M_offOf.2.2.1 Y_M_offOf.2.2.2 ∈ tb := mem_c8 97 rfl rfl
theorem pn_M_offOf : plainFor Y_M_offOf.1 = true := by decide +kernel
def Y_M_foulOf : YT := (⟨"SinkingChoirModel", "foulOf", "(I)J"⟩, prog_14_method_95_code, 6, some .long)
theorem cw_M_foulOf : Cond.code Y_M_foulOf.1 Y_M_foulOf.2.1 Y_M_foulOf.2.2.1 Y_M_foulOf.2.2.2 ∈ tb := mem_c8 101 rfl rfl
theorem pn_M_foulOf : plainFor Y_M_foulOf.1 = true := by decide +kernel
def Y_M_tableFoul : YT := (⟨"SinkingChoirModel", "tableFoul", "(I)J"⟩, prog_14_method_101_code, 6, some .long)
theorem cw_M_tableFoul : Cond.code Y_M_tableFoul.1 Y_M_tableFoul.2.1 Y_M_tableFoul.2.2.1 Y_M_tableFoul.2.2.2 ∈ tb := mem_c8 105 rfl rfl
theorem pn_M_tableFoul : plainFor Y_M_tableFoul.1 = true := by decide +kernel
def Y_M_beat : YT := (⟨"SinkingChoirModel", "beat", "(II)J"⟩, prog_14_method_102_code, 3, some .long)
theorem cw_M_beat : Cond.code Y_M_beat.1 Y_M_beat.2.1 Y_M_beat.2.2.1 Y_M_beat.2.2.2 ∈ tb := mem_c8 91 rfl rfl
theorem pn_M_beat : plainFor Y_M_beat.1 = true := by decide +kernel
def Y_Ch_firstBeat : YT := (⟨"SinkingChoir$Choir", "firstBeat", "()I"⟩, prog_2_method_7_code, 2, some .int)
theorem cw_Ch_firstBeat : Cond.code Y_Ch_firstBeat.1 Y_Ch_firstBeat.2.1 Y_Ch_firstBeat.2.2.1 Y_Ch_firstBeat.2.2.2 ∈ tb := mem_c5 25 rfl rfl
theorem pn_Ch_firstBeat : plainFor Y_Ch_firstBeat.1 = true := by decide +kernel
def Y_Ch_lastBeat : YT := (⟨"SinkingChoir$Choir", "lastBeat", "()I"⟩, prog_2_method_8_code, 2, some .int)
theorem cw_Ch_lastBeat : Cond.code Y_Ch_lastBeat.1 Y_Ch_lastBeat.2.1 Y_Ch_lastBeat.2.2.1 Y_Ch_lastBeat.2.2.2 ∈ tb := mem_c5 30 rfl rfl
theorem pn_Ch_lastBeat : plainFor Y_Ch_lastBeat.1 = true := by decide +kernel
def Y_Si_sinking : YT := (⟨"SinkingChoir$Singing", "sinking", "()J"⟩, prog_10_method_17_code, 1, some .long)
theorem cw_Si_sinking : Cond.code Y_Si_sinking.1 Y_Si_sinking.2.1 Y_Si_sinking.2.2.1 Y_Si_sinking.2.2.2 ∈ tb := mem_c5 34 rfl rfl
theorem pn_Si_sinking : plainFor Y_Si_sinking.1 = true := by decide +kernel
def Y_Ch_howManySing : YT := (⟨"SinkingChoir$Choir", "howManySing", "()I"⟩, prog_2_method_5_code, 3, some .int)
theorem cw_Ch_howManySing : Cond.code Y_Ch_howManySing.1 Y_Ch_howManySing.2.1 Y_Ch_howManySing.2.2.1 Y_Ch_howManySing.2.2.2 ∈ tb := mem_c5 45 rfl rfl
theorem pn_Ch_howManySing : plainFor Y_Ch_howManySing.1 = true := by decide +kernel
def Y_Si_drifting : YT := (⟨"SinkingChoir$Singing", "drifting", "()J"⟩, prog_10_method_18_code, 3, some .long)
theorem cw_Si_drifting : Cond.code Y_Si_drifting.1 Y_Si_drifting.2.1 Y_Si_drifting.2.2.1 Y_Si_drifting.2.2.2 ∈ tb := mem_c5 41 rfl rfl
theorem pn_Si_drifting : plainFor Y_Si_drifting.1 = true := by decide +kernel
def Y_Si_foulTogether : YT := (⟨"SinkingChoir$Singing", "foulTogether", "()J"⟩, prog_10_method_16_code, 4, some .long)
theorem cw_Si_foulTogether : Cond.code Y_Si_foulTogether.1 Y_Si_foulTogether.2.1 Y_Si_foulTogether.2.2.1 Y_Si_foulTogether.2.2.2 ∈ tb := mem_c5 50 rfl rfl
theorem pn_Si_foulTogether : plainFor Y_Si_foulTogether.1 = true := by decide +kernel
def Y_X_sunk : YT := (⟨"SinkingChoir", "sunk", "(I)J"⟩, prog_1_method_23_code, 4, some .long)
theorem cw_X_sunk : Cond.code Y_X_sunk.1 Y_X_sunk.2.1 Y_X_sunk.2.2.1 Y_X_sunk.2.2.2 ∈ tb := mem_c5 21 rfl rfl
theorem pn_X_sunk : plainFor Y_X_sunk.1 = true := by decide +kernel
def Y_M_firstSung : YT := (⟨"SinkingChoirModel", "firstSung", "()I"⟩, prog_14_method_97_code, 2, some .int)
theorem cw_M_firstSung : Cond.code Y_M_firstSung.1 Y_M_firstSung.2.1 Y_M_firstSung.2.2.1 Y_M_firstSung.2.2.2 ∈ tb := mem_c8 113 rfl rfl
theorem pn_M_firstSung : plainFor Y_M_firstSung.1 = true := by decide +kernel
def Y_M_lastSung : YT := (⟨"SinkingChoirModel", "lastSung", "()I"⟩, prog_14_method_98_code, 2, some .int)
theorem cw_M_lastSung : Cond.code Y_M_lastSung.1 Y_M_lastSung.2.1 Y_M_lastSung.2.2.1 Y_M_lastSung.2.2.2 ∈ tb := mem_c8 122 rfl rfl
theorem pn_M_lastSung : plainFor Y_M_lastSung.1 = true := by decide +kernel
def Y_M_sunkNow : YT := (⟨"SinkingChoirModel", "sunkNow", "()J"⟩, prog_14_method_99_code, 1, some .long)
theorem cw_M_sunkNow : Cond.code Y_M_sunkNow.1 Y_M_sunkNow.2.1 Y_M_sunkNow.2.2.1 Y_M_sunkNow.2.2.2 ∈ tb := mem_c8 118 rfl rfl
theorem pn_M_sunkNow : plainFor Y_M_sunkNow.1 = true := by decide +kernel
def Y_M_sungMany : YT := (⟨"SinkingChoirModel", "sungMany", "()I"⟩, prog_14_method_103_code, 5, some .int)
theorem cw_M_sungMany : Cond.code Y_M_sungMany.1 Y_M_sungMany.2.1 Y_M_sungMany.2.2.1 Y_M_sungMany.2.2.2 ∈ tb := mem_c8 126 rfl rfl
theorem pn_M_sungMany : plainFor Y_M_sungMany.1 = true := by decide +kernel
def Y_M_allFoul : YT := (⟨"SinkingChoirModel", "allFoul", "()J"⟩, prog_14_method_96_code, 4, some .long)
theorem cw_M_allFoul : Cond.code Y_M_allFoul.1 Y_M_allFoul.2.1 Y_M_allFoul.2.2.1 Y_M_allFoul.2.2.2 ∈ tb := mem_c8 130 rfl rfl
theorem pn_M_allFoul : plainFor Y_M_allFoul.1 = true := by decide +kernel
def Y_M_sunk : YT := (⟨"SinkingChoirModel", "sunk", "(I)J"⟩, prog_14_method_104_code, 8, some .long)
theorem cw_M_sunk : Cond.code Y_M_sunk.1 Y_M_sunk.2.1 Y_M_sunk.2.2.1 Y_M_sunk.2.2.2 ∈ tb := mem_c8 109 rfl rfl
theorem pn_M_sunk : plainFor Y_M_sunk.1 = true := by decide +kernel
def Y_X_hears : YT := (⟨"SinkingChoir", "hears", "(II)I"⟩, prog_1_method_24_code, 3, some .int)
theorem cw_X_hears : Cond.code Y_X_hears.1 Y_X_hears.2.1 Y_X_hears.2.2.1 Y_X_hears.2.2.2 ∈ tb := mem_c5 55 rfl rfl
theorem pn_X_hears : plainFor Y_X_hears.1 = true := by decide +kernel
def Y_M_hears : YT := (⟨"SinkingChoirModel", "hears", "(II)I"⟩, prog_14_method_105_code, 3, some .int)
theorem cw_M_hears : Cond.code Y_M_hears.1 Y_M_hears.2.1 Y_M_hears.2.2.1 Y_M_hears.2.2.2 ∈ tb := mem_c8 134 rfl rfl
theorem pn_M_hears : plainFor Y_M_hears.1 = true := by decide +kernel
def Y_St_swap : YT := (⟨"SinkingChoir$Standing", "swap", "(II)V"⟩, prog_11_method_4_code, 4, none)
theorem cw_St_swap : Cond.code Y_St_swap.1 Y_St_swap.2.1 Y_St_swap.2.2.1 Y_St_swap.2.2.2 ∈ tb := mem_c5 74 rfl rfl
theorem pn_St_swap : plainFor Y_St_swap.1 = true := by decide +kernel
def Y_St_sort : YT := (⟨"SinkingChoir$Standing", "sort", "(I)V"⟩, prog_11_method_3_code, 4, none)
theorem cw_St_sort : Cond.code Y_St_sort.1 Y_St_sort.2.1 Y_St_sort.2.2.1 Y_St_sort.2.2.2 ∈ tb := mem_c5 70 rfl rfl
theorem pn_St_sort : plainFor Y_St_sort.1 = true := by decide +kernel
def Y_St_next : YT := (⟨"SinkingChoir$Standing", "next", "()Z"⟩, prog_11_method_5_code, 3, some .boolean)
theorem cw_St_next : Cond.code Y_St_next.1 Y_St_next.2.1 Y_St_next.2.2.1 Y_St_next.2.2.2 ∈ tb := mem_c5 82 rfl rfl
theorem pn_St_next : plainFor Y_St_next.1 = true := by decide +kernel
def Y_St_find : YT := (⟨"SinkingChoir$Standing", "find", "(I)V"⟩, prog_11_method_2_code, 8, none)
theorem cw_St_find : Cond.code Y_St_find.1 Y_St_find.2.1 Y_St_find.2.2.1 Y_St_find.2.2.2 ∈ tb := mem_c5 65 rfl rfl
theorem pn_St_find : plainFor Y_St_find.1 = true := by decide +kernel
def Y_X_standing : YT := (⟨"SinkingChoir", "standing", "(I)J"⟩, prog_1_method_25_code, 3, some .long)
theorem cw_X_standing : Cond.code Y_X_standing.1 Y_X_standing.2.1 Y_X_standing.2.2.1 Y_X_standing.2.2.2 ∈ tb := mem_c5 60 rfl rfl
theorem pn_X_standing : plainFor Y_X_standing.1 = true := by decide +kernel
def Y_M_swaps : YT := (⟨"SinkingChoirModel", "swaps", "(II)V"⟩, prog_14_method_107_code, 4, none)
theorem cw_M_swaps : Cond.code Y_M_swaps.1 Y_M_swaps.2.1 Y_M_swaps.2.2.1 Y_M_swaps.2.2.2 ∈ tb := mem_c8 143 rfl rfl
theorem pn_M_swaps : plainFor Y_M_swaps.1 = true := by decide +kernel
def Y_M_stepsOn : YT := (⟨"SinkingChoirModel", "stepsOn", "()Z"⟩, prog_14_method_106_code, 5, some .boolean)
theorem cw_M_stepsOn : Cond.code Y_M_stepsOn.1 Y_M_stepsOn.2.1 Y_M_stepsOn.2.2.1 Y_M_stepsOn.2.2.2 ∈ tb := mem_c8 147 rfl rfl
theorem pn_M_stepsOn : plainFor Y_M_stepsOn.1 = true := by decide +kernel
def Y_M_standing : YT := (⟨"SinkingChoirModel", "standing", "(I)J"⟩, prog_14_method_108_code, 13, some .long)
theorem cw_M_standing : Cond.code Y_M_standing.1 Y_M_standing.2.1 Y_M_standing.2.2.1 Y_M_standing.2.2.2 ∈ tb := mem_c8 138 rfl rfl
theorem pn_M_standing : plainFor Y_M_standing.1 = true := by decide +kernel
def Y_Mt_max_JJ : YT := (⟨"java/lang/Math", "max", "(JJ)J"⟩, prog_17_method_66_code, 4, some .long)
theorem cw_Mt_max_JJ : Cond.code Y_Mt_max_JJ.1 Y_Mt_max_JJ.2.1 Y_Mt_max_JJ.2.2.1 Y_Mt_max_JJ.2.2.2 ∈ tb := mem_c5 104 rfl rfl
theorem pn_Mt_max_JJ : plainFor Y_Mt_max_JJ.1 = true := by decide +kernel
def Y_Le_chart : YT := (⟨"SinkingChoir$Leading", "chart", "(II)V"⟩, prog_5_method_3_code, 6, none)
theorem cw_Le_chart : Cond.code Y_Le_chart.1 Y_Le_chart.2.1 Y_Le_chart.2.2.1 Y_Le_chart.2.2.2 ∈ tb := mem_c5 99 rfl rfl
theorem pn_Le_chart : plainFor Y_Le_chart.1 = true := by decide +kernel
def Y_Le_farthest : YT := (⟨"SinkingChoir$Leading", "farthest", "(II)J"⟩, prog_5_method_4_code, 3, some .long)
theorem cw_Le_farthest : Cond.code Y_Le_farthest.1 Y_Le_farthest.2.1 Y_Le_farthest.2.2.1 Y_Le_farthest.2.2.2 ∈ tb := mem_c5 109 rfl rfl
theorem pn_Le_farthest : plainFor Y_Le_farthest.1 = true := by decide +kernel
def Y_Le_consider : YT := (⟨"SinkingChoir$Leading", "consider", "(IJ)V"⟩, prog_5_method_5_code, 4, none)
theorem cw_Le_consider : Cond.code Y_Le_consider.1 Y_Le_consider.2.1 Y_Le_consider.2.2.1 Y_Le_consider.2.2.2 ∈ tb := mem_c5 113 rfl rfl
theorem pn_Le_consider : plainFor Y_Le_consider.1 = true := by decide +kernel
def Y_Le_find : YT := (⟨"SinkingChoir$Leading", "find", "(I)V"⟩, prog_5_method_2_code, 13, none)
theorem cw_Le_find : Cond.code Y_Le_find.1 Y_Le_find.2.1 Y_Le_find.2.2.1 Y_Le_find.2.2.2 ∈ tb := mem_c5 92 rfl rfl
theorem pn_Le_find : plainFor Y_Le_find.1 = true := by decide +kernel
def Y_X_leader : YT := (⟨"SinkingChoir", "leader", "(II)J"⟩, prog_1_method_26_code, 3, some .long)
theorem cw_X_leader : Cond.code Y_X_leader.1 Y_X_leader.2.1 Y_X_leader.2.2.1 Y_X_leader.2.2.2 ∈ tb := mem_c5 86 rfl rfl
theorem pn_X_leader : plainFor Y_X_leader.1 = true := by decide +kernel
def Y_M_farthest : YT := (⟨"SinkingChoirModel", "farthest", "()J"⟩, prog_14_method_109_code, 6, some .long)
theorem cw_M_farthest : Cond.code Y_M_farthest.1 Y_M_farthest.2.1 Y_M_farthest.2.2.1 Y_M_farthest.2.2.2 ∈ tb := mem_c8 157 rfl rfl
theorem pn_M_farthest : plainFor Y_M_farthest.1 = true := by decide +kernel
def Y_M_leader : YT := (⟨"SinkingChoirModel", "leader", "(II)J"⟩, prog_14_method_110_code, 13, some .long)
theorem cw_M_leader : Cond.code Y_M_leader.1 Y_M_leader.2.1 Y_M_leader.2.2.1 Y_M_leader.2.2.2 ∈ tb := mem_c8 151 rfl rfl
theorem pn_M_leader : plainFor Y_M_leader.1 = true := by decide +kernel
def Y_X_worst : YT := (⟨"SinkingChoir", "worst", "()I"⟩, prog_1_method_27_code, 3, some .int)
theorem cw_X_worst : Cond.code Y_X_worst.1 Y_X_worst.2.1 Y_X_worst.2.2.1 Y_X_worst.2.2.2 ∈ tb := mem_c5 117 rfl rfl
theorem pn_X_worst : plainFor Y_X_worst.1 = true := by decide +kernel
def Y_M_worst : YT := (⟨"SinkingChoirModel", "worst", "()I"⟩, prog_14_method_111_code, 5, some .int)
theorem cw_M_worst : Cond.code Y_M_worst.1 Y_M_worst.2.1 Y_M_worst.2.2.1 Y_M_worst.2.2.2 ∈ tb := mem_c8 161 rfl rfl
theorem pn_M_worst : plainFor Y_M_worst.1 = true := by decide +kernel
def Y_X_knows : YT := (⟨"SinkingChoir", "knows", "()J"⟩, prog_1_method_28_code, 3, some .long)
theorem cw_X_knows : Cond.code Y_X_knows.1 Y_X_knows.2.1 Y_X_knows.2.2.1 Y_X_knows.2.2.2 ∈ tb := mem_c5 122 rfl rfl
theorem pn_X_knows : plainFor Y_X_knows.1 = true := by decide +kernel
def Y_M_knows : YT := (⟨"SinkingChoirModel", "knows", "()J"⟩, prog_14_method_112_code, 4, some .long)
theorem cw_M_knows : Cond.code Y_M_knows.1 Y_M_knows.2.1 Y_M_knows.2.2.1 Y_M_knows.2.2.2 ∈ tb := mem_c8 165 rfl rfl
theorem pn_M_knows : plainFor Y_M_knows.1 = true := by decide +kernel
def Y_Ch_putRecord : YT := (⟨"SinkingChoir$Choir", "putRecord", "(III)V"⟩, prog_2_method_13_code, 4, none)
theorem cw_Ch_putRecord : Cond.code Y_Ch_putRecord.1 Y_Ch_putRecord.2.1 Y_Ch_putRecord.2.2.1 Y_Ch_putRecord.2.2.2 ∈ tb := mem_c5 133 rfl rfl
theorem pn_Ch_putRecord : plainFor Y_Ch_putRecord.1 = true := by decide +kernel
def Y_X_tape : YT := (⟨"SinkingChoir", "tape", "(III)Z"⟩, prog_1_method_29_code, 4, some .boolean)
theorem cw_X_tape : Cond.code Y_X_tape.1 Y_X_tape.2.1 Y_X_tape.2.2.1 Y_X_tape.2.2.2 ∈ tb := mem_c5 127 rfl rfl
theorem pn_X_tape : plainFor Y_X_tape.1 = true := by decide +kernel
def Y_M_tape : YT := (⟨"SinkingChoirModel", "tape", "(III)Z"⟩, prog_14_method_113_code, 4, some .boolean)
theorem cw_M_tape : Cond.code Y_M_tape.1 Y_M_tape.2.1 Y_M_tape.2.2.1 Y_M_tape.2.2.2 ∈ tb := mem_c8 169 rfl rfl
theorem pn_M_tape : plainFor Y_M_tape.1 = true := by decide +kernel
def Y_Ar_fill_BJ : YT := (⟨"java/util/Arrays", "fill", "([JJ)V"⟩, prog_22_method_101_code, 5, none)
theorem cw_Ar_fill_BJ : Cond.code Y_Ar_fill_BJ.1 Y_Ar_fill_BJ.2.1 Y_Ar_fill_BJ.2.2.1 Y_Ar_fill_BJ.2.2.2 ∈ tb := mem_c5 144 rfl rfl
theorem pn_Ar_fill_BJ : plainFor Y_Ar_fill_BJ.1 = true := by decide +kernel
def Y_Ch_isRecorded : YT := (⟨"SinkingChoir$Choir", "isRecorded", "(II)Z"⟩, prog_2_method_14_code, 3, some .boolean)
theorem cw_Ch_isRecorded : Cond.code Y_Ch_isRecorded.1 Y_Ch_isRecorded.2.1 Y_Ch_isRecorded.2.2.1 Y_Ch_isRecorded.2.2.2 ∈ tb := mem_c5 148 rfl rfl
theorem pn_Ch_isRecorded : plainFor Y_Ch_isRecorded.1 = true := by decide +kernel
def Y_Ch_lastRecord : YT := (⟨"SinkingChoir$Choir", "lastRecord", "(II)I"⟩, prog_2_method_16_code, 4, some .int)
theorem cw_Ch_lastRecord : Cond.code Y_Ch_lastRecord.1 Y_Ch_lastRecord.2.1 Y_Ch_lastRecord.2.2.1 Y_Ch_lastRecord.2.2.2 ∈ tb := mem_c5 156 rfl rfl
theorem pn_Ch_lastRecord : plainFor Y_Ch_lastRecord.1 = true := by decide +kernel
def Y_Ch_recordOf : YT := (⟨"SinkingChoir$Choir", "recordOf", "(II)I"⟩, prog_2_method_15_code, 3, some .int)
theorem cw_Ch_recordOf : Cond.code Y_Ch_recordOf.1 Y_Ch_recordOf.2.1 Y_Ch_recordOf.2.2.1 Y_Ch_recordOf.2.2.2 ∈ tb := mem_c5 161 rfl rfl
theorem pn_Ch_recordOf : plainFor Y_Ch_recordOf.1 = true := by decide +kernel
def Y_Fi_addBeat : YT := (⟨"SinkingChoir$Fitting", "addBeat", "(II)V"⟩, prog_3_method_3_code, 7, none)
theorem cw_Fi_addBeat : Cond.code Y_Fi_addBeat.1 Y_Fi_addBeat.2.1 Y_Fi_addBeat.2.2.1 Y_Fi_addBeat.2.2.2 ∈ tb := mem_c5 152 rfl rfl
theorem pn_Fi_addBeat : plainFor Y_Fi_addBeat.1 = true := by decide +kernel
def Y_Fi_find : YT := (⟨"SinkingChoir$Fitting", "find", "(I)Z"⟩, prog_3_method_2_code, 3, some .boolean)
theorem cw_Fi_find : Cond.code Y_Fi_find.1 Y_Fi_find.2.1 Y_Fi_find.2.2.1 Y_Fi_find.2.2.2 ∈ tb := mem_c5 141 rfl rfl
theorem pn_Fi_find : plainFor Y_Fi_find.1 = true := by decide +kernel
def Y_Fi_told : YT := (⟨"SinkingChoir$Fitting", "told", "(I)J"⟩, prog_3_method_4_code, 2, some .long)
theorem cw_Fi_told : Cond.code Y_Fi_told.1 Y_Fi_told.2.1 Y_Fi_told.2.2.1 Y_Fi_told.2.2.2 ∈ tb := mem_c5 168 rfl rfl
theorem pn_Fi_told : plainFor Y_Fi_told.1 = true := by decide +kernel
def Y_X_fit : YT := (⟨"SinkingChoir", "fit", "(II)J"⟩, prog_1_method_30_code, 3, some .long)
theorem cw_X_fit : Cond.code Y_X_fit.1 Y_X_fit.2.1 Y_X_fit.2.2.1 Y_X_fit.2.2.2 ∈ tb := mem_c5 137 rfl rfl
theorem pn_X_fit : plainFor Y_X_fit.1 = true := by decide +kernel
def Y_M_isTaped : YT := (⟨"SinkingChoirModel", "isTaped", "(II)Z"⟩, prog_14_method_114_code, 3, some .boolean)
theorem cw_M_isTaped : Cond.code Y_M_isTaped.1 Y_M_isTaped.2.1 Y_M_isTaped.2.2.1 Y_M_isTaped.2.2.2 ∈ tb := mem_c8 179 rfl rfl
theorem pn_M_isTaped : plainFor Y_M_isTaped.1 = true := by decide +kernel
def Y_M_differs : YT := (⟨"SinkingChoirModel", "differs", "(IIII)J"⟩, prog_14_method_115_code, 10, some .long)
theorem cw_M_differs : Cond.code Y_M_differs.1 Y_M_differs.2.1 Y_M_differs.2.2.1 Y_M_differs.2.2.2 ∈ tb := mem_c8 183 rfl rfl
theorem pn_M_differs : plainFor Y_M_differs.1 = true := by decide +kernel
def Y_M_fit : YT := (⟨"SinkingChoirModel", "fit", "(II)J"⟩, prog_14_method_116_code, 10, some .long)
theorem cw_M_fit : Cond.code Y_M_fit.1 Y_M_fit.2.1 Y_M_fit.2.2.1 Y_M_fit.2.2.2 ∈ tb := mem_c8 175 rfl rfl
theorem pn_M_fit : plainFor Y_M_fit.1 = true := by decide +kernel
def Y_X_minded : YT := (⟨"SinkingChoir", "minded", "(III)J"⟩, prog_1_method_37_code, 4, some .long)
theorem cw_X_minded : Cond.code Y_X_minded.1 Y_X_minded.2.1 Y_X_minded.2.2.1 Y_X_minded.2.2.2 ∈ tb := mem_c5 176 rfl rfl
theorem pn_X_minded : plainFor Y_X_minded.1 = true := by decide +kernel
def Y_X_mind : YT := (⟨"SinkingChoir", "mind", "(III)J"⟩, prog_1_method_31_code, 11, some .long)
theorem cw_X_mind : Cond.code Y_X_mind.1 Y_X_mind.2.1 Y_X_mind.2.2.1 Y_X_mind.2.2.2 ∈ tb := mem_c5 172 rfl rfl
theorem pn_X_mind : plainFor Y_X_mind.1 = true := by decide +kernel
def Y_M_minds : YT := (⟨"SinkingChoirModel", "minds", "(II)J"⟩, prog_14_method_117_code, 3, some .long)
theorem cw_M_minds : Cond.code Y_M_minds.1 Y_M_minds.2.1 Y_M_minds.2.2.1 Y_M_minds.2.2.2 ∈ tb := mem_c8 193 rfl rfl
theorem pn_M_minds : plainFor Y_M_minds.1 = true := by decide +kernel
def Y_M_mind : YT := (⟨"SinkingChoirModel", "mind", "(III)J"⟩, prog_14_method_118_code, 12, some .long)
theorem cw_M_mind : Cond.code Y_M_mind.1 Y_M_mind.2.1 Y_M_mind.2.2.1 Y_M_mind.2.2.2 ∈ tb := mem_c8 187 rfl rfl
theorem pn_M_mind : plainFor Y_M_mind.1 = true := by decide +kernel
def Y_Rl_number : YT := (⟨"SinkingChoir$Reel", "number", "(I)I"⟩, prog_8_method_4_code, 2, some .int)
theorem cw_Rl_number : Cond.code Y_Rl_number.1 Y_Rl_number.2.1 Y_Rl_number.2.2.1 Y_Rl_number.2.2.2 ∈ tb := mem_c5 190 rfl rfl
theorem pn_Rl_number : plainFor Y_Rl_number.1 = true := by decide +kernel
def Y_X_firstWrong : YT := (⟨"SinkingChoir", "firstWrong", "(I)I"⟩, prog_1_method_38_code, 5, some .int)
theorem cw_X_firstWrong : Cond.code Y_X_firstWrong.1 Y_X_firstWrong.2.1 Y_X_firstWrong.2.2.1 Y_X_firstWrong.2.2.2 ∈ tb := mem_c5 186 rfl rfl
theorem pn_X_firstWrong : plainFor Y_X_firstWrong.1 = true := by decide +kernel
def Y_X_check : YT := (⟨"SinkingChoir", "check", "(I)I"⟩, prog_1_method_32_code, 3, some .int)
theorem cw_X_check : Cond.code Y_X_check.1 Y_X_check.2.1 Y_X_check.2.2.1 Y_X_check.2.2.2 ∈ tb := mem_c5 182 rfl rfl
theorem pn_X_check : plainFor Y_X_check.1 = true := by decide +kernel
def Y_M_numberAt : YT := (⟨"SinkingChoirModel", "numberAt", "(I)I"⟩, prog_14_method_119_code, 4, some .int)
theorem cw_M_numberAt : Cond.code Y_M_numberAt.1 Y_M_numberAt.2.1 Y_M_numberAt.2.2.1 Y_M_numberAt.2.2.2 ∈ tb := mem_c8 201 rfl rfl
theorem pn_M_numberAt : plainFor Y_M_numberAt.1 = true := by decide +kernel
def Y_M_check : YT := (⟨"SinkingChoirModel", "check", "(I)I"⟩, prog_14_method_120_code, 5, some .int)
theorem cw_M_check : Cond.code Y_M_check.1 Y_M_check.2.1 Y_M_check.2.2.1 Y_M_check.2.2.2 ∈ tb := mem_c8 197 rfl rfl
theorem pn_M_check : plainFor Y_M_check.1 = true := by decide +kernel
def Y_Sc_noteCount : YT := (⟨"SinkingChoir$Score", "noteCount", "()I"⟩, prog_9_method_19_code, 3, some .int)
theorem cw_Sc_noteCount : Cond.code Y_Sc_noteCount.1 Y_Sc_noteCount.2.1 Y_Sc_noteCount.2.2.1 Y_Sc_noteCount.2.2.2 ∈ tb := mem_c5 198 rfl rfl
theorem pn_Sc_noteCount : plainFor Y_Sc_noteCount.1 = true := by decide +kernel
def Y_Sc_linkCount : YT := (⟨"SinkingChoir$Score", "linkCount", "()I"⟩, prog_9_method_20_code, 3, some .int)
theorem cw_Sc_linkCount : Cond.code Y_Sc_linkCount.1 Y_Sc_linkCount.2.1 Y_Sc_linkCount.2.2.1 Y_Sc_linkCount.2.2.2 ∈ tb := mem_c5 202 rfl rfl
theorem pn_Sc_linkCount : plainFor Y_Sc_linkCount.1 = true := by decide +kernel
def Y_In_bitCount : YT := (⟨"java/lang/Integer", "bitCount", "(I)I"⟩, prog_16_method_49_code, 1, some .int)
theorem cw_In_bitCount : Cond.code Y_In_bitCount.1 Y_In_bitCount.2.1 Y_In_bitCount.2.2.1 Y_In_bitCount.2.2.2 ∈ tb := mem_c5 205 rfl rfl
theorem pn_In_bitCount : plainFor Y_In_bitCount.1 = true := by decide +kernel
def Y_X_count : YT := (⟨"SinkingChoir", "count", "(I)I"⟩, prog_1_method_33_code, 2, some .int)
theorem cw_X_count : Cond.code Y_X_count.1 Y_X_count.2.1 Y_X_count.2.2.1 Y_X_count.2.2.2 ∈ tb := mem_c5 194 rfl rfl
theorem pn_X_count : plainFor Y_X_count.1 = true := by decide +kernel
def Y_M_sizeOf : YT := (⟨"SinkingChoirModel", "sizeOf", "(I)I"⟩, prog_14_method_4_code, 3, some .int)
theorem cw_M_sizeOf : Cond.code Y_M_sizeOf.1 Y_M_sizeOf.2.1 Y_M_sizeOf.2.2.1 Y_M_sizeOf.2.2.2 ∈ tb := mem_c8 208 rfl rfl
theorem pn_M_sizeOf : plainFor Y_M_sizeOf.1 = true := by decide +kernel
def Y_M_count : YT := (⟨"SinkingChoirModel", "count", "(I)I"⟩, prog_14_method_121_code, 5, some .int)
theorem cw_M_count : Cond.code Y_M_count.1 Y_M_count.2.1 Y_M_count.2.2.1 Y_M_count.2.2.2 ∈ tb := mem_c8 205 rfl rfl
theorem pn_M_count : plainFor Y_M_count.1 = true := by decide +kernel
theorem fg_Sc_9 : FLG "SinkingChoir$Score" 9 8 0 := ⟨_, _, _, _, cf8, by decide, mem_c1 40 rfl rfl⟩
theorem fg_Sc_24 : FLG "SinkingChoir$Score" 24 8 4 := ⟨_, _, _, _, cf8, by decide, mem_c1 49 rfl rfl⟩
theorem fg_Si_50 : FLG "SinkingChoir$Singing" 50 2 2 := ⟨_, _, _, _, cf2, by decide, mem_c1 115 rfl rfl⟩
theorem fg_X_10 : FLG "SinkingChoir" 10 0 0 := ⟨_, _, _, _, cf0, by decide, mem_c2 113 rfl rfl⟩
theorem fg_X_21 : FLG "SinkingChoir" 21 0 1 := ⟨_, _, _, _, cf0, by decide, mem_c2 114 rfl rfl⟩
theorem fg_X_30 : FLG "SinkingChoir" 30 0 2 := ⟨_, _, _, _, cf0, by decide, mem_c2 115 rfl rfl⟩
theorem fg_M_140 : FLG "SinkingChoirModel" 140 1 70 := ⟨_, _, _, _, cf1, by decide, mem_c6 45 rfl rfl⟩
theorem fg_M_30 : FLG "SinkingChoirModel" 30 1 7 := ⟨_, _, _, _, cf1, by decide, mem_c5 222 rfl rfl⟩
theorem fg_M_13 : FLG "SinkingChoirModel" 13 1 2 := ⟨_, _, _, _, cf1, by decide, mem_c5 217 rfl rfl⟩
theorem fg_Sc_15 : FLG "SinkingChoir$Score" 15 8 1 := ⟨_, _, _, _, cf8, by decide, mem_c1 43 rfl rfl⟩
theorem fg_Sc_30 : FLG "SinkingChoir$Score" 30 8 6 := ⟨_, _, _, _, cf8, by decide, mem_c1 54 rfl rfl⟩
theorem fg_Sc_27 : FLG "SinkingChoir$Score" 27 8 5 := ⟨_, _, _, _, cf8, by decide, mem_c1 52 rfl rfl⟩
theorem fg_Sc_18 : FLG "SinkingChoir$Score" 18 8 2 := ⟨_, _, _, _, cf8, by decide, mem_c1 44 rfl rfl⟩
theorem fg_X_274 : FLG "SinkingChoir" 274 0 9 := ⟨_, _, _, _, cf0, by decide, mem_c2 122 rfl rfl⟩
theorem fg_M_17 : FLG "SinkingChoirModel" 17 1 3 := ⟨_, _, _, _, cf1, by decide, mem_c5 218 rfl rfl⟩
theorem fg_M_20 : FLG "SinkingChoirModel" 20 1 4 := ⟨_, _, _, _, cf1, by decide, mem_c5 219 rfl rfl⟩
theorem fg_M_23 : FLG "SinkingChoirModel" 23 1 5 := ⟨_, _, _, _, cf1, by decide, mem_c5 220 rfl rfl⟩
theorem fg_Sc_21 : FLG "SinkingChoir$Score" 21 8 3 := ⟨_, _, _, _, cf8, by decide, mem_c1 47 rfl rfl⟩
theorem fg_X_98 : FLG "SinkingChoir" 98 8 3 := ⟨_, _, _, _, cf8, by decide, mem_c1 48 rfl rfl⟩
theorem fg_M_26 : FLG "SinkingChoirModel" 26 1 6 := ⟨_, _, _, _, cf1, by decide, mem_c5 221 rfl rfl⟩
theorem fg_X_114 : FLG "SinkingChoir" 114 8 5 := ⟨_, _, _, _, cf8, by decide, mem_c1 53 rfl rfl⟩
theorem fg_X_117 : FLG "SinkingChoir" 117 8 6 := ⟨_, _, _, _, cf8, by decide, mem_c1 55 rfl rfl⟩
theorem fg_X_123 : FLG "SinkingChoir" 123 8 4 := ⟨_, _, _, _, cf8, by decide, mem_c1 51 rfl rfl⟩
theorem fg_M_202 : FLG "SinkingChoirModel" 202 1 8 := ⟨_, _, _, _, cf1, by decide, mem_c5 223 rfl rfl⟩
theorem fg_M_205 : FLG "SinkingChoirModel" 205 1 9 := ⟨_, _, _, _, cf1, by decide, mem_c5 224 rfl rfl⟩
theorem fg_M_208 : FLG "SinkingChoirModel" 208 1 10 := ⟨_, _, _, _, cf1, by decide, mem_c5 225 rfl rfl⟩
theorem fg_Wa_20 : FLG "SinkingChoir$Ways" 20 11 3 := ⟨_, _, _, _, cf11, by decide, mem_c3 59 rfl rfl⟩
theorem fg_Wa_23 : FLG "SinkingChoir$Ways" 23 11 4 := ⟨_, _, _, _, cf11, by decide, mem_c3 60 rfl rfl⟩
theorem fg_Wa_13 : FLG "SinkingChoir$Ways" 13 11 1 := ⟨_, _, _, _, cf11, by decide, mem_c3 57 rfl rfl⟩
theorem fg_Wa_35 : FLG "SinkingChoir$Ways" 35 11 0 := ⟨_, _, _, _, cf11, by decide, mem_c3 56 rfl rfl⟩
theorem fg_Wa_45 : FLG "SinkingChoir$Ways" 45 11 9 := ⟨_, _, _, _, cf11, by decide, mem_c3 65 rfl rfl⟩
theorem fg_Wa_26 : FLG "SinkingChoir$Ways" 26 11 5 := ⟨_, _, _, _, cf11, by decide, mem_c3 61 rfl rfl⟩
theorem fg_X_332 : FLG "SinkingChoir" 332 0 8 := ⟨_, _, _, _, cf0, by decide, mem_c2 121 rfl rfl⟩
theorem fg_Wa_72 : FLG "SinkingChoir$Ways" 72 8 4 := ⟨_, _, _, _, cf8, by decide, mem_c1 50 rfl rfl⟩
theorem fg_Wa_29 : FLG "SinkingChoir$Ways" 29 11 6 := ⟨_, _, _, _, cf11, by decide, mem_c3 62 rfl rfl⟩
theorem fg_Wa_17 : FLG "SinkingChoir$Ways" 17 11 2 := ⟨_, _, _, _, cf11, by decide, mem_c3 58 rfl rfl⟩
theorem fg_Wa_32 : FLG "SinkingChoir$Ways" 32 11 7 := ⟨_, _, _, _, cf11, by decide, mem_c3 63 rfl rfl⟩
theorem fg_Wa_101 : FLG "SinkingChoir$Ways" 101 11 8 := ⟨_, _, _, _, cf11, by decide, mem_c3 64 rfl rfl⟩
theorem fg_M_33 : FLG "SinkingChoirModel" 33 1 11 := ⟨_, _, _, _, cf1, by decide, mem_c5 226 rfl rfl⟩
theorem fg_M_36 : FLG "SinkingChoirModel" 36 1 12 := ⟨_, _, _, _, cf1, by decide, mem_c5 227 rfl rfl⟩
theorem fg_M_39 : FLG "SinkingChoirModel" 39 1 13 := ⟨_, _, _, _, cf1, by decide, mem_c5 228 rfl rfl⟩
theorem fg_M_42 : FLG "SinkingChoirModel" 42 1 14 := ⟨_, _, _, _, cf1, by decide, mem_c5 229 rfl rfl⟩
theorem fg_M_45 : FLG "SinkingChoirModel" 45 1 15 := ⟨_, _, _, _, cf1, by decide, mem_c5 230 rfl rfl⟩
theorem fg_M_261 : FLG "SinkingChoirModel" 261 1 17 := ⟨_, _, _, _, cf1, by decide, mem_c5 232 rfl rfl⟩
theorem fg_M_49 : FLG "SinkingChoirModel" 49 1 16 := ⟨_, _, _, _, cf1, by decide, mem_c5 231 rfl rfl⟩
theorem fg_X_163 : FLG "SinkingChoir" 163 2 9 := ⟨_, _, _, _, cf2, by decide, mem_c1 135 rfl rfl⟩
theorem fg_X_167 : FLG "SinkingChoir" 167 2 1 := ⟨_, _, _, _, cf2, by decide, mem_c1 113 rfl rfl⟩
theorem fg_X_170 : FLG "SinkingChoir" 170 2 2 := ⟨_, _, _, _, cf2, by decide, mem_c1 118 rfl rfl⟩
theorem fg_X_173 : FLG "SinkingChoir" 173 2 3 := ⟨_, _, _, _, cf2, by decide, mem_c1 121 rfl rfl⟩
theorem fg_X_176 : FLG "SinkingChoir" 176 2 4 := ⟨_, _, _, _, cf2, by decide, mem_c1 124 rfl rfl⟩
theorem fg_M_275 : FLG "SinkingChoirModel" 275 1 18 := ⟨_, _, _, _, cf1, by decide, mem_c5 233 rfl rfl⟩
theorem fg_M_56 : FLG "SinkingChoirModel" 56 1 22 := ⟨_, _, _, _, cf1, by decide, mem_c5 237 rfl rfl⟩
theorem fg_M_59 : FLG "SinkingChoirModel" 59 1 23 := ⟨_, _, _, _, cf1, by decide, mem_c5 238 rfl rfl⟩
theorem fg_M_62 : FLG "SinkingChoirModel" 62 1 24 := ⟨_, _, _, _, cf1, by decide, mem_c5 239 rfl rfl⟩
theorem fg_M_65 : FLG "SinkingChoirModel" 65 1 25 := ⟨_, _, _, _, cf1, by decide, mem_c6 0 rfl rfl⟩
theorem fg_Ch_48 : FLG "SinkingChoir$Choir" 48 2 9 := ⟨_, _, _, _, cf2, by decide, mem_c1 132 rfl rfl⟩
theorem fg_X_183 : FLG "SinkingChoir" 183 2 7 := ⟨_, _, _, _, cf2, by decide, mem_c1 128 rfl rfl⟩
theorem fg_M_68 : FLG "SinkingChoirModel" 68 1 26 := ⟨_, _, _, _, cf1, by decide, mem_c6 1 rfl rfl⟩
theorem fg_Rl_13 : FLG "SinkingChoir$Reel" 13 7 1 := ⟨_, _, _, _, cf7, by decide, mem_c2 82 rfl rfl⟩
theorem fg_Rl_9 : FLG "SinkingChoir$Reel" 9 7 0 := ⟨_, _, _, _, cf7, by decide, mem_c2 80 rfl rfl⟩
theorem fg_X_62 : FLG "SinkingChoir" 62 0 6 := ⟨_, _, _, _, cf0, by decide, mem_c2 119 rfl rfl⟩
theorem fg_X_206 : FLG "SinkingChoir" 206 7 1 := ⟨_, _, _, _, cf7, by decide, mem_c2 83 rfl rfl⟩
theorem fg_M_7 : FLG "SinkingChoirModel" 7 1 0 := ⟨_, _, _, _, cf1, by decide, mem_c5 215 rfl rfl⟩
theorem fg_M_305 : FLG "SinkingChoirModel" 305 1 1 := ⟨_, _, _, _, cf1, by decide, mem_c5 216 rfl rfl⟩
theorem fg_Re_44 : FLG "SinkingChoir$Reader" 44 6 4 := ⟨_, _, _, _, cf6, by decide, mem_c2 101 rfl rfl⟩
theorem fg_Re_41 : FLG "SinkingChoir$Reader" 41 6 3 := ⟨_, _, _, _, cf6, by decide, mem_c2 100 rfl rfl⟩
theorem fg_Re_28 : FLG "SinkingChoir$Reader" 28 6 2 := ⟨_, _, _, _, cf6, by decide, mem_c2 99 rfl rfl⟩
theorem fg_Re_11 : FLG "SinkingChoir$Reader" 11 6 0 := ⟨_, _, _, _, cf6, by decide, mem_c2 97 rfl rfl⟩
theorem fg_Pr_36 : FLG "SinkingChoir$Program" 36 5 7 := ⟨_, _, _, _, cf5, by decide, mem_c1 91 rfl rfl⟩
theorem fg_Pr_23 : FLG "SinkingChoir$Program" 23 5 3 := ⟨_, _, _, _, cf5, by decide, mem_c1 87 rfl rfl⟩
theorem fg_Pr_26 : FLG "SinkingChoir$Program" 26 5 4 := ⟨_, _, _, _, cf5, by decide, mem_c1 88 rfl rfl⟩
theorem fg_Pr_32 : FLG "SinkingChoir$Program" 32 5 6 := ⟨_, _, _, _, cf5, by decide, mem_c1 90 rfl rfl⟩
theorem fg_Pr_11 : FLG "SinkingChoir$Program" 11 5 0 := ⟨_, _, _, _, cf5, by decide, mem_c1 84 rfl rfl⟩
theorem fg_Pr_17 : FLG "SinkingChoir$Program" 17 5 1 := ⟨_, _, _, _, cf5, by decide, mem_c1 85 rfl rfl⟩
theorem fg_Re_18 : FLG "SinkingChoir$Reader" 18 6 1 := ⟨_, _, _, _, cf6, by decide, mem_c2 98 rfl rfl⟩
theorem fg_Pr_29 : FLG "SinkingChoir$Program" 29 5 5 := ⟨_, _, _, _, cf5, by decide, mem_c1 89 rfl rfl⟩
theorem fg_X_69 : FLG "SinkingChoir" 69 0 7 := ⟨_, _, _, _, cf0, by decide, mem_c2 120 rfl rfl⟩
theorem fg_X_209 : FLG "SinkingChoir" 209 7 0 := ⟨_, _, _, _, cf7, by decide, mem_c2 81 rfl rfl⟩
theorem fg_X_216 : FLG "SinkingChoir" 216 2 8 := ⟨_, _, _, _, cf2, by decide, mem_c1 131 rfl rfl⟩
theorem fg_X_224 : FLG "SinkingChoir" 224 5 7 := ⟨_, _, _, _, cf5, by decide, mem_c1 92 rfl rfl⟩
theorem fg_M_317 : FLG "SinkingChoirModel" 317 1 42 := ⟨_, _, _, _, cf1, by decide, mem_c6 17 rfl rfl⟩
theorem fg_M_311 : FLG "SinkingChoirModel" 311 1 40 := ⟨_, _, _, _, cf1, by decide, mem_c6 15 rfl rfl⟩
theorem fg_M_314 : FLG "SinkingChoirModel" 314 1 41 := ⟨_, _, _, _, cf1, by decide, mem_c6 16 rfl rfl⟩
theorem fg_M_107 : FLG "SinkingChoirModel" 107 1 49 := ⟨_, _, _, _, cf1, by decide, mem_c6 24 rfl rfl⟩
theorem fg_M_327 : FLG "SinkingChoirModel" 327 1 46 := ⟨_, _, _, _, cf1, by decide, mem_c6 21 rfl rfl⟩
theorem fg_M_330 : FLG "SinkingChoirModel" 330 1 45 := ⟨_, _, _, _, cf1, by decide, mem_c6 20 rfl rfl⟩
theorem fg_M_101 : FLG "SinkingChoirModel" 101 1 38 := ⟨_, _, _, _, cf1, by decide, mem_c6 13 rfl rfl⟩
theorem fg_M_324 : FLG "SinkingChoirModel" 324 1 44 := ⟨_, _, _, _, cf1, by decide, mem_c6 19 rfl rfl⟩
theorem fg_M_104 : FLG "SinkingChoirModel" 104 1 39 := ⟨_, _, _, _, cf1, by decide, mem_c6 14 rfl rfl⟩
theorem fg_M_374 : FLG "SinkingChoirModel" 374 1 48 := ⟨_, _, _, _, cf1, by decide, mem_c6 23 rfl rfl⟩
theorem fg_M_396 : FLG "SinkingChoirModel" 396 1 47 := ⟨_, _, _, _, cf1, by decide, mem_c6 22 rfl rfl⟩
theorem fg_M_405 : FLG "SinkingChoirModel" 405 1 43 := ⟨_, _, _, _, cf1, by decide, mem_c6 18 rfl rfl⟩
theorem fg_M_89 : FLG "SinkingChoirModel" 89 1 34 := ⟨_, _, _, _, cf1, by decide, mem_c6 9 rfl rfl⟩
theorem fg_M_92 : FLG "SinkingChoirModel" 92 1 35 := ⟨_, _, _, _, cf1, by decide, mem_c6 10 rfl rfl⟩
theorem fg_M_95 : FLG "SinkingChoirModel" 95 1 36 := ⟨_, _, _, _, cf1, by decide, mem_c6 11 rfl rfl⟩
theorem fg_M_98 : FLG "SinkingChoirModel" 98 1 37 := ⟨_, _, _, _, cf1, by decide, mem_c6 12 rfl rfl⟩
theorem fg_M_416 : FLG "SinkingChoirModel" 416 1 27 := ⟨_, _, _, _, cf1, by decide, mem_c6 2 rfl rfl⟩
theorem fg_M_83 : FLG "SinkingChoirModel" 83 1 32 := ⟨_, _, _, _, cf1, by decide, mem_c6 7 rfl rfl⟩
theorem fg_M_86 : FLG "SinkingChoirModel" 86 1 33 := ⟨_, _, _, _, cf1, by decide, mem_c6 8 rfl rfl⟩
theorem fg_M_71 : FLG "SinkingChoirModel" 71 1 28 := ⟨_, _, _, _, cf1, by decide, mem_c6 3 rfl rfl⟩
theorem fg_M_74 : FLG "SinkingChoirModel" 74 1 29 := ⟨_, _, _, _, cf1, by decide, mem_c6 4 rfl rfl⟩
theorem fg_M_77 : FLG "SinkingChoirModel" 77 1 30 := ⟨_, _, _, _, cf1, by decide, mem_c6 5 rfl rfl⟩
theorem fg_M_80 : FLG "SinkingChoirModel" 80 1 31 := ⟨_, _, _, _, cf1, by decide, mem_c6 6 rfl rfl⟩
theorem fg_Ch_33 : FLG "SinkingChoir$Choir" 33 2 0 := ⟨_, _, _, _, cf2, by decide, mem_c1 110 rfl rfl⟩
theorem fg_Ch_9 : FLG "SinkingChoir$Choir" 9 2 1 := ⟨_, _, _, _, cf2, by decide, mem_c1 111 rfl rfl⟩
theorem fg_Ch_30 : FLG "SinkingChoir$Choir" 30 2 7 := ⟨_, _, _, _, cf2, by decide, mem_c1 127 rfl rfl⟩
theorem fg_Si_46 : FLG "SinkingChoir$Singing" 46 9 1 := ⟨_, _, _, _, cf9, by decide, mem_c1 189 rfl rfl⟩
theorem fg_Si_42 : FLG "SinkingChoir$Singing" 42 9 0 := ⟨_, _, _, _, cf9, by decide, mem_c1 188 rfl rfl⟩
theorem fg_Si_136 : FLG "SinkingChoir$Singing" 136 8 0 := ⟨_, _, _, _, cf8, by decide, mem_c1 41 rfl rfl⟩
theorem fg_Si_133 : FLG "SinkingChoir$Singing" 133 2 1 := ⟨_, _, _, _, cf2, by decide, mem_c1 112 rfl rfl⟩
theorem fg_Si_65 : FLG "SinkingChoir$Singing" 65 9 10 := ⟨_, _, _, _, cf9, by decide, mem_c1 198 rfl rfl⟩
theorem fg_Si_91 : FLG "SinkingChoir$Singing" 91 2 9 := ⟨_, _, _, _, cf2, by decide, mem_c1 134 rfl rfl⟩
theorem fg_Si_15 : FLG "SinkingChoir$Singing" 15 9 3 := ⟨_, _, _, _, cf9, by decide, mem_c1 191 rfl rfl⟩
theorem fg_Si_168 : FLG "SinkingChoir$Singing" 168 2 4 := ⟨_, _, _, _, cf2, by decide, mem_c1 123 rfl rfl⟩
theorem fg_Si_68 : FLG "SinkingChoir$Singing" 68 9 11 := ⟨_, _, _, _, cf9, by decide, mem_c1 199 rfl rfl⟩
theorem fg_Si_28 : FLG "SinkingChoir$Singing" 28 9 4 := ⟨_, _, _, _, cf9, by decide, mem_c1 192 rfl rfl⟩
theorem fg_Si_148 : FLG "SinkingChoir$Singing" 148 2 3 := ⟨_, _, _, _, cf2, by decide, mem_c1 120 rfl rfl⟩
theorem fg_Si_84 : FLG "SinkingChoir$Singing" 84 9 14 := ⟨_, _, _, _, cf9, by decide, mem_c1 202 rfl rfl⟩
theorem fg_Si_75 : FLG "SinkingChoir$Singing" 75 9 13 := ⟨_, _, _, _, cf9, by decide, mem_c1 201 rfl rfl⟩
theorem fg_Pr_20 : FLG "SinkingChoir$Program" 20 5 2 := ⟨_, _, _, _, cf5, by decide, mem_c1 86 rfl rfl⟩
theorem fg_Si_173 : FLG "SinkingChoir$Singing" 173 8 2 := ⟨_, _, _, _, cf8, by decide, mem_c1 45 rfl rfl⟩
theorem fg_Si_64 : FLG "SinkingChoir$Singing" 64 9 9 := ⟨_, _, _, _, cf9, by decide, mem_c1 197 rfl rfl⟩
theorem fg_Si_176 : FLG "SinkingChoir$Singing" 176 2 11 := ⟨_, _, _, _, cf2, by decide, mem_c1 139 rfl rfl⟩
theorem fg_Si_38 : FLG "SinkingChoir$Singing" 38 9 7 := ⟨_, _, _, _, cf9, by decide, mem_c1 195 rfl rfl⟩
theorem fg_Si_35 : FLG "SinkingChoir$Singing" 35 9 6 := ⟨_, _, _, _, cf9, by decide, mem_c1 194 rfl rfl⟩
theorem fg_Si_55 : FLG "SinkingChoir$Singing" 55 9 8 := ⟨_, _, _, _, cf9, by decide, mem_c1 196 rfl rfl⟩
theorem fg_Si_9 : FLG "SinkingChoir$Singing" 9 9 2 := ⟨_, _, _, _, cf9, by decide, mem_c1 190 rfl rfl⟩
theorem fg_Si_115 : FLG "SinkingChoir$Singing" 115 2 8 := ⟨_, _, _, _, cf2, by decide, mem_c1 130 rfl rfl⟩
theorem fg_Si_32 : FLG "SinkingChoir$Singing" 32 9 5 := ⟨_, _, _, _, cf9, by decide, mem_c1 193 rfl rfl⟩
theorem fg_Si_76 : FLG "SinkingChoir$Singing" 76 9 12 := ⟨_, _, _, _, cf9, by decide, mem_c1 200 rfl rfl⟩
theorem fg_Si_72 : FLG "SinkingChoir$Singing" 72 2 10 := ⟨_, _, _, _, cf2, by decide, mem_c1 137 rfl rfl⟩
theorem fg_Si_56 : FLG "SinkingChoir$Singing" 56 2 12 := ⟨_, _, _, _, cf2, by decide, mem_c1 141 rfl rfl⟩
theorem fg_M_302 : FLG "SinkingChoirModel" 302 1 21 := ⟨_, _, _, _, cf1, by decide, mem_c5 236 rfl rfl⟩
theorem fg_M_110 : FLG "SinkingChoirModel" 110 1 50 := ⟨_, _, _, _, cf1, by decide, mem_c6 25 rfl rfl⟩
theorem fg_M_113 : FLG "SinkingChoirModel" 113 1 51 := ⟨_, _, _, _, cf1, by decide, mem_c6 26 rfl rfl⟩
theorem fg_M_420 : FLG "SinkingChoirModel" 420 1 53 := ⟨_, _, _, _, cf1, by decide, mem_c6 28 rfl rfl⟩
theorem fg_M_471 : FLG "SinkingChoirModel" 471 1 66 := ⟨_, _, _, _, cf1, by decide, mem_c6 41 rfl rfl⟩
theorem fg_M_116 : FLG "SinkingChoirModel" 116 1 54 := ⟨_, _, _, _, cf1, by decide, mem_c6 29 rfl rfl⟩
theorem fg_M_131 : FLG "SinkingChoirModel" 131 1 63 := ⟨_, _, _, _, cf1, by decide, mem_c6 38 rfl rfl⟩
theorem fg_M_128 : FLG "SinkingChoirModel" 128 1 62 := ⟨_, _, _, _, cf1, by decide, mem_c6 37 rfl rfl⟩
theorem fg_M_122 : FLG "SinkingChoirModel" 122 1 56 := ⟨_, _, _, _, cf1, by decide, mem_c6 31 rfl rfl⟩
theorem fg_M_426 : FLG "SinkingChoirModel" 426 1 59 := ⟨_, _, _, _, cf1, by decide, mem_c6 34 rfl rfl⟩
theorem fg_M_429 : FLG "SinkingChoirModel" 429 1 60 := ⟨_, _, _, _, cf1, by decide, mem_c6 35 rfl rfl⟩
theorem fg_M_450 : FLG "SinkingChoirModel" 450 1 58 := ⟨_, _, _, _, cf1, by decide, mem_c6 33 rfl rfl⟩
theorem fg_M_119 : FLG "SinkingChoirModel" 119 1 55 := ⟨_, _, _, _, cf1, by decide, mem_c6 30 rfl rfl⟩
theorem fg_M_477 : FLG "SinkingChoirModel" 477 1 67 := ⟨_, _, _, _, cf1, by decide, mem_c6 42 rfl rfl⟩
theorem fg_M_125 : FLG "SinkingChoirModel" 125 1 57 := ⟨_, _, _, _, cf1, by decide, mem_c6 32 rfl rfl⟩
theorem fg_M_474 : FLG "SinkingChoirModel" 474 1 64 := ⟨_, _, _, _, cf1, by decide, mem_c6 39 rfl rfl⟩
theorem fg_M_480 : FLG "SinkingChoirModel" 480 1 65 := ⟨_, _, _, _, cf1, by decide, mem_c6 40 rfl rfl⟩
theorem fg_M_490 : FLG "SinkingChoirModel" 490 1 61 := ⟨_, _, _, _, cf1, by decide, mem_c6 36 rfl rfl⟩
theorem fg_M_52 : FLG "SinkingChoirModel" 52 1 19 := ⟨_, _, _, _, cf1, by decide, mem_c5 234 rfl rfl⟩
theorem fg_M_297 : FLG "SinkingChoirModel" 297 1 20 := ⟨_, _, _, _, cf1, by decide, mem_c5 235 rfl rfl⟩
theorem fg_M_497 : FLG "SinkingChoirModel" 497 1 52 := ⟨_, _, _, _, cf1, by decide, mem_c6 27 rfl rfl⟩
theorem fg_Ch_87 : FLG "SinkingChoir$Choir" 87 8 0 := ⟨_, _, _, _, cf8, by decide, mem_c1 42 rfl rfl⟩
theorem fg_Ch_93 : FLG "SinkingChoir$Choir" 93 8 2 := ⟨_, _, _, _, cf8, by decide, mem_c1 46 rfl rfl⟩
theorem fg_St_9 : FLG "SinkingChoir$Standing" 9 10 2 := ⟨_, _, _, _, cf10, by decide, mem_c2 5 rfl rfl⟩
theorem fg_St_18 : FLG "SinkingChoir$Standing" 18 10 0 := ⟨_, _, _, _, cf10, by decide, mem_c2 3 rfl rfl⟩
theorem fg_St_75 : FLG "SinkingChoir$Standing" 75 2 9 := ⟨_, _, _, _, cf2, by decide, mem_c1 133 rfl rfl⟩
theorem fg_St_26 : FLG "SinkingChoir$Standing" 26 10 6 := ⟨_, _, _, _, cf10, by decide, mem_c2 12 rfl rfl⟩
theorem fg_St_30 : FLG "SinkingChoir$Standing" 30 2 2 := ⟨_, _, _, _, cf2, by decide, mem_c1 116 rfl rfl⟩
theorem fg_St_22 : FLG "SinkingChoir$Standing" 22 10 1 := ⟨_, _, _, _, cf10, by decide, mem_c2 4 rfl rfl⟩
theorem fg_St_43 : FLG "SinkingChoir$Standing" 43 2 12 := ⟨_, _, _, _, cf2, by decide, mem_c1 142 rfl rfl⟩
theorem fg_St_62 : FLG "SinkingChoir$Standing" 62 10 4 := ⟨_, _, _, _, cf10, by decide, mem_c2 8 rfl rfl⟩
theorem fg_St_15 : FLG "SinkingChoir$Standing" 15 10 3 := ⟨_, _, _, _, cf10, by decide, mem_c2 6 rfl rfl⟩
theorem fg_St_68 : FLG "SinkingChoir$Standing" 68 10 5 := ⟨_, _, _, _, cf10, by decide, mem_c2 10 rfl rfl⟩
theorem fg_X_39 : FLG "SinkingChoir" 39 0 3 := ⟨_, _, _, _, cf0, by decide, mem_c2 116 rfl rfl⟩
theorem fg_X_285 : FLG "SinkingChoir" 285 10 3 := ⟨_, _, _, _, cf10, by decide, mem_c2 7 rfl rfl⟩
theorem fg_X_283 : FLG "SinkingChoir" 283 10 5 := ⟨_, _, _, _, cf10, by decide, mem_c2 11 rfl rfl⟩
theorem fg_X_280 : FLG "SinkingChoir" 280 10 4 := ⟨_, _, _, _, cf10, by decide, mem_c2 9 rfl rfl⟩
theorem fg_M_134 : FLG "SinkingChoirModel" 134 1 68 := ⟨_, _, _, _, cf1, by decide, mem_c6 43 rfl rfl⟩
theorem fg_Le_19 : FLG "SinkingChoir$Leading" 19 4 1 := ⟨_, _, _, _, cf4, by decide, mem_c2 35 rfl rfl⟩
theorem fg_Le_9 : FLG "SinkingChoir$Leading" 9 4 2 := ⟨_, _, _, _, cf4, by decide, mem_c2 36 rfl rfl⟩
theorem fg_Le_54 : FLG "SinkingChoir$Leading" 54 4 4 := ⟨_, _, _, _, cf4, by decide, mem_c2 39 rfl rfl⟩
theorem fg_Le_15 : FLG "SinkingChoir$Leading" 15 4 0 := ⟨_, _, _, _, cf4, by decide, mem_c2 34 rfl rfl⟩
theorem fg_Le_32 : FLG "SinkingChoir$Leading" 32 2 2 := ⟨_, _, _, _, cf2, by decide, mem_c1 117 rfl rfl⟩
theorem fg_X_46 : FLG "SinkingChoir" 46 0 4 := ⟨_, _, _, _, cf0, by decide, mem_c2 117 rfl rfl⟩
theorem fg_X_294 : FLG "SinkingChoir" 294 4 4 := ⟨_, _, _, _, cf4, by decide, mem_c2 40 rfl rfl⟩
theorem fg_X_291 : FLG "SinkingChoir" 291 4 3 := ⟨_, _, _, _, cf4, by decide, mem_c2 38 rfl rfl⟩
theorem fg_X_196 : FLG "SinkingChoir" 196 2 12 := ⟨_, _, _, _, cf2, by decide, mem_c1 143 rfl rfl⟩
theorem fg_Ch_24 : FLG "SinkingChoir$Choir" 24 2 5 := ⟨_, _, _, _, cf2, by decide, mem_c1 125 rfl rfl⟩
theorem fg_Ch_27 : FLG "SinkingChoir$Choir" 27 2 6 := ⟨_, _, _, _, cf2, by decide, mem_c1 126 rfl rfl⟩
theorem fg_M_137 : FLG "SinkingChoirModel" 137 1 69 := ⟨_, _, _, _, cf1, by decide, mem_c6 44 rfl rfl⟩
theorem fg_Fi_19 : FLG "SinkingChoir$Fitting" 19 3 1 := ⟨_, _, _, _, cf3, by decide, mem_c2 59 rfl rfl⟩
theorem fg_Fi_23 : FLG "SinkingChoir$Fitting" 23 3 2 := ⟨_, _, _, _, cf3, by decide, mem_c2 60 rfl rfl⟩
theorem fg_Fi_11 : FLG "SinkingChoir$Fitting" 11 3 3 := ⟨_, _, _, _, cf3, by decide, mem_c2 61 rfl rfl⟩
theorem fg_Fi_43 : FLG "SinkingChoir$Fitting" 43 3 4 := ⟨_, _, _, _, cf3, by decide, mem_c2 62 rfl rfl⟩
theorem fg_X_55 : FLG "SinkingChoir" 55 0 5 := ⟨_, _, _, _, cf0, by decide, mem_c2 118 rfl rfl⟩
theorem fg_X_187 : FLG "SinkingChoir" 187 2 10 := ⟨_, _, _, _, cf2, by decide, mem_c1 138 rfl rfl⟩
theorem fg_X_192 : FLG "SinkingChoir" 192 2 11 := ⟨_, _, _, _, cf2, by decide, mem_c1 140 rfl rfl⟩
theorem fp_Sc_9 : FLP "SinkingChoir$Score" 9 8 0 true := ⟨_, _, _, _, cf8, by decide, mem_c1 40 rfl rfl, rfl, fun _ => rfl⟩
theorem fp_Sc_15 : FLP "SinkingChoir$Score" 15 8 1 true := ⟨_, _, _, _, cf8, by decide, mem_c1 43 rfl rfl, rfl, fun _ => rfl⟩
theorem fp_Sc_18 : FLP "SinkingChoir$Score" 18 8 2 true := ⟨_, _, _, _, cf8, by decide, mem_c1 44 rfl rfl, rfl, fun _ => rfl⟩
theorem fp_Sc_21 : FLP "SinkingChoir$Score" 21 8 3 true := ⟨_, _, _, _, cf8, by decide, mem_c1 47 rfl rfl, rfl, fun _ => rfl⟩
theorem fp_Sc_24 : FLP "SinkingChoir$Score" 24 8 4 true := ⟨_, _, _, _, cf8, by decide, mem_c1 49 rfl rfl, rfl, fun _ => rfl⟩
theorem fp_Sc_27 : FLP "SinkingChoir$Score" 27 8 5 true := ⟨_, _, _, _, cf8, by decide, mem_c1 52 rfl rfl, rfl, fun _ => rfl⟩
theorem fp_Sc_30 : FLP "SinkingChoir$Score" 30 8 6 true := ⟨_, _, _, _, cf8, by decide, mem_c1 54 rfl rfl, rfl, fun _ => rfl⟩
theorem fp_Pr_11 : FLP "SinkingChoir$Program" 11 5 0 true := ⟨_, _, _, _, cf5, by decide, mem_c1 84 rfl rfl, rfl, fun _ => rfl⟩
theorem fp_Pr_17 : FLP "SinkingChoir$Program" 17 5 1 true := ⟨_, _, _, _, cf5, by decide, mem_c1 85 rfl rfl, rfl, fun _ => rfl⟩
theorem fp_Pr_20 : FLP "SinkingChoir$Program" 20 5 2 true := ⟨_, _, _, _, cf5, by decide, mem_c1 86 rfl rfl, rfl, fun _ => rfl⟩
theorem fp_Pr_23 : FLP "SinkingChoir$Program" 23 5 3 true := ⟨_, _, _, _, cf5, by decide, mem_c1 87 rfl rfl, rfl, fun _ => rfl⟩
theorem fp_Pr_26 : FLP "SinkingChoir$Program" 26 5 4 true := ⟨_, _, _, _, cf5, by decide, mem_c1 88 rfl rfl, rfl, fun _ => rfl⟩
theorem fp_Pr_29 : FLP "SinkingChoir$Program" 29 5 5 true := ⟨_, _, _, _, cf5, by decide, mem_c1 89 rfl rfl, rfl, fun _ => rfl⟩
theorem fp_Ch_9 : FLP "SinkingChoir$Choir" 9 2 1 true := ⟨_, _, _, _, cf2, by decide, mem_c1 111 rfl rfl, rfl, fun _ => rfl⟩
theorem fp_Ch_15 : FLP "SinkingChoir$Choir" 15 2 2 true := ⟨_, _, _, _, cf2, by decide, mem_c1 114 rfl rfl, rfl, fun _ => rfl⟩
theorem fp_Ch_18 : FLP "SinkingChoir$Choir" 18 2 3 true := ⟨_, _, _, _, cf2, by decide, mem_c1 119 rfl rfl, rfl, fun _ => rfl⟩
theorem fp_Ch_21 : FLP "SinkingChoir$Choir" 21 2 4 true := ⟨_, _, _, _, cf2, by decide, mem_c1 122 rfl rfl, rfl, fun _ => rfl⟩
theorem fp_Ch_24 : FLP "SinkingChoir$Choir" 24 2 5 true := ⟨_, _, _, _, cf2, by decide, mem_c1 125 rfl rfl, rfl, fun _ => rfl⟩
theorem fp_Ch_27 : FLP "SinkingChoir$Choir" 27 2 6 true := ⟨_, _, _, _, cf2, by decide, mem_c1 126 rfl rfl, rfl, fun _ => rfl⟩
theorem fp_Ch_30 : FLP "SinkingChoir$Choir" 30 2 7 true := ⟨_, _, _, _, cf2, by decide, mem_c1 127 rfl rfl, rfl, fun _ => rfl⟩
theorem fp_Ch_33 : FLP "SinkingChoir$Choir" 33 2 0 true := ⟨_, _, _, _, cf2, by decide, mem_c1 110 rfl rfl, rfl, fun _ => rfl⟩
theorem fp_Ch_40 : FLP "SinkingChoir$Choir" 40 2 8 false := ⟨_, _, _, _, cf2, by decide, mem_c1 129 rfl rfl, rfl, fun z => nomatch z⟩
theorem fp_Ch_44 : FLP "SinkingChoir$Choir" 44 2 10 false := ⟨_, _, _, _, cf2, by decide, mem_c1 136 rfl rfl, rfl, fun z => nomatch z⟩
theorem fp_Si_9 : FLP "SinkingChoir$Singing" 9 9 2 true := ⟨_, _, _, _, cf9, by decide, mem_c1 190 rfl rfl, rfl, fun _ => rfl⟩
theorem fp_Si_15 : FLP "SinkingChoir$Singing" 15 9 3 true := ⟨_, _, _, _, cf9, by decide, mem_c1 191 rfl rfl, rfl, fun _ => rfl⟩
theorem fp_Si_28 : FLP "SinkingChoir$Singing" 28 9 4 true := ⟨_, _, _, _, cf9, by decide, mem_c1 192 rfl rfl, rfl, fun _ => rfl⟩
theorem fp_Si_32 : FLP "SinkingChoir$Singing" 32 9 5 true := ⟨_, _, _, _, cf9, by decide, mem_c1 193 rfl rfl, rfl, fun _ => rfl⟩
theorem fp_Si_35 : FLP "SinkingChoir$Singing" 35 9 6 true := ⟨_, _, _, _, cf9, by decide, mem_c1 194 rfl rfl, rfl, fun _ => rfl⟩
theorem fp_Si_38 : FLP "SinkingChoir$Singing" 38 9 7 true := ⟨_, _, _, _, cf9, by decide, mem_c1 195 rfl rfl, rfl, fun _ => rfl⟩
theorem fp_Si_42 : FLP "SinkingChoir$Singing" 42 9 0 true := ⟨_, _, _, _, cf9, by decide, mem_c1 188 rfl rfl, rfl, fun _ => rfl⟩
theorem fp_Si_46 : FLP "SinkingChoir$Singing" 46 9 1 true := ⟨_, _, _, _, cf9, by decide, mem_c1 189 rfl rfl, rfl, fun _ => rfl⟩
theorem fp_Si_55 : FLP "SinkingChoir$Singing" 55 9 8 false := ⟨_, _, _, _, cf9, by decide, mem_c1 196 rfl rfl, rfl, fun z => nomatch z⟩
theorem fp_St_9 : FLP "SinkingChoir$Standing" 9 10 2 true := ⟨_, _, _, _, cf10, by decide, mem_c2 5 rfl rfl, rfl, fun _ => rfl⟩
theorem fp_St_15 : FLP "SinkingChoir$Standing" 15 10 3 true := ⟨_, _, _, _, cf10, by decide, mem_c2 6 rfl rfl, rfl, fun _ => rfl⟩
theorem fp_St_18 : FLP "SinkingChoir$Standing" 18 10 0 true := ⟨_, _, _, _, cf10, by decide, mem_c2 3 rfl rfl, rfl, fun _ => rfl⟩
theorem fp_St_22 : FLP "SinkingChoir$Standing" 22 10 1 true := ⟨_, _, _, _, cf10, by decide, mem_c2 4 rfl rfl, rfl, fun _ => rfl⟩
theorem fp_St_26 : FLP "SinkingChoir$Standing" 26 10 6 false := ⟨_, _, _, _, cf10, by decide, mem_c2 12 rfl rfl, rfl, fun z => nomatch z⟩
theorem fp_Le_9 : FLP "SinkingChoir$Leading" 9 4 2 true := ⟨_, _, _, _, cf4, by decide, mem_c2 36 rfl rfl, rfl, fun _ => rfl⟩
theorem fp_Le_15 : FLP "SinkingChoir$Leading" 15 4 0 true := ⟨_, _, _, _, cf4, by decide, mem_c2 34 rfl rfl, rfl, fun _ => rfl⟩
theorem fp_Le_19 : FLP "SinkingChoir$Leading" 19 4 1 true := ⟨_, _, _, _, cf4, by decide, mem_c2 35 rfl rfl, rfl, fun _ => rfl⟩
theorem fp_Fi_11 : FLP "SinkingChoir$Fitting" 11 3 3 true := ⟨_, _, _, _, cf3, by decide, mem_c2 61 rfl rfl, rfl, fun _ => rfl⟩
theorem fp_Fi_15 : FLP "SinkingChoir$Fitting" 15 3 0 true := ⟨_, _, _, _, cf3, by decide, mem_c2 58 rfl rfl, rfl, fun _ => rfl⟩
theorem fp_Fi_19 : FLP "SinkingChoir$Fitting" 19 3 1 true := ⟨_, _, _, _, cf3, by decide, mem_c2 59 rfl rfl, rfl, fun _ => rfl⟩
theorem fp_Fi_23 : FLP "SinkingChoir$Fitting" 23 3 2 true := ⟨_, _, _, _, cf3, by decide, mem_c2 60 rfl rfl, rfl, fun _ => rfl⟩
theorem fp_Rl_9 : FLP "SinkingChoir$Reel" 9 7 0 true := ⟨_, _, _, _, cf7, by decide, mem_c2 80 rfl rfl, rfl, fun _ => rfl⟩
theorem fp_Re_11 : FLP "SinkingChoir$Reader" 11 6 0 true := ⟨_, _, _, _, cf6, by decide, mem_c2 97 rfl rfl, rfl, fun _ => rfl⟩
theorem fp_Re_18 : FLP "SinkingChoir$Reader" 18 6 1 false := ⟨_, _, _, _, cf6, by decide, mem_c2 98 rfl rfl, rfl, fun z => nomatch z⟩
theorem fp_X_10 : FLP "SinkingChoir" 10 0 0 true := ⟨_, _, _, _, cf0, by decide, mem_c2 113 rfl rfl, rfl, fun _ => rfl⟩
theorem fp_X_21 : FLP "SinkingChoir" 21 0 1 true := ⟨_, _, _, _, cf0, by decide, mem_c2 114 rfl rfl, rfl, fun _ => rfl⟩
theorem fp_X_30 : FLP "SinkingChoir" 30 0 2 true := ⟨_, _, _, _, cf0, by decide, mem_c2 115 rfl rfl, rfl, fun _ => rfl⟩
theorem fp_X_39 : FLP "SinkingChoir" 39 0 3 true := ⟨_, _, _, _, cf0, by decide, mem_c2 116 rfl rfl, rfl, fun _ => rfl⟩
theorem fp_X_46 : FLP "SinkingChoir" 46 0 4 true := ⟨_, _, _, _, cf0, by decide, mem_c2 117 rfl rfl, rfl, fun _ => rfl⟩
theorem fp_X_55 : FLP "SinkingChoir" 55 0 5 true := ⟨_, _, _, _, cf0, by decide, mem_c2 118 rfl rfl, rfl, fun _ => rfl⟩
theorem fp_X_62 : FLP "SinkingChoir" 62 0 6 true := ⟨_, _, _, _, cf0, by decide, mem_c2 119 rfl rfl, rfl, fun _ => rfl⟩
theorem fp_X_69 : FLP "SinkingChoir" 69 0 7 true := ⟨_, _, _, _, cf0, by decide, mem_c2 120 rfl rfl, rfl, fun _ => rfl⟩
theorem fp_M_7 : FLP "SinkingChoirModel" 7 1 0 true := ⟨_, _, _, _, cf1, by decide, mem_c5 215 rfl rfl, rfl, fun _ => rfl⟩
theorem fp_M_13 : FLP "SinkingChoirModel" 13 1 2 true := ⟨_, _, _, _, cf1, by decide, mem_c5 217 rfl rfl, rfl, fun _ => rfl⟩
theorem fp_M_17 : FLP "SinkingChoirModel" 17 1 3 true := ⟨_, _, _, _, cf1, by decide, mem_c5 218 rfl rfl, rfl, fun _ => rfl⟩
theorem fp_M_20 : FLP "SinkingChoirModel" 20 1 4 true := ⟨_, _, _, _, cf1, by decide, mem_c5 219 rfl rfl, rfl, fun _ => rfl⟩
theorem fp_M_23 : FLP "SinkingChoirModel" 23 1 5 true := ⟨_, _, _, _, cf1, by decide, mem_c5 220 rfl rfl, rfl, fun _ => rfl⟩
theorem fp_M_26 : FLP "SinkingChoirModel" 26 1 6 true := ⟨_, _, _, _, cf1, by decide, mem_c5 221 rfl rfl, rfl, fun _ => rfl⟩
theorem fp_M_30 : FLP "SinkingChoirModel" 30 1 7 true := ⟨_, _, _, _, cf1, by decide, mem_c5 222 rfl rfl, rfl, fun _ => rfl⟩
theorem fp_M_33 : FLP "SinkingChoirModel" 33 1 11 true := ⟨_, _, _, _, cf1, by decide, mem_c5 226 rfl rfl, rfl, fun _ => rfl⟩
theorem fp_M_36 : FLP "SinkingChoirModel" 36 1 12 true := ⟨_, _, _, _, cf1, by decide, mem_c5 227 rfl rfl, rfl, fun _ => rfl⟩
theorem fp_M_39 : FLP "SinkingChoirModel" 39 1 13 true := ⟨_, _, _, _, cf1, by decide, mem_c5 228 rfl rfl, rfl, fun _ => rfl⟩
theorem fp_M_42 : FLP "SinkingChoirModel" 42 1 14 true := ⟨_, _, _, _, cf1, by decide, mem_c5 229 rfl rfl, rfl, fun _ => rfl⟩
theorem fp_M_45 : FLP "SinkingChoirModel" 45 1 15 true := ⟨_, _, _, _, cf1, by decide, mem_c5 230 rfl rfl, rfl, fun _ => rfl⟩
theorem fp_M_49 : FLP "SinkingChoirModel" 49 1 16 true := ⟨_, _, _, _, cf1, by decide, mem_c5 231 rfl rfl, rfl, fun _ => rfl⟩
theorem fp_M_52 : FLP "SinkingChoirModel" 52 1 19 false := ⟨_, _, _, _, cf1, by decide, mem_c5 234 rfl rfl, rfl, fun z => nomatch z⟩
theorem fp_M_56 : FLP "SinkingChoirModel" 56 1 22 true := ⟨_, _, _, _, cf1, by decide, mem_c5 237 rfl rfl, rfl, fun _ => rfl⟩
theorem fp_M_59 : FLP "SinkingChoirModel" 59 1 23 true := ⟨_, _, _, _, cf1, by decide, mem_c5 238 rfl rfl, rfl, fun _ => rfl⟩
theorem fp_M_62 : FLP "SinkingChoirModel" 62 1 24 true := ⟨_, _, _, _, cf1, by decide, mem_c5 239 rfl rfl, rfl, fun _ => rfl⟩
theorem fp_M_65 : FLP "SinkingChoirModel" 65 1 25 true := ⟨_, _, _, _, cf1, by decide, mem_c6 0 rfl rfl, rfl, fun _ => rfl⟩
theorem fp_M_68 : FLP "SinkingChoirModel" 68 1 26 true := ⟨_, _, _, _, cf1, by decide, mem_c6 1 rfl rfl, rfl, fun _ => rfl⟩
theorem fp_M_71 : FLP "SinkingChoirModel" 71 1 28 true := ⟨_, _, _, _, cf1, by decide, mem_c6 3 rfl rfl, rfl, fun _ => rfl⟩
theorem fp_M_74 : FLP "SinkingChoirModel" 74 1 29 true := ⟨_, _, _, _, cf1, by decide, mem_c6 4 rfl rfl, rfl, fun _ => rfl⟩
theorem fp_M_77 : FLP "SinkingChoirModel" 77 1 30 true := ⟨_, _, _, _, cf1, by decide, mem_c6 5 rfl rfl, rfl, fun _ => rfl⟩
theorem fp_M_80 : FLP "SinkingChoirModel" 80 1 31 true := ⟨_, _, _, _, cf1, by decide, mem_c6 6 rfl rfl, rfl, fun _ => rfl⟩
theorem fp_M_83 : FLP "SinkingChoirModel" 83 1 32 true := ⟨_, _, _, _, cf1, by decide, mem_c6 7 rfl rfl, rfl, fun _ => rfl⟩
theorem fp_M_86 : FLP "SinkingChoirModel" 86 1 33 true := ⟨_, _, _, _, cf1, by decide, mem_c6 8 rfl rfl, rfl, fun _ => rfl⟩
theorem fp_M_89 : FLP "SinkingChoirModel" 89 1 34 true := ⟨_, _, _, _, cf1, by decide, mem_c6 9 rfl rfl, rfl, fun _ => rfl⟩
theorem fp_M_92 : FLP "SinkingChoirModel" 92 1 35 true := ⟨_, _, _, _, cf1, by decide, mem_c6 10 rfl rfl, rfl, fun _ => rfl⟩
theorem fp_M_95 : FLP "SinkingChoirModel" 95 1 36 true := ⟨_, _, _, _, cf1, by decide, mem_c6 11 rfl rfl, rfl, fun _ => rfl⟩
theorem fp_M_98 : FLP "SinkingChoirModel" 98 1 37 true := ⟨_, _, _, _, cf1, by decide, mem_c6 12 rfl rfl, rfl, fun _ => rfl⟩
theorem fp_M_101 : FLP "SinkingChoirModel" 101 1 38 true := ⟨_, _, _, _, cf1, by decide, mem_c6 13 rfl rfl, rfl, fun _ => rfl⟩
theorem fp_M_104 : FLP "SinkingChoirModel" 104 1 39 true := ⟨_, _, _, _, cf1, by decide, mem_c6 14 rfl rfl, rfl, fun _ => rfl⟩
theorem fp_M_107 : FLP "SinkingChoirModel" 107 1 49 true := ⟨_, _, _, _, cf1, by decide, mem_c6 24 rfl rfl, rfl, fun _ => rfl⟩
theorem fp_M_110 : FLP "SinkingChoirModel" 110 1 50 true := ⟨_, _, _, _, cf1, by decide, mem_c6 25 rfl rfl, rfl, fun _ => rfl⟩
theorem fp_M_113 : FLP "SinkingChoirModel" 113 1 51 true := ⟨_, _, _, _, cf1, by decide, mem_c6 26 rfl rfl, rfl, fun _ => rfl⟩
theorem fp_M_116 : FLP "SinkingChoirModel" 116 1 54 true := ⟨_, _, _, _, cf1, by decide, mem_c6 29 rfl rfl, rfl, fun _ => rfl⟩
theorem fp_M_119 : FLP "SinkingChoirModel" 119 1 55 true := ⟨_, _, _, _, cf1, by decide, mem_c6 30 rfl rfl, rfl, fun _ => rfl⟩
theorem fp_M_122 : FLP "SinkingChoirModel" 122 1 56 true := ⟨_, _, _, _, cf1, by decide, mem_c6 31 rfl rfl, rfl, fun _ => rfl⟩
theorem fp_M_125 : FLP "SinkingChoirModel" 125 1 57 true := ⟨_, _, _, _, cf1, by decide, mem_c6 32 rfl rfl, rfl, fun _ => rfl⟩
theorem fp_M_128 : FLP "SinkingChoirModel" 128 1 62 true := ⟨_, _, _, _, cf1, by decide, mem_c6 37 rfl rfl, rfl, fun _ => rfl⟩
theorem fp_M_131 : FLP "SinkingChoirModel" 131 1 63 true := ⟨_, _, _, _, cf1, by decide, mem_c6 38 rfl rfl, rfl, fun _ => rfl⟩
theorem fp_M_134 : FLP "SinkingChoirModel" 134 1 68 true := ⟨_, _, _, _, cf1, by decide, mem_c6 43 rfl rfl, rfl, fun _ => rfl⟩
theorem fp_M_137 : FLP "SinkingChoirModel" 137 1 69 true := ⟨_, _, _, _, cf1, by decide, mem_c6 44 rfl rfl, rfl, fun _ => rfl⟩
theorem fp_M_140 : FLP "SinkingChoirModel" 140 1 70 true := ⟨_, _, _, _, cf1, by decide, mem_c6 45 rfl rfl, rfl, fun _ => rfl⟩
theorem fp_X_274 : FLP "SinkingChoir" 274 0 9 false := ⟨_, _, _, _, cf0, by decide, mem_c2 122 rfl rfl, rfl, fun z => nomatch z⟩
theorem fp_M_202 : FLP "SinkingChoirModel" 202 1 8 false := ⟨_, _, _, _, cf1, by decide, mem_c5 223 rfl rfl, rfl, fun z => nomatch z⟩
theorem fp_M_205 : FLP "SinkingChoirModel" 205 1 9 false := ⟨_, _, _, _, cf1, by decide, mem_c5 224 rfl rfl, rfl, fun z => nomatch z⟩
theorem fp_M_208 : FLP "SinkingChoirModel" 208 1 10 false := ⟨_, _, _, _, cf1, by decide, mem_c5 225 rfl rfl, rfl, fun z => nomatch z⟩
theorem fp_Wa_13 : FLP "SinkingChoir$Ways" 13 11 1 true := ⟨_, _, _, _, cf11, by decide, mem_c3 57 rfl rfl, rfl, fun _ => rfl⟩
theorem fp_Wa_17 : FLP "SinkingChoir$Ways" 17 11 2 true := ⟨_, _, _, _, cf11, by decide, mem_c3 58 rfl rfl, rfl, fun _ => rfl⟩
theorem fp_Wa_20 : FLP "SinkingChoir$Ways" 20 11 3 true := ⟨_, _, _, _, cf11, by decide, mem_c3 59 rfl rfl, rfl, fun _ => rfl⟩
theorem fp_Wa_23 : FLP "SinkingChoir$Ways" 23 11 4 true := ⟨_, _, _, _, cf11, by decide, mem_c3 60 rfl rfl, rfl, fun _ => rfl⟩
theorem fp_Wa_26 : FLP "SinkingChoir$Ways" 26 11 5 true := ⟨_, _, _, _, cf11, by decide, mem_c3 61 rfl rfl, rfl, fun _ => rfl⟩
theorem fp_Wa_29 : FLP "SinkingChoir$Ways" 29 11 6 true := ⟨_, _, _, _, cf11, by decide, mem_c3 62 rfl rfl, rfl, fun _ => rfl⟩
theorem fp_Wa_32 : FLP "SinkingChoir$Ways" 32 11 7 true := ⟨_, _, _, _, cf11, by decide, mem_c3 63 rfl rfl, rfl, fun _ => rfl⟩
theorem fp_Wa_35 : FLP "SinkingChoir$Ways" 35 11 0 true := ⟨_, _, _, _, cf11, by decide, mem_c3 56 rfl rfl, rfl, fun _ => rfl⟩
theorem fp_Wa_45 : FLP "SinkingChoir$Ways" 45 11 9 false := ⟨_, _, _, _, cf11, by decide, mem_c3 65 rfl rfl, rfl, fun z => nomatch z⟩
theorem fp_X_332 : FLP "SinkingChoir" 332 0 8 false := ⟨_, _, _, _, cf0, by decide, mem_c2 121 rfl rfl, rfl, fun z => nomatch z⟩
theorem fp_Wa_101 : FLP "SinkingChoir$Ways" 101 11 8 false := ⟨_, _, _, _, cf11, by decide, mem_c3 64 rfl rfl, rfl, fun z => nomatch z⟩
theorem fp_M_261 : FLP "SinkingChoirModel" 261 1 17 false := ⟨_, _, _, _, cf1, by decide, mem_c5 232 rfl rfl, rfl, fun z => nomatch z⟩
theorem fp_X_163 : FLP "SinkingChoir" 163 2 9 false := ⟨_, _, _, _, cf2, by decide, mem_c1 135 rfl rfl, rfl, fun z => nomatch z⟩
theorem fp_M_275 : FLP "SinkingChoirModel" 275 1 18 false := ⟨_, _, _, _, cf1, by decide, mem_c5 233 rfl rfl, rfl, fun z => nomatch z⟩
theorem fp_X_187 : FLP "SinkingChoir" 187 2 10 false := ⟨_, _, _, _, cf2, by decide, mem_c1 138 rfl rfl, rfl, fun z => nomatch z⟩
theorem fp_X_192 : FLP "SinkingChoir" 192 2 11 false := ⟨_, _, _, _, cf2, by decide, mem_c1 140 rfl rfl, rfl, fun z => nomatch z⟩
theorem fp_M_297 : FLP "SinkingChoirModel" 297 1 20 false := ⟨_, _, _, _, cf1, by decide, mem_c5 235 rfl rfl, rfl, fun z => nomatch z⟩
theorem fp_X_196 : FLP "SinkingChoir" 196 2 12 false := ⟨_, _, _, _, cf2, by decide, mem_c1 143 rfl rfl, rfl, fun z => nomatch z⟩
theorem fp_M_302 : FLP "SinkingChoirModel" 302 1 21 false := ⟨_, _, _, _, cf1, by decide, mem_c5 236 rfl rfl, rfl, fun z => nomatch z⟩
theorem fp_Rl_13 : FLP "SinkingChoir$Reel" 13 7 1 false := ⟨_, _, _, _, cf7, by decide, mem_c2 82 rfl rfl, rfl, fun z => nomatch z⟩
theorem fp_M_305 : FLP "SinkingChoirModel" 305 1 1 false := ⟨_, _, _, _, cf1, by decide, mem_c5 216 rfl rfl, rfl, fun z => nomatch z⟩
theorem fp_Pr_32 : FLP "SinkingChoir$Program" 32 5 6 false := ⟨_, _, _, _, cf5, by decide, mem_c1 90 rfl rfl, rfl, fun z => nomatch z⟩
theorem fp_Pr_36 : FLP "SinkingChoir$Program" 36 5 7 false := ⟨_, _, _, _, cf5, by decide, mem_c1 91 rfl rfl, rfl, fun z => nomatch z⟩
theorem fp_Re_44 : FLP "SinkingChoir$Reader" 44 6 4 false := ⟨_, _, _, _, cf6, by decide, mem_c2 101 rfl rfl, rfl, fun z => nomatch z⟩
theorem fp_Re_41 : FLP "SinkingChoir$Reader" 41 6 3 false := ⟨_, _, _, _, cf6, by decide, mem_c2 100 rfl rfl, rfl, fun z => nomatch z⟩
theorem fp_Re_28 : FLP "SinkingChoir$Reader" 28 6 2 false := ⟨_, _, _, _, cf6, by decide, mem_c2 99 rfl rfl, rfl, fun z => nomatch z⟩
theorem fp_X_206 : FLP "SinkingChoir" 206 7 1 false := ⟨_, _, _, _, cf7, by decide, mem_c2 83 rfl rfl, rfl, fun z => nomatch z⟩
theorem fp_X_216 : FLP "SinkingChoir" 216 2 8 false := ⟨_, _, _, _, cf2, by decide, mem_c1 131 rfl rfl, rfl, fun z => nomatch z⟩
theorem fp_M_317 : FLP "SinkingChoirModel" 317 1 42 false := ⟨_, _, _, _, cf1, by decide, mem_c6 17 rfl rfl, rfl, fun z => nomatch z⟩
theorem fp_M_327 : FLP "SinkingChoirModel" 327 1 46 false := ⟨_, _, _, _, cf1, by decide, mem_c6 21 rfl rfl, rfl, fun z => nomatch z⟩
theorem fp_M_311 : FLP "SinkingChoirModel" 311 1 40 false := ⟨_, _, _, _, cf1, by decide, mem_c6 15 rfl rfl, rfl, fun z => nomatch z⟩
theorem fp_M_330 : FLP "SinkingChoirModel" 330 1 45 false := ⟨_, _, _, _, cf1, by decide, mem_c6 20 rfl rfl, rfl, fun z => nomatch z⟩
theorem fp_M_324 : FLP "SinkingChoirModel" 324 1 44 false := ⟨_, _, _, _, cf1, by decide, mem_c6 19 rfl rfl, rfl, fun z => nomatch z⟩
theorem fp_M_374 : FLP "SinkingChoirModel" 374 1 48 false := ⟨_, _, _, _, cf1, by decide, mem_c6 23 rfl rfl, rfl, fun z => nomatch z⟩
theorem fp_M_396 : FLP "SinkingChoirModel" 396 1 47 false := ⟨_, _, _, _, cf1, by decide, mem_c6 22 rfl rfl, rfl, fun z => nomatch z⟩
theorem fp_M_405 : FLP "SinkingChoirModel" 405 1 43 false := ⟨_, _, _, _, cf1, by decide, mem_c6 18 rfl rfl, rfl, fun z => nomatch z⟩
theorem fp_M_314 : FLP "SinkingChoirModel" 314 1 41 false := ⟨_, _, _, _, cf1, by decide, mem_c6 16 rfl rfl, rfl, fun z => nomatch z⟩
theorem fp_M_416 : FLP "SinkingChoirModel" 416 1 27 false := ⟨_, _, _, _, cf1, by decide, mem_c6 2 rfl rfl, rfl, fun z => nomatch z⟩
theorem fp_Si_75 : FLP "SinkingChoir$Singing" 75 9 13 false := ⟨_, _, _, _, cf9, by decide, mem_c1 201 rfl rfl, rfl, fun z => nomatch z⟩
theorem fp_Si_76 : FLP "SinkingChoir$Singing" 76 9 12 false := ⟨_, _, _, _, cf9, by decide, mem_c1 200 rfl rfl, rfl, fun z => nomatch z⟩
theorem fp_Si_64 : FLP "SinkingChoir$Singing" 64 9 9 false := ⟨_, _, _, _, cf9, by decide, mem_c1 197 rfl rfl, rfl, fun z => nomatch z⟩
theorem fp_Si_65 : FLP "SinkingChoir$Singing" 65 9 10 false := ⟨_, _, _, _, cf9, by decide, mem_c1 198 rfl rfl, rfl, fun z => nomatch z⟩
theorem fp_Si_68 : FLP "SinkingChoir$Singing" 68 9 11 false := ⟨_, _, _, _, cf9, by decide, mem_c1 199 rfl rfl, rfl, fun z => nomatch z⟩
theorem fp_Si_84 : FLP "SinkingChoir$Singing" 84 9 14 false := ⟨_, _, _, _, cf9, by decide, mem_c1 202 rfl rfl, rfl, fun z => nomatch z⟩
theorem fp_M_497 : FLP "SinkingChoirModel" 497 1 52 false := ⟨_, _, _, _, cf1, by decide, mem_c6 27 rfl rfl, rfl, fun z => nomatch z⟩
theorem fp_M_420 : FLP "SinkingChoirModel" 420 1 53 false := ⟨_, _, _, _, cf1, by decide, mem_c6 28 rfl rfl, rfl, fun z => nomatch z⟩
theorem fp_M_471 : FLP "SinkingChoirModel" 471 1 66 false := ⟨_, _, _, _, cf1, by decide, mem_c6 41 rfl rfl, rfl, fun z => nomatch z⟩
theorem fp_M_474 : FLP "SinkingChoirModel" 474 1 64 false := ⟨_, _, _, _, cf1, by decide, mem_c6 39 rfl rfl, rfl, fun z => nomatch z⟩
theorem fp_M_450 : FLP "SinkingChoirModel" 450 1 58 false := ⟨_, _, _, _, cf1, by decide, mem_c6 33 rfl rfl, rfl, fun z => nomatch z⟩
theorem fp_M_426 : FLP "SinkingChoirModel" 426 1 59 false := ⟨_, _, _, _, cf1, by decide, mem_c6 34 rfl rfl, rfl, fun z => nomatch z⟩
theorem fp_M_429 : FLP "SinkingChoirModel" 429 1 60 false := ⟨_, _, _, _, cf1, by decide, mem_c6 35 rfl rfl, rfl, fun z => nomatch z⟩
theorem fp_M_477 : FLP "SinkingChoirModel" 477 1 67 false := ⟨_, _, _, _, cf1, by decide, mem_c6 42 rfl rfl, rfl, fun z => nomatch z⟩
theorem fp_M_480 : FLP "SinkingChoirModel" 480 1 65 false := ⟨_, _, _, _, cf1, by decide, mem_c6 40 rfl rfl, rfl, fun z => nomatch z⟩
theorem fp_M_490 : FLP "SinkingChoirModel" 490 1 61 false := ⟨_, _, _, _, cf1, by decide, mem_c6 36 rfl rfl, rfl, fun z => nomatch z⟩
theorem fp_St_62 : FLP "SinkingChoir$Standing" 62 10 4 false := ⟨_, _, _, _, cf10, by decide, mem_c2 8 rfl rfl, rfl, fun z => nomatch z⟩
theorem fp_St_68 : FLP "SinkingChoir$Standing" 68 10 5 false := ⟨_, _, _, _, cf10, by decide, mem_c2 10 rfl rfl, rfl, fun z => nomatch z⟩
theorem fp_Le_46 : FLP "SinkingChoir$Leading" 46 4 3 false := ⟨_, _, _, _, cf4, by decide, mem_c2 37 rfl rfl, rfl, fun z => nomatch z⟩
theorem fp_Le_54 : FLP "SinkingChoir$Leading" 54 4 4 false := ⟨_, _, _, _, cf4, by decide, mem_c2 39 rfl rfl, rfl, fun z => nomatch z⟩
theorem fp_Fi_43 : FLP "SinkingChoir$Fitting" 43 3 4 false := ⟨_, _, _, _, cf3, by decide, mem_c2 62 rfl rfl, rfl, fun z => nomatch z⟩
theorem fs_Str_38 : Cond.fieldLink "java/lang/String" 38 "java/lang/String" "COMPACT_STRINGS" "Z" ∈ tb := mem_c1 186 rfl rfl
theorem fs_Str_15 : Cond.fieldLink "java/lang/String" 15 "java/lang/String" "coder" "B" ∈ tb := mem_c8 210 rfl rfl
theorem fs_Str_9 : Cond.fieldLink "java/lang/String" 9 "java/lang/String" "value" "[B" ∈ tb := mem_c8 209 rfl rfl
theorem c_Fr_15 : Jvm.Cond.constant "SinkingChoir$Fraction" 15 (-2147483648 : Int32) ∈ tb := mem_c2 154 rfl rfl
theorem c_Fr_29 : Jvm.Cond.constant "SinkingChoir$Fraction" 29 (1048576 : Int32) ∈ tb := mem_c2 155 rfl rfl
theorem c_Fr_21 : Jvm.Cond.constant "SinkingChoir$Fraction" 21 (537395712 : Int32) ∈ tb := mem_c2 163 rfl rfl
theorem c_Fr_22 : Jvm.Cond.constant "SinkingChoir$Fraction" 22 (1200000 : Int32) ∈ tb := mem_c2 159 rfl rfl
theorem c_Fr_27 : Jvm.Cond.constant "SinkingChoir$Fraction" 27 (1901955 : Int32) ∈ tb := mem_c2 164 rfl rfl
theorem c_Fr_28 : Jvm.Cond.constant "SinkingChoir$Fraction" 28 (2786314 : Int32) ∈ tb := mem_c2 165 rfl rfl
theorem c_Fr_19 : Jvm.Cond.constant "SinkingChoir$Fraction" 19 (-3000000 : Int32) ∈ tb := mem_c2 166 rfl rfl
theorem c_Fr_20 : Jvm.Cond.constant "SinkingChoir$Fraction" 20 (3000000 : Int32) ∈ tb := mem_c2 167 rfl rfl
theorem c_X_83 : Jvm.Cond.constant "SinkingChoir" 83 (-2147483648 : Int32) ∈ tb := mem_c2 171 rfl rfl
theorem c_M_166 : Jvm.Cond.constant "SinkingChoirModel" 166 (1200000 : Int32) ∈ tb := mem_c6 212 rfl rfl
theorem c_M_167 : Jvm.Cond.constant "SinkingChoirModel" 167 (1901955 : Int32) ∈ tb := mem_c6 213 rfl rfl
theorem c_M_168 : Jvm.Cond.constant "SinkingChoirModel" 168 (2786314 : Int32) ∈ tb := mem_c6 214 rfl rfl
theorem c_X_102 : Jvm.Cond.constant "SinkingChoir" 102 (-1000000000 : Int32) ∈ tb := mem_c2 218 rfl rfl
theorem c_M_192 : Jvm.Cond.constant "SinkingChoirModel" 192 (-1000000000 : Int32) ∈ tb := mem_c6 217 rfl rfl
theorem c_Wa_66 : Jvm.Cond.constant "SinkingChoir$Ways" 66 (2147483647 : Int32) ∈ tb := mem_c3 101 rfl rfl
theorem c_Wa_108 : Jvm.Cond.constant "SinkingChoir$Ways" 108 (-1000000000 : Int32) ∈ tb := mem_c3 145 rfl rfl
theorem c_X_159 : Jvm.Cond.constant "SinkingChoir" 159 (100000000 : Int32) ∈ tb := mem_c3 140 rfl rfl
theorem c_X_181 : Jvm.Cond.constant "SinkingChoir" 181 (-60000 : Int32) ∈ tb := mem_c3 166 rfl rfl
theorem c_X_182 : Jvm.Cond.constant "SinkingChoir" 182 (60000 : Int32) ∈ tb := mem_c3 167 rfl rfl
theorem c_X_186 : Jvm.Cond.constant "SinkingChoir" 186 (65535 : Int32) ∈ tb := mem_c3 172 rfl rfl
theorem c_X_190 : Jvm.Cond.constant "SinkingChoir" 190 (-200000 : Int32) ∈ tb := mem_c3 177 rfl rfl
theorem c_X_191 : Jvm.Cond.constant "SinkingChoir" 191 (200000 : Int32) ∈ tb := mem_c3 178 rfl rfl
theorem c_X_195 : Jvm.Cond.constant "SinkingChoir" 195 (16777216 : Int32) ∈ tb := mem_c3 183 rfl rfl
theorem c_Ch_77 : Jvm.Cond.constant "SinkingChoir$Choir" 77 (100000 : Int32) ∈ tb := mem_c4 165 rfl rfl
theorem c_Si_110 : Jvm.Cond.constant "SinkingChoir$Singing" 110 (65535 : Int32) ∈ tb := mem_c4 174 rfl rfl
theorem c_M_419 : Jvm.Cond.constant "SinkingChoirModel" 419 (100000 : Int32) ∈ tb := mem_c8 35 rfl rfl
theorem c_M_483 : Jvm.Cond.constant "SinkingChoirModel" 483 (65536 : Int32) ∈ tb := mem_c8 40 rfl rfl
theorem c_X_304 : Jvm.Cond.constant "SinkingChoir" 304 (-10000000 : Int32) ∈ tb := mem_c5 128 rfl rfl
theorem c_X_305 : Jvm.Cond.constant "SinkingChoir" 305 (10000000 : Int32) ∈ tb := mem_c5 129 rfl rfl
theorem c_In_265 : Jvm.Cond.constant "java/lang/Integer" 265 (1431655765 : Int32) ∈ tb := mem_c5 206 rfl rfl
theorem c_In_266 : Jvm.Cond.constant "java/lang/Integer" 266 (858993459 : Int32) ∈ tb := mem_c5 207 rfl rfl
theorem c_In_267 : Jvm.Cond.constant "java/lang/Integer" 267 (252645135 : Int32) ∈ tb := mem_c5 208 rfl rfl
theorem c_M_143 : Jvm.Cond.constantLong "SinkingChoirModel" 143 (5 : Int64) ∈ tb := mem_c6 225 rfl rfl
theorem c_M_149 : Jvm.Cond.constantLong "SinkingChoirModel" 149 (23 : Int64) ∈ tb := mem_c6 229 rfl rfl
theorem c_M_176 : Jvm.Cond.constantLong "SinkingChoirModel" 176 (2000 : Int64) ∈ tb := mem_c6 196 rfl rfl
theorem c_M_185 : Jvm.Cond.constantLong "SinkingChoirModel" 185 (-3000000 : Int64) ∈ tb := mem_c6 215 rfl rfl
theorem c_M_187 : Jvm.Cond.constantLong "SinkingChoirModel" 187 (3000000 : Int64) ∈ tb := mem_c6 216 rfl rfl
theorem c_M_196 : Jvm.Cond.constantLong "SinkingChoirModel" 196 (60 : Int64) ∈ tb := mem_c6 230 rfl rfl
theorem c_M_229 : Jvm.Cond.constantLong "SinkingChoirModel" 229 (6 : Int64) ∈ tb := mem_c7 22 rfl rfl
theorem c_M_255 : Jvm.Cond.constantLong "SinkingChoirModel" 255 (1000000000000000 : Int64) ∈ tb := mem_c7 90 rfl rfl
theorem c_M_273 : Jvm.Cond.constantLong "SinkingChoirModel" 273 (100000000 : Int64) ∈ tb := mem_c7 103 rfl rfl
theorem c_M_278 : Jvm.Cond.constantLong "SinkingChoirModel" 278 (15 : Int64) ∈ tb := mem_c7 108 rfl rfl
theorem c_M_280 : Jvm.Cond.constantLong "SinkingChoirModel" 280 (9 : Int64) ∈ tb := mem_c7 109 rfl rfl
theorem c_M_285 : Jvm.Cond.constantLong "SinkingChoirModel" 285 (11 : Int64) ∈ tb := mem_c7 122 rfl rfl
theorem c_M_287 : Jvm.Cond.constantLong "SinkingChoirModel" 287 (-60000 : Int64) ∈ tb := mem_c7 123 rfl rfl
theorem c_M_289 : Jvm.Cond.constantLong "SinkingChoirModel" 289 (60000 : Int64) ∈ tb := mem_c7 124 rfl rfl
theorem c_M_291 : Jvm.Cond.constantLong "SinkingChoirModel" 291 (65535 : Int64) ∈ tb := mem_c7 129 rfl rfl
theorem c_M_293 : Jvm.Cond.constantLong "SinkingChoirModel" 293 (-200000 : Int64) ∈ tb := mem_c7 134 rfl rfl
theorem c_M_295 : Jvm.Cond.constantLong "SinkingChoirModel" 295 (200000 : Int64) ∈ tb := mem_c7 135 rfl rfl
theorem c_M_300 : Jvm.Cond.constantLong "SinkingChoirModel" 300 (16777215 : Int64) ∈ tb := mem_c7 140 rfl rfl
theorem c_M_342 : Jvm.Cond.constantLong "SinkingChoirModel" 342 (48 : Int64) ∈ tb := mem_c7 190 rfl rfl
theorem c_M_344 : Jvm.Cond.constantLong "SinkingChoirModel" 344 (57 : Int64) ∈ tb := mem_c7 191 rfl rfl
theorem c_M_411 : Jvm.Cond.constantLong "SinkingChoirModel" 411 (200 : Int64) ∈ tb := mem_c7 153 rfl rfl
theorem c_Si_162 : Jvm.Cond.constantLong "SinkingChoir$Singing" 162 (1000 : Int64) ∈ tb := mem_c4 186 rfl rfl
theorem c_M_444 : Jvm.Cond.constantLong "SinkingChoirModel" 444 (1000 : Int64) ∈ tb := mem_c8 83 rfl rfl
theorem c_X_239 : Jvm.Cond.constantLong "SinkingChoir" 239 (-1000000000 : Int64) ∈ tb := mem_c4 234 rfl rfl
theorem c_M_530 : Jvm.Cond.constantLong "SinkingChoirModel" 530 (-1000000000 : Int64) ∈ tb := mem_c8 93 rfl rfl
theorem c_M_528 : Jvm.Cond.constantLong "SinkingChoirModel" 528 (3 : Int64) ∈ tb := mem_c8 92 rfl rfl
theorem c_M_535 : Jvm.Cond.constantLong "SinkingChoirModel" 535 (4 : Int64) ∈ tb := mem_c8 114 rfl rfl
theorem c_X_272 : Jvm.Cond.constantLong "SinkingChoir" 272 (-2000000000 : Int64) ∈ tb := mem_c5 61 rfl rfl
theorem c_M_550 : Jvm.Cond.constantLong "SinkingChoirModel" 550 (-2000000000 : Int64) ∈ tb := mem_c8 139 rfl rfl
theorem c_Le_52 : Jvm.Cond.constantLong "SinkingChoir$Leading" 52 (9223372036854775807 : Int64) ∈ tb := mem_c5 105 rfl rfl
theorem c_X_286 : Jvm.Cond.constantLong "SinkingChoir" 286 (-1 : Int64) ∈ tb := mem_c5 87 rfl rfl
theorem c_X_288 : Jvm.Cond.constantLong "SinkingChoir" 288 (-2 : Int64) ∈ tb := mem_c5 88 rfl rfl
theorem c_M_555 : Jvm.Cond.constantLong "SinkingChoirModel" 555 (-1 : Int64) ∈ tb := mem_c8 152 rfl rfl
theorem c_M_557 : Jvm.Cond.constantLong "SinkingChoirModel" 557 (-2 : Int64) ∈ tb := mem_c8 153 rfl rfl
theorem c_M_562 : Jvm.Cond.constantLong "SinkingChoirModel" 562 (-10000000 : Int64) ∈ tb := mem_c8 170 rfl rfl
theorem c_M_564 : Jvm.Cond.constantLong "SinkingChoirModel" 564 (10000000 : Int64) ∈ tb := mem_c8 171 rfl rfl
theorem c_X_346 : Jvm.Cond.constantLong "SinkingChoir" 346 (1000 : Int64) ∈ tb := mem_c5 178 rfl rfl
theorem c_M_573 : Jvm.Cond.constantLong "SinkingChoirModel" 573 (100 : Int64) ∈ tb := mem_c8 188 rfl rfl
theorem c_M_575 : Jvm.Cond.constantLong "SinkingChoirModel" 575 (2 : Int64) ∈ tb := mem_c8 189 rfl rfl
theorem cl_Ch_37 : Cond.classLink "SinkingChoir$Choir" 37 R5 ∈ tb := mem_c1 78 rfl rfl
theorem cl_Re_15 : Cond.classLink "SinkingChoir$Reader" 15 R5 ∈ tb := mem_c2 95 rfl rfl
theorem cl_X_7 : Cond.classLink "SinkingChoir" 7 R8 ∈ tb := mem_c1 31 rfl rfl
theorem cl_X_16 : Cond.classLink "SinkingChoir" 16 R2 ∈ tb := mem_c1 72 rfl rfl
theorem cl_X_25 : Cond.classLink "SinkingChoir" 25 R9 ∈ tb := mem_c1 171 rfl rfl
theorem cl_X_34 : Cond.classLink "SinkingChoir" 34 R10 ∈ tb := mem_c1 237 rfl rfl
theorem cl_X_43 : Cond.classLink "SinkingChoir" 43 R4 ∈ tb := mem_c2 28 rfl rfl
theorem cl_X_50 : Cond.classLink "SinkingChoir" 50 R3 ∈ tb := mem_c2 52 rfl rfl
theorem cl_X_59 : Cond.classLink "SinkingChoir" 59 R7 ∈ tb := mem_c2 74 rfl rfl
theorem cl_X_66 : Cond.classLink "SinkingChoir" 66 R6 ∈ tb := mem_c2 89 rfl rfl
theorem cl_X_151 : Cond.classLink "SinkingChoir" 151 R11 ∈ tb := mem_c3 50 rfl rfl
theorem oi_Sc_3 : Cond.methodLink "SinkingChoir$Score" 3 Lib.objectInit ∈ tb ∧ Cond.instanceMethod Lib.objectInit ∈ tb ∧ Cond.code Lib.objectInit ⟨#[0xb1]⟩ 1 none ∈ tb := ⟨mem_c1 36 rfl rfl, mem_c1 29 rfl rfl, mem_c1 30 rfl rfl⟩
theorem oi_Pr_3 : Cond.methodLink "SinkingChoir$Program" 3 Lib.objectInit ∈ tb ∧ Cond.instanceMethod Lib.objectInit ∈ tb ∧ Cond.code Lib.objectInit ⟨#[0xb1]⟩ 1 none ∈ tb := ⟨mem_c1 83 rfl rfl, mem_c1 29 rfl rfl, mem_c1 30 rfl rfl⟩
theorem oi_Ch_3 : Cond.methodLink "SinkingChoir$Choir" 3 Lib.objectInit ∈ tb ∧ Cond.instanceMethod Lib.objectInit ∈ tb ∧ Cond.code Lib.objectInit ⟨#[0xb1]⟩ 1 none ∈ tb := ⟨mem_c1 77 rfl rfl, mem_c1 29 rfl rfl, mem_c1 30 rfl rfl⟩
theorem oi_Si_3 : Cond.methodLink "SinkingChoir$Singing" 3 Lib.objectInit ∈ tb ∧ Cond.instanceMethod Lib.objectInit ∈ tb ∧ Cond.code Lib.objectInit ⟨#[0xb1]⟩ 1 none ∈ tb := ⟨mem_c1 176 rfl rfl, mem_c1 29 rfl rfl, mem_c1 30 rfl rfl⟩
theorem oi_St_3 : Cond.methodLink "SinkingChoir$Standing" 3 Lib.objectInit ∈ tb ∧ Cond.instanceMethod Lib.objectInit ∈ tb ∧ Cond.code Lib.objectInit ⟨#[0xb1]⟩ 1 none ∈ tb := ⟨mem_c2 2 rfl rfl, mem_c1 29 rfl rfl, mem_c1 30 rfl rfl⟩
theorem oi_Le_3 : Cond.methodLink "SinkingChoir$Leading" 3 Lib.objectInit ∈ tb ∧ Cond.instanceMethod Lib.objectInit ∈ tb ∧ Cond.code Lib.objectInit ⟨#[0xb1]⟩ 1 none ∈ tb := ⟨mem_c2 33 rfl rfl, mem_c1 29 rfl rfl, mem_c1 30 rfl rfl⟩
theorem oi_Fi_3 : Cond.methodLink "SinkingChoir$Fitting" 3 Lib.objectInit ∈ tb ∧ Cond.instanceMethod Lib.objectInit ∈ tb ∧ Cond.code Lib.objectInit ⟨#[0xb1]⟩ 1 none ∈ tb := ⟨mem_c2 57 rfl rfl, mem_c1 29 rfl rfl, mem_c1 30 rfl rfl⟩
theorem oi_Rl_1 : Cond.methodLink "SinkingChoir$Reel" 1 Lib.objectInit ∈ tb ∧ Cond.instanceMethod Lib.objectInit ∈ tb ∧ Cond.code Lib.objectInit ⟨#[0xb1]⟩ 1 none ∈ tb := ⟨mem_c2 79 rfl rfl, mem_c1 29 rfl rfl, mem_c1 30 rfl rfl⟩
theorem oi_Re_3 : Cond.methodLink "SinkingChoir$Reader" 3 Lib.objectInit ∈ tb ∧ Cond.instanceMethod Lib.objectInit ∈ tb ∧ Cond.code Lib.objectInit ⟨#[0xb1]⟩ 1 none ∈ tb := ⟨mem_c2 94 rfl rfl, mem_c1 29 rfl rfl, mem_c1 30 rfl rfl⟩
theorem oi_X_1 : Cond.methodLink "SinkingChoir" 1 Lib.objectInit ∈ tb ∧ Cond.instanceMethod Lib.objectInit ∈ tb ∧ Cond.code Lib.objectInit ⟨#[0xb1]⟩ 1 none ∈ tb := ⟨mem_c1 28 rfl rfl, mem_c1 29 rfl rfl, mem_c1 30 rfl rfl⟩
theorem oi_M_1 : Cond.methodLink "SinkingChoirModel" 1 Lib.objectInit ∈ tb ∧ Cond.instanceMethod Lib.objectInit ∈ tb ∧ Cond.code Lib.objectInit ⟨#[0xb1]⟩ 1 none ∈ tb := ⟨mem_c5 214 rfl rfl, mem_c1 29 rfl rfl, mem_c1 30 rfl rfl⟩
theorem oi_Wa_5 : Cond.methodLink "SinkingChoir$Ways" 5 Lib.objectInit ∈ tb ∧ Cond.instanceMethod Lib.objectInit ∈ tb ∧ Cond.code Lib.objectInit ⟨#[0xb1]⟩ 1 none ∈ tb := ⟨mem_c3 55 rfl rfl, mem_c1 29 rfl rfl, mem_c1 30 rfl rfl⟩
theorem cp_Wa_49 : Cond.methodLink "SinkingChoir$Ways" 49 arraycopyName ∈ tb ∧ Cond.native arraycopyName ∈ tb ∧ Cond.static arraycopyName ∈ tb ∧ Cond.initialized "java/lang/System" ∈ tb := ⟨mem_c3 92 rfl rfl, mem_c3 94 rfl rfl, mem_c3 93 rfl rfl, mem_c1 17 rfl rfl⟩
theorem cp_Re_32 : Cond.methodLink "SinkingChoir$Reader" 32 arraycopyName ∈ tb ∧ Cond.native arraycopyName ∈ tb ∧ Cond.static arraycopyName ∈ tb ∧ Cond.initialized "java/lang/System" ∈ tb := ⟨mem_c3 205 rfl rfl, mem_c3 94 rfl rfl, mem_c3 93 rfl rfl, mem_c1 17 rfl rfl⟩
theorem cp_St_33 : Cond.methodLink "SinkingChoir$Standing" 33 arraycopyName ∈ tb ∧ Cond.native arraycopyName ∈ tb ∧ Cond.static arraycopyName ∈ tb ∧ Cond.initialized "java/lang/System" ∈ tb := ⟨mem_c5 66 rfl rfl, mem_c3 94 rfl rfl, mem_c3 93 rfl rfl, mem_c1 17 rfl rfl⟩
theorem sr_Si_20 : ∀ B sa U, STR B sa U → vk_R "SinkingChoir$Singing" 20 "bvikfhjurnox" (sa 0) U := fun _ _ _ h => h.1
theorem sr_Re_109 : ∀ B sa U, STR B sa U → vk_R "SinkingChoir$Reader" 109 "bvikfhjurnox" (sa 0) U := fun _ _ _ h => h.2.1
theorem sr_Re_67 : ∀ B sa U, STR B sa U → vk_R "SinkingChoir$Reader" 67 "pstkd" (sa 1) U := fun _ _ _ h => h.2.2.1
theorem lv_Str_335 : LKV "java/lang/String" 335 Y_Str_coder 0 := ⟨mem_c1 182 rfl rfl, mem_c1 183 rfl rfl, mem_c1 184 rfl rfl, mem_c1 7 rfl rfl, cw_Str_coder, ⟨by decide +kernel, by decide +kernel, by decide +kernel⟩, by decide⟩
theorem lv_Si_22 : LKV "SinkingChoir$Singing" 22 Y_Str_length 0 := ⟨mem_c1 178 rfl rfl, mem_c1 179 rfl rfl, mem_c1 180 rfl rfl, mem_c1 7 rfl rfl, cw_Str_length, ⟨by decide +kernel, by decide +kernel, by decide +kernel⟩, by decide⟩
theorem lv_Sc_39 : LKV "SinkingChoir$Score" 39 Y_Sc_sounds 2 := ⟨mem_c2 185 rfl rfl, mem_c2 186 rfl rfl, mem_c2 187 rfl rfl, mem_c1 2 rfl rfl, cw_Sc_sounds, ⟨by decide +kernel, by decide +kernel, by decide +kernel⟩, by decide⟩
theorem lv_Sc_55 : LKV "SinkingChoir$Score" 55 Y_Sc_holds 2 := ⟨mem_c2 181 rfl rfl, mem_c2 182 rfl rfl, mem_c2 183 rfl rfl, mem_c1 2 rfl rfl, cw_Sc_holds, ⟨by decide +kernel, by decide +kernel, by decide +kernel⟩, by decide⟩
theorem lv_Sc_61 : LKV "SinkingChoir$Score" 61 Y_Sc_shift 2 := ⟨mem_c2 193 rfl rfl, mem_c2 194 rfl rfl, mem_c2 195 rfl rfl, mem_c1 2 rfl rfl, cw_Sc_shift, ⟨by decide +kernel, by decide +kernel, by decide +kernel⟩, by decide⟩
theorem lv_Sc_58 : LKV "SinkingChoir$Score" 58 Y_Sc_tune 0 := ⟨mem_c2 189 rfl rfl, mem_c2 191 rfl rfl, mem_p1 0 rfl, mem_c1 2 rfl rfl, cw_Sc_tune, ⟨by decide +kernel, by decide +kernel, by decide +kernel⟩, by decide⟩
theorem lv_X_84 : LKV "SinkingChoir" 84 Y_Sc_put 4 := ⟨mem_c2 172 rfl rfl, mem_c2 173 rfl rfl, mem_c2 174 rfl rfl, mem_c1 2 rfl rfl, cw_Sc_put, ⟨by decide +kernel, by decide +kernel, by decide +kernel⟩, by decide⟩
theorem lv_X_88 : LKV "SinkingChoir" 88 Y_X_changed 0 := ⟨mem_c2 197 rfl rfl, mem_c2 199 rfl rfl, mem_p1 1 rfl, mem_c1 1 rfl rfl, cw_X_changed, ⟨by decide +kernel, by decide +kernel, by decide +kernel⟩, by decide⟩
theorem lv_M_162 : LKV "SinkingChoirModel" 162 Y_M_isNote 2 := ⟨mem_c7 2 rfl rfl, mem_c7 4 rfl rfl, mem_p3 9 rfl, mem_c1 13 rfl rfl, cw_M_isNote, ⟨by decide +kernel, by decide +kernel, by decide +kernel⟩, by decide⟩
theorem lv_M_193 : LKV "SinkingChoirModel" 193 Y_M_isHeld 2 := ⟨mem_c6 238 rfl rfl, mem_c7 0 rfl rfl, mem_p3 8 rfl, mem_c1 13 rfl rfl, cw_M_isHeld, ⟨by decide +kernel, by decide +kernel, by decide +kernel⟩, by decide⟩
theorem lv_M_198 : LKV "SinkingChoirModel" 198 Y_M_falls 2 := ⟨mem_c6 234 rfl rfl, mem_c6 236 rfl rfl, mem_p3 7 rfl, mem_c1 13 rfl rfl, cw_M_falls, ⟨by decide +kernel, by decide +kernel, by decide +kernel⟩, by decide⟩
theorem lv_X_92 : LKV "SinkingChoir" 92 Y_Sc_sounds 2 := ⟨mem_c2 205 rfl rfl, mem_c2 186 rfl rfl, mem_c2 187 rfl rfl, mem_c1 2 rfl rfl, cw_Sc_sounds, ⟨by decide +kernel, by decide +kernel, by decide +kernel⟩, by decide⟩
theorem lv_X_95 : LKV "SinkingChoir" 95 Y_Sc_breathes 2 := ⟨mem_c2 210 rfl rfl, mem_c2 211 rfl rfl, mem_c2 212 rfl rfl, mem_c1 2 rfl rfl, cw_Sc_breathes, ⟨by decide +kernel, by decide +kernel, by decide +kernel⟩, by decide⟩
theorem lv_X_110 : LKV "SinkingChoir" 110 Y_Sc_bind 2 := ⟨mem_c2 225 rfl rfl, mem_c2 226 rfl rfl, mem_c2 227 rfl rfl, mem_c1 2 rfl rfl, cw_Sc_bind, ⟨by decide +kernel, by decide +kernel, by decide +kernel⟩, by decide⟩
theorem lv_X_107 : LKV "SinkingChoir" 107 Y_Sc_holds 2 := ⟨mem_c2 224 rfl rfl, mem_c2 182 rfl rfl, mem_c2 183 rfl rfl, mem_c1 2 rfl rfl, cw_Sc_holds, ⟨by decide +kernel, by decide +kernel, by decide +kernel⟩, by decide⟩
theorem lv_Sc_64 : LKV "SinkingChoir$Score" 64 Y_Sc_tearBy 3 := ⟨mem_c3 6 rfl rfl, mem_c3 7 rfl rfl, mem_c3 8 rfl rfl, mem_c1 2 rfl rfl, cw_Sc_tearBy, ⟨by decide +kernel, by decide +kernel, by decide +kernel⟩, by decide⟩
theorem lv_Sc_76 : LKV "SinkingChoir$Score" 76 Y_Sc_tear 2 := ⟨mem_c3 2 rfl rfl, mem_c3 3 rfl rfl, mem_c3 4 rfl rfl, mem_c1 2 rfl rfl, cw_Sc_tear, ⟨by decide +kernel, by decide +kernel, by decide +kernel⟩, by decide⟩
theorem lv_X_126 : LKV "SinkingChoir" 126 Y_Sc_heldIn 1 := ⟨mem_c2 234 rfl rfl, mem_c2 235 rfl rfl, mem_c2 236 rfl rfl, mem_c1 2 rfl rfl, cw_Sc_heldIn, ⟨by decide +kernel, by decide +kernel, by decide +kernel⟩, by decide⟩
theorem lv_X_129 : LKV "SinkingChoir" 129 Y_Sc_tornIn 1 := ⟨mem_c2 238 rfl rfl, mem_c2 239 rfl rfl, mem_c3 0 rfl rfl, mem_c1 2 rfl rfl, cw_Sc_tornIn, ⟨by decide +kernel, by decide +kernel, by decide +kernel⟩, by decide⟩
theorem lv_M_211 : LKV "SinkingChoirModel" 211 Y_M_leap 3 := ⟨mem_c7 31 rfl rfl, mem_c7 33 rfl rfl, mem_p3 12 rfl, mem_c1 13 rfl rfl, cw_M_leap, ⟨by decide +kernel, by decide +kernel, by decide +kernel⟩, by decide⟩
theorem lv_M_215 : LKV "SinkingChoirModel" 215 Y_M_goesTo 1 := ⟨mem_c7 27 rfl rfl, mem_c7 29 rfl rfl, mem_p3 11 rfl, mem_c1 13 rfl rfl, cw_M_goesTo, ⟨by decide +kernel, by decide +kernel, by decide +kernel⟩, by decide⟩
theorem lv_M_219 : LKV "SinkingChoirModel" 219 Y_M_sizeAt 2 := ⟨mem_c7 39 rfl rfl, mem_c7 41 rfl rfl, mem_p3 14 rfl, mem_c1 13 rfl rfl, cw_M_sizeAt, ⟨by decide +kernel, by decide +kernel, by decide +kernel⟩, by decide⟩
theorem lv_M_231 : LKV "SinkingChoirModel" 231 Y_M_keynoteOf 1 := ⟨mem_c7 23 rfl rfl, mem_c7 25 rfl rfl, mem_p3 10 rfl, mem_c1 13 rfl rfl, cw_M_keynoteOf, ⟨by decide +kernel, by decide +kernel, by decide +kernel⟩, by decide⟩
theorem lv_M_222 : LKV "SinkingChoirModel" 222 Y_M_tornBy 3 := ⟨mem_c7 35 rfl rfl, mem_c7 37 rfl rfl, mem_p3 13 rfl, mem_c1 13 rfl rfl, cw_M_tornBy, ⟨by decide +kernel, by decide +kernel, by decide +kernel⟩, by decide⟩
theorem lv_X_132 : LKV "SinkingChoir" 132 Y_Sc_tear 2 := ⟨mem_c3 14 rfl rfl, mem_c3 3 rfl rfl, mem_c3 4 rfl rfl, mem_c1 2 rfl rfl, cw_Sc_tear, ⟨by decide +kernel, by decide +kernel, by decide +kernel⟩, by decide⟩
theorem lv_Sc_79 : LKV "SinkingChoir$Score" 79 Y_Sc_soundsIn 1 := ⟨mem_c3 23 rfl rfl, mem_c3 24 rfl rfl, mem_c3 25 rfl rfl, mem_c1 2 rfl rfl, cw_Sc_soundsIn, ⟨by decide +kernel, by decide +kernel, by decide +kernel⟩, by decide⟩
theorem lv_Sc_73 : LKV "SinkingChoir$Score" 73 Y_Sc_foulnessBy 2 := ⟨mem_c3 31 rfl rfl, mem_c3 32 rfl rfl, mem_c3 33 rfl rfl, mem_c1 2 rfl rfl, cw_Sc_foulnessBy, ⟨by decide +kernel, by decide +kernel, by decide +kernel⟩, by decide⟩
theorem lv_X_135 : LKV "SinkingChoir" 135 Y_Sc_lastBeat 0 := ⟨mem_c3 19 rfl rfl, mem_c3 20 rfl rfl, mem_c3 21 rfl rfl, mem_c1 2 rfl rfl, cw_Sc_lastBeat, ⟨by decide +kernel, by decide +kernel, by decide +kernel⟩, by decide⟩
theorem lv_X_139 : LKV "SinkingChoir" 139 Y_Sc_foulness 0 := ⟨mem_c3 27 rfl rfl, mem_c3 28 rfl rfl, mem_c3 29 rfl rfl, mem_c1 2 rfl rfl, cw_Sc_foulness, ⟨by decide +kernel, by decide +kernel, by decide +kernel⟩, by decide⟩
theorem lv_M_234 : LKV "SinkingChoirModel" 234 Y_M_lastBeat 0 := ⟨mem_c7 51 rfl rfl, mem_c7 53 rfl rfl, mem_p3 15 rfl, mem_c1 13 rfl rfl, cw_M_lastBeat, ⟨by decide +kernel, by decide +kernel, by decide +kernel⟩, by decide⟩
theorem lv_M_238 : LKV "SinkingChoirModel" 238 Y_M_foulBy 2 := ⟨mem_c7 55 rfl rfl, mem_c7 57 rfl rfl, mem_p4 0 rfl, mem_c1 13 rfl rfl, cw_M_foulBy, ⟨by decide +kernel, by decide +kernel, by decide +kernel⟩, by decide⟩
theorem lv_Wa_39 : LKV "SinkingChoir$Ways" 39 Y_Sc_lastBeat 0 := ⟨mem_c3 91 rfl rfl, mem_c3 20 rfl rfl, mem_c3 21 rfl rfl, mem_c1 2 rfl rfl, cw_Sc_lastBeat, ⟨by decide +kernel, by decide +kernel, by decide +kernel⟩, by decide⟩
theorem lv_Wa_55 : LKV "SinkingChoir$Ways" 55 Y_Sc_shift 2 := ⟨mem_c3 95 rfl rfl, mem_c2 194 rfl rfl, mem_c2 195 rfl rfl, mem_c1 2 rfl rfl, cw_Sc_shift, ⟨by decide +kernel, by decide +kernel, by decide +kernel⟩, by decide⟩
theorem lv_Wa_59 : LKV "SinkingChoir$Ways" 59 Y_Sc_holds 2 := ⟨mem_c3 96 rfl rfl, mem_c2 182 rfl rfl, mem_c2 183 rfl rfl, mem_c1 2 rfl rfl, cw_Sc_holds, ⟨by decide +kernel, by decide +kernel, by decide +kernel⟩, by decide⟩
theorem lv_Wa_63 : LKV "SinkingChoir$Ways" 63 Y_Wa_spread 2 := ⟨mem_c3 97 rfl rfl, mem_c3 99 rfl rfl, mem_p1 4 rfl, mem_c1 16 rfl rfl, cw_Wa_spread, ⟨by decide +kernel, by decide +kernel, by decide +kernel⟩, by decide⟩
theorem lv_X_337 : LKV "SinkingChoir" 337 Y_Wa_explore 0 := ⟨mem_c3 87 rfl rfl, mem_c3 88 rfl rfl, mem_c3 89 rfl rfl, mem_c1 16 rfl rfl, cw_Wa_explore, ⟨by decide +kernel, by decide +kernel, by decide +kernel⟩, by decide⟩
theorem lv_Wa_81 : LKV "SinkingChoir$Ways" 81 Y_Sc_foulnessBy 2 := ⟨mem_c3 118 rfl rfl, mem_c3 32 rfl rfl, mem_c3 33 rfl rfl, mem_c1 2 rfl rfl, cw_Sc_foulnessBy, ⟨by decide +kernel, by decide +kernel, by decide +kernel⟩, by decide⟩
theorem lv_Wa_84 : LKV "SinkingChoir$Ways" 84 Y_Wa_find 2 := ⟨mem_c3 109 rfl rfl, mem_c3 111 rfl rfl, mem_p1 5 rfl, mem_c1 16 rfl rfl, cw_Wa_find, ⟨by decide +kernel, by decide +kernel, by decide +kernel⟩, by decide⟩
theorem lv_Wa_87 : LKV "SinkingChoir$Ways" 87 Y_Wa_price 1 := ⟨mem_c3 113 rfl rfl, mem_c3 115 rfl rfl, mem_p1 6 rfl, mem_c1 16 rfl rfl, cw_Wa_price, ⟨by decide +kernel, by decide +kernel, by decide +kernel⟩, by decide⟩
theorem lv_Wa_104 : LKV "SinkingChoir$Ways" 104 Y_Wa_follow 0 := ⟨mem_c3 124 rfl rfl, mem_c3 126 rfl rfl, mem_p1 8 rfl, mem_c1 16 rfl rfl, cw_Wa_follow, ⟨by decide +kernel, by decide +kernel, by decide +kernel⟩, by decide⟩
theorem lv_Wa_97 : LKV "SinkingChoir$Ways" 97 Y_Wa_relax 3 := ⟨mem_c3 120 rfl rfl, mem_c3 122 rfl rfl, mem_p1 7 rfl, mem_c1 16 rfl rfl, cw_Wa_relax, ⟨by decide +kernel, by decide +kernel, by decide +kernel⟩, by decide⟩
theorem lv_X_142 : LKV "SinkingChoir" 142 Y_X_asksRow 1 := ⟨mem_c3 42 rfl rfl, mem_c3 44 rfl rfl, mem_p1 2 rfl, mem_c1 1 rfl rfl, cw_X_asksRow, ⟨by decide +kernel, by decide +kernel, by decide +kernel⟩, by decide⟩
theorem lv_X_146 : LKV "SinkingChoir" 146 Y_X_explored 0 := ⟨mem_c3 46 rfl rfl, mem_c3 48 rfl rfl, mem_p1 3 rfl, mem_c1 1 rfl rfl, cw_X_explored, ⟨by decide +kernel, by decide +kernel, by decide +kernel⟩, by decide⟩
theorem lv_X_150 : LKV "SinkingChoir" 150 Y_Wa_leastRow 1 := ⟨mem_c3 105 rfl rfl, mem_c3 106 rfl rfl, mem_c3 107 rfl rfl, mem_c1 16 rfl rfl, cw_Wa_leastRow, ⟨by decide +kernel, by decide +kernel, by decide +kernel⟩, by decide⟩
theorem lv_X_156 : LKV "SinkingChoir" 156 Y_Wa_told 1 := ⟨mem_c3 128 rfl rfl, mem_c3 129 rfl rfl, mem_c3 130 rfl rfl, mem_c1 16 rfl rfl, cw_Wa_told, ⟨by decide +kernel, by decide +kernel, by decide +kernel⟩, by decide⟩
theorem lv_M_242 : LKV "SinkingChoirModel" 242 Y_M_placeOf 4 := ⟨mem_c7 78 rfl rfl, mem_c7 80 rfl rfl, mem_p4 4 rfl, mem_c1 13 rfl rfl, cw_M_placeOf, ⟨by decide +kernel, by decide +kernel, by decide +kernel⟩, by decide⟩
theorem lv_M_246 : LKV "SinkingChoirModel" 246 Y_M_mayLink 2 := ⟨mem_c7 82 rfl rfl, mem_c7 84 rfl rfl, mem_p4 5 rfl, mem_c1 13 rfl rfl, cw_M_mayLink, ⟨by decide +kernel, by decide +kernel, by decide +kernel⟩, by decide⟩
theorem lv_M_249 : LKV "SinkingChoirModel" 249 Y_M_nextOf 3 := ⟨mem_c7 86 rfl rfl, mem_c7 88 rfl rfl, mem_p4 6 rfl, mem_c1 13 rfl rfl, cw_M_nextOf, ⟨by decide +kernel, by decide +kernel, by decide +kernel⟩, by decide⟩
theorem lv_M_252 : LKV "SinkingChoirModel" 252 Y_M_lays 1 := ⟨mem_c7 74 rfl rfl, mem_c7 76 rfl rfl, mem_p4 3 rfl, mem_c1 13 rfl rfl, cw_M_lays, ⟨by decide +kernel, by decide +kernel, by decide +kernel⟩, by decide⟩
theorem lv_M_257 : LKV "SinkingChoirModel" 257 Y_M_costBy 3 := ⟨mem_c7 91 rfl rfl, mem_c7 93 rfl rfl, mem_p4 7 rfl, mem_c1 13 rfl rfl, cw_M_costBy, ⟨by decide +kernel, by decide +kernel, by decide +kernel⟩, by decide⟩
theorem lv_M_265 : LKV "SinkingChoirModel" 265 Y_M_finds 2 := ⟨mem_c7 70 rfl rfl, mem_c7 72 rfl rfl, mem_p4 2 rfl, mem_c1 13 rfl rfl, cw_M_finds, ⟨by decide +kernel, by decide +kernel, by decide +kernel⟩, by decide⟩
theorem lv_M_269 : LKV "SinkingChoirModel" 269 Y_M_rowOf 2 := ⟨mem_c7 66 rfl rfl, mem_c7 68 rfl rfl, mem_p4 1 rfl, mem_c1 13 rfl rfl, cw_M_rowOf, ⟨by decide +kernel, by decide +kernel, by decide +kernel⟩, by decide⟩
theorem lv_X_160 : LKV "SinkingChoir" 160 Y_Wa_nearest 1 := ⟨mem_c3 141 rfl rfl, mem_c3 142 rfl rfl, mem_c3 143 rfl rfl, mem_c1 16 rfl rfl, cw_Wa_nearest, ⟨by decide +kernel, by decide +kernel, by decide +kernel⟩, by decide⟩
theorem lv_X_179 : LKV "SinkingChoir" 179 Y_Ch_has 1 := ⟨mem_c3 158 rfl rfl, mem_c3 159 rfl rfl, mem_c3 160 rfl rfl, mem_c1 4 rfl rfl, cw_Ch_has, ⟨by decide +kernel, by decide +kernel, by decide +kernel⟩, by decide⟩
theorem lv_M_282 : LKV "SinkingChoirModel" 282 Y_M_isSinger 1 := ⟨mem_c7 114 rfl rfl, mem_c7 116 rfl rfl, mem_p4 8 rfl, mem_c1 13 rfl rfl, cw_M_isSinger, ⟨by decide +kernel, by decide +kernel, by decide +kernel⟩, by decide⟩
theorem lv_X_199 : LKV "SinkingChoir" 199 Y_Rl_hasRoom 0 := ⟨mem_c3 188 rfl rfl, mem_c3 189 rfl rfl, mem_c3 190 rfl rfl, mem_c1 11 rfl rfl, cw_Rl_hasRoom, ⟨by decide +kernel, by decide +kernel, by decide +kernel⟩, by decide⟩
theorem lv_X_202 : LKV "SinkingChoir" 202 Y_Rl_add 1 := ⟨mem_c3 192 rfl rfl, mem_c3 193 rfl rfl, mem_c3 194 rfl rfl, mem_c1 11 rfl rfl, cw_Rl_add, ⟨by decide +kernel, by decide +kernel, by decide +kernel⟩, by decide⟩
theorem lv_M_308 : LKV "SinkingChoirModel" 308 Y_M_push 1 := ⟨mem_c7 145 rfl rfl, mem_c7 147 rfl rfl, mem_p4 9 rfl, mem_c1 13 rfl rfl, cw_M_push, ⟨by decide +kernel, by decide +kernel, by decide +kernel⟩, by decide⟩
theorem lv_Str_492 : LKV "java/lang/String" 492 Y_Str_isLatin1 0 := ⟨mem_c3 230 rfl rfl, mem_c3 231 rfl rfl, mem_c3 232 rfl rfl, mem_c1 7 rfl rfl, cw_Str_isLatin1, ⟨by decide +kernel, by decide +kernel, by decide +kernel⟩, by decide⟩
theorem lv_Str_505 : LKV "java/lang/String" 505 Y_Str_length 0 := ⟨mem_c3 234 rfl rfl, mem_c1 179 rfl rfl, mem_c1 180 rfl rfl, mem_c1 7 rfl rfl, cw_Str_length, ⟨by decide +kernel, by decide +kernel, by decide +kernel⟩, by decide⟩
theorem lv_Str_633 : LKV "java/lang/String" 633 Y_Str_indexOf_II 2 := ⟨mem_c3 226 rfl rfl, mem_c3 227 rfl rfl, mem_c3 228 rfl rfl, mem_c1 7 rfl rfl, cw_Str_indexOf_II, ⟨by decide +kernel, by decide +kernel, by decide +kernel⟩, by decide⟩
theorem lv_Re_61 : LKV "SinkingChoir$Reader" 61 Y_Str_indexOf_I 1 := ⟨mem_c3 222 rfl rfl, mem_c3 223 rfl rfl, mem_c3 224 rfl rfl, mem_c1 7 rfl rfl, cw_Str_indexOf_I, ⟨by decide +kernel, by decide +kernel, by decide +kernel⟩, by decide⟩
theorem lv_Re_54 : LKV "SinkingChoir$Reader" 54 Y_Re_here 0 := ⟨mem_c3 215 rfl rfl, mem_c3 217 rfl rfl, mem_p1 10 rfl, mem_c1 12 rfl rfl, cw_Re_here, ⟨by decide +kernel, by decide +kernel, by decide +kernel⟩, by decide⟩
theorem lv_Re_58 : LKV "SinkingChoir$Reader" 58 Y_Re_fail 1 := ⟨mem_c4 57 rfl rfl, mem_c4 59 rfl rfl, mem_p1 11 rfl, mem_c1 12 rfl rfl, cw_Re_fail, ⟨by decide +kernel, by decide +kernel, by decide +kernel⟩, by decide⟩
theorem lv_Re_91 : LKV "SinkingChoir$Reader" 91 Y_Pr_add 2 := ⟨mem_c4 78 rfl rfl, mem_c4 79 rfl rfl, mem_c4 80 rfl rfl, mem_c1 5 rfl rfl, cw_Pr_add, ⟨by decide +kernel, by decide +kernel, by decide +kernel⟩, by decide⟩
theorem lv_Re_88 : LKV "SinkingChoir$Reader" 88 Y_Re_all 1 := ⟨mem_c4 101 rfl rfl, mem_c4 103 rfl rfl, mem_p2 2 rfl, mem_c1 12 rfl rfl, cw_Re_all, ⟨by decide +kernel, by decide +kernel, by decide +kernel⟩, by decide⟩
theorem lv_Re_94 : LKV "SinkingChoir$Reader" 94 Y_Pr_land 1 := ⟨mem_c4 113 rfl rfl, mem_c4 114 rfl rfl, mem_c4 115 rfl rfl, mem_c1 5 rfl rfl, cw_Pr_land, ⟨by decide +kernel, by decide +kernel, by decide +kernel⟩, by decide⟩
theorem lv_Re_97 : LKV "SinkingChoir$Reader" 97 Y_Re_piece 1 := ⟨mem_c4 105 rfl rfl, mem_c4 107 rfl rfl, mem_p2 3 rfl, mem_c1 12 rfl rfl, cw_Re_piece, ⟨by decide +kernel, by decide +kernel, by decide +kernel⟩, by decide⟩
theorem lv_Re_82 : LKV "SinkingChoir$Reader" 82 Y_Re_either 1 := ⟨mem_c4 97 rfl rfl, mem_c4 99 rfl rfl, mem_p2 1 rfl, mem_c1 12 rfl rfl, cw_Re_either, ⟨by decide +kernel, by decide +kernel, by decide +kernel⟩, by decide⟩
theorem lv_Re_51 : LKV "SinkingChoir$Reader" 51 Y_Re_take 1 := ⟨mem_c4 89 rfl rfl, mem_c4 91 rfl rfl, mem_p2 0 rfl, mem_c1 12 rfl rfl, cw_Re_take, ⟨by decide +kernel, by decide +kernel, by decide +kernel⟩, by decide⟩
theorem lv_Re_76 : LKV "SinkingChoir$Reader" 76 Y_Re_sum 1 := ⟨mem_c4 65 rfl rfl, mem_c4 67 rfl rfl, mem_p1 12 rfl, mem_c1 12 rfl rfl, cw_Re_sum, ⟨by decide +kernel, by decide +kernel, by decide +kernel⟩, by decide⟩
theorem lv_Re_100 : LKV "SinkingChoir$Reader" 100 Y_Re_comparison 0 := ⟨mem_c4 109 rfl rfl, mem_c4 111 rfl rfl, mem_p2 4 rfl, mem_c1 12 rfl rfl, cw_Re_comparison, ⟨by decide +kernel, by decide +kernel, by decide +kernel⟩, by decide⟩
theorem lv_Re_103 : LKV "SinkingChoir$Reader" 103 Y_Re_product 1 := ⟨mem_c4 69 rfl rfl, mem_c4 71 rfl rfl, mem_p1 13 rfl, mem_c1 12 rfl rfl, cw_Re_product, ⟨by decide +kernel, by decide +kernel, by decide +kernel⟩, by decide⟩
theorem lv_Re_106 : LKV "SinkingChoir$Reader" 106 Y_Re_factor 1 := ⟨mem_c4 73 rfl rfl, mem_c4 75 rfl rfl, mem_p1 14 rfl, mem_c1 12 rfl rfl, cw_Re_factor, ⟨by decide +kernel, by decide +kernel, by decide +kernel⟩, by decide⟩
theorem lv_Re_115 : LKV "SinkingChoir$Reader" 115 Y_Re_number 0 := ⟨mem_c4 85 rfl rfl, mem_c4 87 rfl rfl, mem_p1 15 rfl, mem_c1 12 rfl rfl, cw_Re_number, ⟨by decide +kernel, by decide +kernel, by decide +kernel⟩, by decide⟩
theorem lv_Re_73 : LKV "SinkingChoir$Reader" 73 Y_Pr_open 1 := ⟨mem_c4 61 rfl rfl, mem_c4 62 rfl rfl, mem_c4 63 rfl rfl, mem_c1 5 rfl rfl, cw_Pr_open, ⟨by decide +kernel, by decide +kernel, by decide +kernel⟩, by decide⟩
theorem lv_Re_79 : LKV "SinkingChoir$Reader" 79 Y_Pr_divide 0 := ⟨mem_c4 93 rfl rfl, mem_c4 94 rfl rfl, mem_c4 95 rfl rfl, mem_c1 5 rfl rfl, cw_Pr_divide, ⟨by decide +kernel, by decide +kernel, by decide +kernel⟩, by decide⟩
theorem lv_Re_85 : LKV "SinkingChoir$Reader" 85 Y_Pr_close 0 := ⟨mem_c4 117 rfl rfl, mem_c4 118 rfl rfl, mem_c4 119 rfl rfl, mem_c1 5 rfl rfl, cw_Pr_close, ⟨by decide +kernel, by decide +kernel, by decide +kernel⟩, by decide⟩
theorem lv_Re_38 : LKV "SinkingChoir$Reader" 38 Y_Pr_clear 0 := ⟨mem_c3 206 rfl rfl, mem_c3 207 rfl rfl, mem_c3 208 rfl rfl, mem_c1 5 rfl rfl, cw_Pr_clear, ⟨by decide +kernel, by decide +kernel, by decide +kernel⟩, by decide⟩
theorem lv_Re_47 : LKV "SinkingChoir$Reader" 47 Y_Re_clause 1 := ⟨mem_c3 210 rfl rfl, mem_c3 212 rfl rfl, mem_p1 9 rfl, mem_c1 12 rfl rfl, cw_Re_clause, ⟨by decide +kernel, by decide +kernel, by decide +kernel⟩, by decide⟩
theorem lv_X_212 : LKV "SinkingChoir" 212 Y_Re_read 2 := ⟨mem_c3 200 rfl rfl, mem_c3 201 rfl rfl, mem_c3 202 rfl rfl, mem_c1 12 rfl rfl, cw_Re_read, ⟨by decide +kernel, by decide +kernel, by decide +kernel⟩, by decide⟩
theorem lv_X_220 : LKV "SinkingChoir" 220 Y_Re_exchange 1 := ⟨mem_c4 121 rfl rfl, mem_c4 122 rfl rfl, mem_c4 123 rfl rfl, mem_c1 12 rfl rfl, cw_Re_exchange, ⟨by decide +kernel, by decide +kernel, by decide +kernel⟩, by decide⟩
theorem lv_M_336 : LKV "SinkingChoirModel" 336 Y_M_here 0 := ⟨mem_c7 162 rfl rfl, mem_c7 164 rfl rfl, mem_p4 12 rfl, mem_c1 13 rfl rfl, cw_M_here, ⟨by decide +kernel, by decide +kernel, by decide +kernel⟩, by decide⟩
theorem lv_M_339 : LKV "SinkingChoirModel" 339 Y_M_puts 1 := ⟨mem_c7 182 rfl rfl, mem_c7 184 rfl rfl, mem_p5 1 rfl, mem_c1 13 rfl rfl, cw_M_puts, ⟨by decide +kernel, by decide +kernel, by decide +kernel⟩, by decide⟩
theorem lv_M_333 : LKV "SinkingChoirModel" 333 Y_M_wrongs 2 := ⟨mem_c7 166 rfl rfl, mem_c7 168 rfl rfl, mem_p4 13 rfl, mem_c1 13 rfl rfl, cw_M_wrongs, ⟨by decide +kernel, by decide +kernel, by decide +kernel⟩, by decide⟩
theorem lv_M_320 : LKV "SinkingChoirModel" 320 Y_M_isGood 0 := ⟨mem_c7 154 rfl rfl, mem_c7 156 rfl rfl, mem_p4 10 rfl, mem_c1 13 rfl rfl, cw_M_isGood, ⟨by decide +kernel, by decide +kernel, by decide +kernel⟩, by decide⟩
theorem lv_M_346 : LKV "SinkingChoirModel" 346 Y_M_seesDigit 0 := ⟨mem_c7 186 rfl rfl, mem_c7 188 rfl rfl, mem_p5 2 rfl, mem_c1 13 rfl rfl, cw_M_seesDigit, ⟨by decide +kernel, by decide +kernel, by decide +kernel⟩, by decide⟩
theorem lv_M_358 : LKV "SinkingChoirModel" 358 Y_M_emit 2 := ⟨mem_c7 196 rfl rfl, mem_c7 198 rfl rfl, mem_p5 4 rfl, mem_c1 13 rfl rfl, cw_M_emit, ⟨by decide +kernel, by decide +kernel, by decide +kernel⟩, by decide⟩
theorem lv_M_364 : LKV "SinkingChoirModel" 364 Y_M_reads 0 := ⟨mem_c7 192 rfl rfl, mem_c7 194 rfl rfl, mem_p5 3 rfl, mem_c1 13 rfl rfl, cw_M_reads, ⟨by decide +kernel, by decide +kernel, by decide +kernel⟩, by decide⟩
theorem lv_M_361 : LKV "SinkingChoirModel" 361 Y_M_opens 0 := ⟨mem_c7 178 rfl rfl, mem_c7 180 rfl rfl, mem_p5 0 rfl, mem_c1 13 rfl rfl, cw_M_opens, ⟨by decide +kernel, by decide +kernel, by decide +kernel⟩, by decide⟩
theorem lv_M_349 : LKV "SinkingChoirModel" 349 Y_M_top 0 := ⟨mem_c7 217 rfl rfl, mem_c7 219 rfl rfl, mem_p5 7 rfl, mem_c1 13 rfl rfl, cw_M_top, ⟨by decide +kernel, by decide +kernel, by decide +kernel⟩, by decide⟩
theorem lv_M_370 : LKV "SinkingChoirModel" 370 Y_M_sums 1 := ⟨mem_c7 213 rfl rfl, mem_c7 215 rfl rfl, mem_p5 6 rfl, mem_c1 13 rfl rfl, cw_M_sums, ⟨by decide +kernel, by decide +kernel, by decide +kernel⟩, by decide⟩
theorem lv_M_381 : LKV "SinkingChoirModel" 381 Y_M_stays 0 := ⟨mem_c7 203 rfl rfl, mem_c7 205 rfl rfl, mem_p5 5 rfl, mem_c1 13 rfl rfl, cw_M_stays, ⟨by decide +kernel, by decide +kernel, by decide +kernel⟩, by decide⟩
theorem lv_M_378 : LKV "SinkingChoirModel" 378 Y_M_factor 0 := ⟨mem_c7 174 rfl rfl, mem_c7 176 rfl rfl, mem_p4 15 rfl, mem_c1 13 rfl rfl, cw_M_factor, ⟨by decide +kernel, by decide +kernel, by decide +kernel⟩, by decide⟩
theorem lv_M_384 : LKV "SinkingChoirModel" 384 Y_M_value 0 := ⟨mem_c7 170 rfl rfl, mem_c7 172 rfl rfl, mem_p4 14 rfl, mem_c1 13 rfl rfl, cw_M_value, ⟨by decide +kernel, by decide +kernel, by decide +kernel⟩, by decide⟩
theorem lv_M_390 : LKV "SinkingChoirModel" 390 Y_M_ends 0 := ⟨mem_c7 232 rfl rfl, mem_c7 234 rfl rfl, mem_p5 10 rfl, mem_c1 13 rfl rfl, cw_M_ends, ⟨by decide +kernel, by decide +kernel, by decide +kernel⟩, by decide⟩
theorem lv_M_393 : LKV "SinkingChoirModel" 393 Y_M_joins 1 := ⟨mem_c8 0 rfl rfl, mem_c8 2 rfl rfl, mem_p5 12 rfl, mem_c1 13 rfl rfl, cw_M_joins, ⟨by decide +kernel, by decide +kernel, by decide +kernel⟩, by decide⟩
theorem lv_M_402 : LKV "SinkingChoirModel" 402 Y_M_goesBehind 0 := ⟨mem_c7 236 rfl rfl, mem_c7 238 rfl rfl, mem_p5 11 rfl, mem_c1 13 rfl rfl, cw_M_goesBehind, ⟨by decide +kernel, by decide +kernel, by decide +kernel⟩, by decide⟩
theorem lv_M_399 : LKV "SinkingChoirModel" 399 Y_M_pieceOfC 0 := ⟨mem_c7 225 rfl rfl, mem_c7 227 rfl rfl, mem_p5 9 rfl, mem_c1 13 rfl rfl, cw_M_pieceOfC, ⟨by decide +kernel, by decide +kernel, by decide +kernel⟩, by decide⟩
theorem lv_M_408 : LKV "SinkingChoirModel" 408 Y_M_condition 0 := ⟨mem_c7 221 rfl rfl, mem_c7 223 rfl rfl, mem_p5 8 rfl, mem_c1 13 rfl rfl, cw_M_condition, ⟨by decide +kernel, by decide +kernel, by decide +kernel⟩, by decide⟩
theorem lv_M_413 : LKV "SinkingChoirModel" 413 Y_M_clause 0 := ⟨mem_c7 158 rfl rfl, mem_c7 160 rfl rfl, mem_p4 11 rfl, mem_c1 13 rfl rfl, cw_M_clause, ⟨by decide +kernel, by decide +kernel, by decide +kernel⟩, by decide⟩
theorem lv_Ch_51 : LKV "SinkingChoir$Choir" 51 Y_Ch_has 1 := ⟨mem_c4 133 rfl rfl, mem_c3 159 rfl rfl, mem_c3 160 rfl rfl, mem_c1 4 rfl rfl, cw_Ch_has, ⟨by decide +kernel, by decide +kernel, by decide +kernel⟩, by decide⟩
theorem lv_Ch_55 : LKV "SinkingChoir$Choir" 55 Y_Sc_sounds 2 := ⟨mem_c4 134 rfl rfl, mem_c2 186 rfl rfl, mem_c2 187 rfl rfl, mem_c1 2 rfl rfl, cw_Sc_sounds, ⟨by decide +kernel, by decide +kernel, by decide +kernel⟩, by decide⟩
theorem lv_Ch_61 : LKV "SinkingChoir$Choir" 61 Y_Ch_sings 2 := ⟨mem_c4 147 rfl rfl, mem_c4 130 rfl rfl, mem_c4 131 rfl rfl, mem_c1 4 rfl rfl, cw_Ch_sings, ⟨by decide +kernel, by decide +kernel, by decide +kernel⟩, by decide⟩
theorem lv_Si_171 : LKV "SinkingChoir$Singing" 171 Y_Ch_tableOf 2 := ⟨mem_c4 161 rfl rfl, mem_c4 162 rfl rfl, mem_c4 163 rfl rfl, mem_c1 4 rfl rfl, cw_Ch_tableOf, ⟨by decide +kernel, by decide +kernel, by decide +kernel⟩, by decide⟩
theorem lv_Si_102 : LKV "SinkingChoir$Singing" 102 Y_Ch_lastNote 2 := ⟨mem_c4 152 rfl rfl, mem_c4 153 rfl rfl, mem_c4 154 rfl rfl, mem_c1 4 rfl rfl, cw_Ch_lastNote, ⟨by decide +kernel, by decide +kernel, by decide +kernel⟩, by decide⟩
theorem lv_Si_106 : LKV "SinkingChoir$Singing" 106 Y_Si_tableOf 2 := ⟨mem_c4 156 rfl rfl, mem_c4 158 rfl rfl, mem_p2 6 rfl, mem_c1 6 rfl rfl, cw_Si_tableOf, ⟨by decide +kernel, by decide +kernel, by decide +kernel⟩, by decide⟩
theorem lv_Si_144 : LKV "SinkingChoir$Singing" 144 Y_Si_isKnowing 1 := ⟨mem_c4 179 rfl rfl, mem_c4 181 rfl rfl, mem_p2 9 rfl, mem_c1 6 rfl rfl, cw_Si_isKnowing, ⟨by decide +kernel, by decide +kernel, by decide +kernel⟩, by decide⟩
theorem lv_Si_151 : LKV "SinkingChoir$Singing" 151 Y_Sc_holds 2 := ⟨mem_c4 183 rfl rfl, mem_c2 182 rfl rfl, mem_c2 183 rfl rfl, mem_c1 2 rfl rfl, cw_Sc_holds, ⟨by decide +kernel, by decide +kernel, by decide +kernel⟩, by decide⟩
theorem lv_Si_159 : LKV "SinkingChoir$Singing" 159 Y_Sc_breathes 2 := ⟨mem_c4 185 rfl rfl, mem_c2 211 rfl rfl, mem_c2 212 rfl rfl, mem_c1 2 rfl rfl, cw_Sc_breathes, ⟨by decide +kernel, by decide +kernel, by decide +kernel⟩, by decide⟩
theorem lv_Pr_45 : LKV "SinkingChoir$Program" 45 Y_Pr_reckon 3 := ⟨mem_c4 195 rfl rfl, mem_c4 197 rfl rfl, mem_p2 10 rfl, mem_c1 5 rfl rfl, cw_Pr_reckon, ⟨by decide +kernel, by decide +kernel, by decide +kernel⟩, by decide⟩
theorem lv_Si_183 : LKV "SinkingChoir$Singing" 183 Y_Si_millsOf 2 := ⟨mem_c4 214 rfl rfl, mem_c4 216 rfl rfl, mem_p2 11 rfl, mem_c1 6 rfl rfl, cw_Si_millsOf, ⟨by decide +kernel, by decide +kernel, by decide +kernel⟩, by decide⟩
theorem lv_Si_186 : LKV "SinkingChoir$Singing" 186 Y_Si_givenIn 1 := ⟨mem_c4 218 rfl rfl, mem_c4 220 rfl rfl, mem_p2 12 rfl, mem_c1 6 rfl rfl, cw_Si_givenIn, ⟨by decide +kernel, by decide +kernel, by decide +kernel⟩, by decide⟩
theorem lv_Si_94 : LKV "SinkingChoir$Singing" 94 Y_Ch_sings 2 := ⟨mem_c4 169 rfl rfl, mem_c4 130 rfl rfl, mem_c4 131 rfl rfl, mem_c1 4 rfl rfl, cw_Ch_sings, ⟨by decide +kernel, by decide +kernel, by decide +kernel⟩, by decide⟩
theorem lv_Si_111 : LKV "SinkingChoir$Singing" 111 Y_Si_tellLetters 3 := ⟨mem_c4 175 rfl rfl, mem_c4 177 rfl rfl, mem_p2 8 rfl, mem_c1 6 rfl rfl, cw_Si_tellLetters, ⟨by decide +kernel, by decide +kernel, by decide +kernel⟩, by decide⟩
theorem lv_Si_119 : LKV "SinkingChoir$Singing" 119 Y_Pr_weigh 2 := ⟨mem_c4 190 rfl rfl, mem_c4 191 rfl rfl, mem_c4 192 rfl rfl, mem_c1 5 rfl rfl, cw_Pr_weigh, ⟨by decide +kernel, by decide +kernel, by decide +kernel⟩, by decide⟩
theorem lv_Si_125 : LKV "SinkingChoir$Singing" 125 Y_Si_aim 4 := ⟨mem_c4 206 rfl rfl, mem_c4 207 rfl rfl, mem_c4 208 rfl rfl, mem_c1 6 rfl rfl, cw_Si_aim, ⟨by decide +kernel, by decide +kernel, by decide +kernel⟩, by decide⟩
theorem lv_Si_129 : LKV "SinkingChoir$Singing" 129 Y_Si_blend 4 := ⟨mem_c4 222 rfl rfl, mem_c4 223 rfl rfl, mem_c4 224 rfl rfl, mem_c1 6 rfl rfl, cw_Si_blend, ⟨by decide +kernel, by decide +kernel, by decide +kernel⟩, by decide⟩
theorem lv_Si_80 : LKV "SinkingChoir$Singing" 80 Y_Ch_howMany 1 := ⟨mem_c4 143 rfl rfl, mem_c4 144 rfl rfl, mem_c4 145 rfl rfl, mem_c1 4 rfl rfl, cw_Ch_howMany, ⟨by decide +kernel, by decide +kernel, by decide +kernel⟩, by decide⟩
theorem lv_Si_98 : LKV "SinkingChoir$Singing" 98 Y_Si_singNote 2 := ⟨mem_c4 170 rfl rfl, mem_c4 172 rfl rfl, mem_p2 7 rfl, mem_c1 6 rfl rfl, cw_Si_singNote, ⟨by decide +kernel, by decide +kernel, by decide +kernel⟩, by decide⟩
theorem lv_Si_87 : LKV "SinkingChoir$Singing" 87 Y_Si_giveAgain 1 := ⟨mem_c4 148 rfl rfl, mem_c4 150 rfl rfl, mem_p2 5 rfl, mem_c1 6 rfl rfl, cw_Si_giveAgain, ⟨by decide +kernel, by decide +kernel, by decide +kernel⟩, by decide⟩
theorem lv_Si_60 : LKV "SinkingChoir$Singing" 60 Y_Si_sing 4 := ⟨mem_c4 139 rfl rfl, mem_c4 140 rfl rfl, mem_c4 141 rfl rfl, mem_c1 6 rfl rfl, cw_Si_sing, ⟨by decide +kernel, by decide +kernel, by decide +kernel⟩, by decide⟩
theorem lv_X_229 : LKV "SinkingChoir" 229 Y_Ch_sings 2 := ⟨mem_c4 129 rfl rfl, mem_c4 130 rfl rfl, mem_c4 131 rfl rfl, mem_c1 4 rfl rfl, cw_Ch_sings, ⟨by decide +kernel, by decide +kernel, by decide +kernel⟩, by decide⟩
theorem lv_X_232 : LKV "SinkingChoir" 232 Y_Si_asTold 0 := ⟨mem_c4 135 rfl rfl, mem_c4 136 rfl rfl, mem_c4 137 rfl rfl, mem_c1 6 rfl rfl, cw_Si_asTold, ⟨by decide +kernel, by decide +kernel, by decide +kernel⟩, by decide⟩
theorem lv_X_235 : LKV "SinkingChoir" 235 Y_Si_sung 2 := ⟨mem_c4 226 rfl rfl, mem_c4 227 rfl rfl, mem_c4 228 rfl rfl, mem_c1 6 rfl rfl, cw_Si_sung, ⟨by decide +kernel, by decide +kernel, by decide +kernel⟩, by decide⟩
theorem lv_M_423 : LKV "SinkingChoirModel" 423 Y_M_sings 2 := ⟨mem_c8 8 rfl rfl, mem_c8 10 rfl rfl, mem_p5 13 rfl, mem_c1 13 rfl rfl, cw_M_sings, ⟨by decide +kernel, by decide +kernel, by decide +kernel⟩, by decide⟩
theorem lv_M_465 : LKV "SinkingChoirModel" 465 Y_M_hearsOf 2 := ⟨mem_c8 45 rfl rfl, mem_c8 47 rfl rfl, mem_p6 5 rfl, mem_c1 13 rfl rfl, cw_M_hearsOf, ⟨by decide +kernel, by decide +kernel, by decide +kernel⟩, by decide⟩
theorem lv_M_468 : LKV "SinkingChoirModel" 468 Y_M_sizeFor 2 := ⟨mem_c8 49 rfl rfl, mem_c8 51 rfl rfl, mem_p6 6 rfl, mem_c1 13 rfl rfl, cw_M_sizeFor, ⟨by decide +kernel, by decide +kernel, by decide +kernel⟩, by decide⟩
theorem lv_M_432 : LKV "SinkingChoirModel" 432 Y_M_keyOf 2 := ⟨mem_c8 27 rfl rfl, mem_c8 29 rfl rfl, mem_p6 1 rfl, mem_c1 13 rfl rfl, cw_M_keyOf, ⟨by decide +kernel, by decide +kernel, by decide +kernel⟩, by decide⟩
theorem lv_M_435 : LKV "SinkingChoirModel" 435 Y_M_leapOf 0 := ⟨mem_c8 75 rfl rfl, mem_c8 77 rfl rfl, mem_p6 11 rfl, mem_c1 13 rfl rfl, cw_M_leapOf, ⟨by decide +kernel, by decide +kernel, by decide +kernel⟩, by decide⟩
theorem lv_M_438 : LKV "SinkingChoirModel" 438 Y_M_singing 1 := ⟨mem_c8 79 rfl rfl, mem_c8 81 rfl rfl, mem_p6 12 rfl, mem_c1 13 rfl rfl, cw_M_singing, ⟨by decide +kernel, by decide +kernel, by decide +kernel⟩, by decide⟩
theorem lv_M_441 : LKV "SinkingChoirModel" 441 Y_M_tableOf 1 := ⟨mem_c8 31 rfl rfl, mem_c8 33 rfl rfl, mem_p6 2 rfl, mem_c1 13 rfl rfl, cw_M_tableOf, ⟨by decide +kernel, by decide +kernel, by decide +kernel⟩, by decide⟩
theorem lv_M_459 : LKV "SinkingChoirModel" 459 Y_M_valueOf 1 := ⟨mem_c8 71 rfl rfl, mem_c8 73 rfl rfl, mem_p6 10 rfl, mem_c1 13 rfl rfl, cw_M_valueOf, ⟨by decide +kernel, by decide +kernel, by decide +kernel⟩, by decide⟩
theorem lv_M_456 : LKV "SinkingChoirModel" 456 Y_M_does 2 := ⟨mem_c8 64 rfl rfl, mem_c8 66 rfl rfl, mem_p6 9 rfl, mem_c1 13 rfl rfl, cw_M_does, ⟨by decide +kernel, by decide +kernel, by decide +kernel⟩, by decide⟩
theorem lv_M_462 : LKV "SinkingChoirModel" 462 Y_M_works 2 := ⟨mem_c8 60 rfl rfl, mem_c8 62 rfl rfl, mem_p6 8 rfl, mem_c1 13 rfl rfl, cw_M_works, ⟨by decide +kernel, by decide +kernel, by decide +kernel⟩, by decide⟩
theorem lv_M_484 : LKV "SinkingChoirModel" 484 Y_M_listens 2 := ⟨mem_c8 41 rfl rfl, mem_c8 43 rfl rfl, mem_p6 4 rfl, mem_c1 13 rfl rfl, cw_M_listens, ⟨by decide +kernel, by decide +kernel, by decide +kernel⟩, by decide⟩
theorem lv_M_487 : LKV "SinkingChoirModel" 487 Y_M_tells 3 := ⟨mem_c8 56 rfl rfl, mem_c8 58 rfl rfl, mem_p6 7 rfl, mem_c1 13 rfl rfl, cw_M_tells, ⟨by decide +kernel, by decide +kernel, by decide +kernel⟩, by decide⟩
theorem lv_M_493 : LKV "SinkingChoirModel" 493 Y_M_aimOf 6 := ⟨mem_c8 84 rfl rfl, mem_c8 86 rfl rfl, mem_p6 13 rfl, mem_c1 13 rfl rfl, cw_M_aimOf, ⟨by decide +kernel, by decide +kernel, by decide +kernel⟩, by decide⟩
theorem lv_M_503 : LKV "SinkingChoirModel" 503 Y_M_singsNote 2 := ⟨mem_c8 36 rfl rfl, mem_c8 38 rfl rfl, mem_p6 3 rfl, mem_c1 13 rfl rfl, cw_M_singsNote, ⟨by decide +kernel, by decide +kernel, by decide +kernel⟩, by decide⟩
theorem lv_M_506 : LKV "SinkingChoirModel" 506 Y_M_readies 0 := ⟨mem_c8 16 rfl rfl, mem_c8 18 rfl rfl, mem_p5 15 rfl, mem_c1 13 rfl rfl, cw_M_readies, ⟨by decide +kernel, by decide +kernel, by decide +kernel⟩, by decide⟩
theorem lv_M_509 : LKV "SinkingChoirModel" 509 Y_M_isSung 0 := ⟨mem_c8 20 rfl rfl, mem_c8 22 rfl rfl, mem_p6 0 rfl, mem_c1 13 rfl rfl, cw_M_isSung, ⟨by decide +kernel, by decide +kernel, by decide +kernel⟩, by decide⟩
theorem lv_M_525 : LKV "SinkingChoirModel" 525 Y_M_plainly 0 := ⟨mem_c8 12 rfl rfl, mem_c8 14 rfl rfl, mem_p5 14 rfl, mem_c1 13 rfl rfl, cw_M_plainly, ⟨by decide +kernel, by decide +kernel, by decide +kernel⟩, by decide⟩
theorem lv_Si_189 : LKV "SinkingChoir$Singing" 189 Y_Si_sung 2 := ⟨mem_c5 0 rfl rfl, mem_c4 227 rfl rfl, mem_c4 228 rfl rfl, mem_c1 6 rfl rfl, cw_Si_sung, ⟨by decide +kernel, by decide +kernel, by decide +kernel⟩, by decide⟩
theorem lv_Ch_90 : LKV "SinkingChoir$Choir" 90 Y_Ch_tableOf 2 := ⟨mem_c5 17 rfl rfl, mem_c4 162 rfl rfl, mem_c4 163 rfl rfl, mem_c1 4 rfl rfl, cw_Ch_tableOf, ⟨by decide +kernel, by decide +kernel, by decide +kernel⟩, by decide⟩
theorem lv_Ch_81 : LKV "SinkingChoir$Choir" 81 Y_Ch_above 2 := ⟨mem_c5 12 rfl rfl, mem_c5 14 rfl rfl, mem_p2 13 rfl, mem_c1 4 rfl rfl, cw_Ch_above, ⟨by decide +kernel, by decide +kernel, by decide +kernel⟩, by decide⟩
theorem lv_X_241 : LKV "SinkingChoir" 241 Y_Ch_howMany 1 := ⟨mem_c4 235 rfl rfl, mem_c4 144 rfl rfl, mem_c4 145 rfl rfl, mem_c1 4 rfl rfl, cw_Ch_howMany, ⟨by decide +kernel, by decide +kernel, by decide +kernel⟩, by decide⟩
theorem lv_X_244 : LKV "SinkingChoir" 244 Y_Si_off 1 := ⟨mem_c4 236 rfl rfl, mem_c4 237 rfl rfl, mem_c4 238 rfl rfl, mem_c1 6 rfl rfl, cw_Si_off, ⟨by decide +kernel, by decide +kernel, by decide +kernel⟩, by decide⟩
theorem lv_X_248 : LKV "SinkingChoir" 248 Y_Si_foul 1 := ⟨mem_c5 1 rfl rfl, mem_c5 2 rfl rfl, mem_c5 3 rfl rfl, mem_c1 6 rfl rfl, cw_Si_foul, ⟨by decide +kernel, by decide +kernel, by decide +kernel⟩, by decide⟩
theorem lv_X_251 : LKV "SinkingChoir" 251 Y_Ch_tableFoul 1 := ⟨mem_c5 8 rfl rfl, mem_c5 9 rfl rfl, mem_c5 10 rfl rfl, mem_c1 4 rfl rfl, cw_Ch_tableFoul, ⟨by decide +kernel, by decide +kernel, by decide +kernel⟩, by decide⟩
theorem lv_M_532 : LKV "SinkingChoirModel" 532 Y_M_tableFoul 1 := ⟨mem_c8 102 rfl rfl, mem_c8 104 rfl rfl, mem_p7 0 rfl, mem_c1 13 rfl rfl, cw_M_tableFoul, ⟨by decide +kernel, by decide +kernel, by decide +kernel⟩, by decide⟩
theorem lv_M_512 : LKV "SinkingChoirModel" 512 Y_M_foulOf 1 := ⟨mem_c8 98 rfl rfl, mem_c8 100 rfl rfl, mem_p6 15 rfl, mem_c1 13 rfl rfl, cw_M_foulOf, ⟨by decide +kernel, by decide +kernel, by decide +kernel⟩, by decide⟩
theorem lv_M_519 : LKV "SinkingChoirModel" 519 Y_M_offOf 1 := ⟨mem_c8 94 rfl rfl, mem_c8 96 rfl rfl, mem_p6 14 rfl, mem_c1 13 rfl rfl, cw_M_offOf, ⟨by decide +kernel, by decide +kernel, by decide +kernel⟩, by decide⟩
theorem lv_Ch_68 : LKV "SinkingChoir$Choir" 68 Y_Ch_howMany 1 := ⟨mem_c5 26 rfl rfl, mem_c4 144 rfl rfl, mem_c4 145 rfl rfl, mem_c1 4 rfl rfl, cw_Ch_howMany, ⟨by decide +kernel, by decide +kernel, by decide +kernel⟩, by decide⟩
theorem lv_Si_199 : LKV "SinkingChoir$Singing" 199 Y_Ch_lastBeat 0 := ⟨mem_c5 35 rfl rfl, mem_c5 28 rfl rfl, mem_c5 29 rfl rfl, mem_c1 4 rfl rfl, cw_Ch_lastBeat, ⟨by decide +kernel, by decide +kernel, by decide +kernel⟩, by decide⟩
theorem lv_Si_202 : LKV "SinkingChoir$Singing" 202 Y_Si_off 1 := ⟨mem_c5 36 rfl rfl, mem_c4 237 rfl rfl, mem_c4 238 rfl rfl, mem_c1 6 rfl rfl, cw_Si_off, ⟨by decide +kernel, by decide +kernel, by decide +kernel⟩, by decide⟩
theorem lv_Si_205 : LKV "SinkingChoir$Singing" 205 Y_Ch_firstBeat 0 := ⟨mem_c5 37 rfl rfl, mem_c5 23 rfl rfl, mem_c5 24 rfl rfl, mem_c1 4 rfl rfl, cw_Ch_firstBeat, ⟨by decide +kernel, by decide +kernel, by decide +kernel⟩, by decide⟩
theorem lv_Ch_64 : LKV "SinkingChoir$Choir" 64 Y_Ch_lastNote 2 := ⟨mem_c5 46 rfl rfl, mem_c4 153 rfl rfl, mem_c4 154 rfl rfl, mem_c1 4 rfl rfl, cw_Ch_lastNote, ⟨by decide +kernel, by decide +kernel, by decide +kernel⟩, by decide⟩
theorem lv_Si_208 : LKV "SinkingChoir$Singing" 208 Y_Ch_howManySing 0 := ⟨mem_c5 42 rfl rfl, mem_c5 43 rfl rfl, mem_c5 44 rfl rfl, mem_c1 4 rfl rfl, cw_Ch_howManySing, ⟨by decide +kernel, by decide +kernel, by decide +kernel⟩, by decide⟩
theorem lv_Si_195 : LKV "SinkingChoir$Singing" 195 Y_Si_foul 1 := ⟨mem_c5 51 rfl rfl, mem_c5 2 rfl rfl, mem_c5 3 rfl rfl, mem_c1 6 rfl rfl, cw_Si_foul, ⟨by decide +kernel, by decide +kernel, by decide +kernel⟩, by decide⟩
theorem lv_X_254 : LKV "SinkingChoir" 254 Y_Ch_firstBeat 0 := ⟨mem_c5 22 rfl rfl, mem_c5 23 rfl rfl, mem_c5 24 rfl rfl, mem_c1 4 rfl rfl, cw_Ch_firstBeat, ⟨by decide +kernel, by decide +kernel, by decide +kernel⟩, by decide⟩
theorem lv_X_257 : LKV "SinkingChoir" 257 Y_Ch_lastBeat 0 := ⟨mem_c5 27 rfl rfl, mem_c5 28 rfl rfl, mem_c5 29 rfl rfl, mem_c1 4 rfl rfl, cw_Ch_lastBeat, ⟨by decide +kernel, by decide +kernel, by decide +kernel⟩, by decide⟩
theorem lv_X_258 : LKV "SinkingChoir" 258 Y_Si_sinking 0 := ⟨mem_c5 31 rfl rfl, mem_c5 32 rfl rfl, mem_c5 33 rfl rfl, mem_c1 6 rfl rfl, cw_Si_sinking, ⟨by decide +kernel, by decide +kernel, by decide +kernel⟩, by decide⟩
theorem lv_X_262 : LKV "SinkingChoir" 262 Y_Si_drifting 0 := ⟨mem_c5 38 rfl rfl, mem_c5 39 rfl rfl, mem_c5 40 rfl rfl, mem_c1 6 rfl rfl, cw_Si_drifting, ⟨by decide +kernel, by decide +kernel, by decide +kernel⟩, by decide⟩
theorem lv_X_265 : LKV "SinkingChoir" 265 Y_Si_foulTogether 0 := ⟨mem_c5 47 rfl rfl, mem_c5 48 rfl rfl, mem_c5 49 rfl rfl, mem_c1 6 rfl rfl, cw_Si_foulTogether, ⟨by decide +kernel, by decide +kernel, by decide +kernel⟩, by decide⟩
theorem lv_M_516 : LKV "SinkingChoirModel" 516 Y_M_lastSung 0 := ⟨mem_c8 119 rfl rfl, mem_c8 121 rfl rfl, mem_p7 3 rfl, mem_c1 13 rfl rfl, cw_M_lastSung, ⟨by decide +kernel, by decide +kernel, by decide +kernel⟩, by decide⟩
theorem lv_M_522 : LKV "SinkingChoirModel" 522 Y_M_firstSung 0 := ⟨mem_c8 110 rfl rfl, mem_c8 112 rfl rfl, mem_p7 1 rfl, mem_c1 13 rfl rfl, cw_M_firstSung, ⟨by decide +kernel, by decide +kernel, by decide +kernel⟩, by decide⟩
theorem lv_M_537 : LKV "SinkingChoirModel" 537 Y_M_sunkNow 0 := ⟨mem_c8 115 rfl rfl, mem_c8 117 rfl rfl, mem_p7 2 rfl, mem_c1 13 rfl rfl, cw_M_sunkNow, ⟨by decide +kernel, by decide +kernel, by decide +kernel⟩, by decide⟩
theorem lv_M_541 : LKV "SinkingChoirModel" 541 Y_M_sungMany 0 := ⟨mem_c8 123 rfl rfl, mem_c8 125 rfl rfl, mem_p7 4 rfl, mem_c1 13 rfl rfl, cw_M_sungMany, ⟨by decide +kernel, by decide +kernel, by decide +kernel⟩, by decide⟩
theorem lv_M_544 : LKV "SinkingChoirModel" 544 Y_M_allFoul 0 := ⟨mem_c8 127 rfl rfl, mem_c8 129 rfl rfl, mem_p7 5 rfl, mem_c1 13 rfl rfl, cw_M_allFoul, ⟨by decide +kernel, by decide +kernel, by decide +kernel⟩, by decide⟩
theorem lv_St_78 : LKV "SinkingChoir$Standing" 78 Y_St_swap 2 := ⟨mem_c5 71 rfl rfl, mem_c5 73 rfl rfl, mem_p2 15 rfl, mem_c1 8 rfl rfl, cw_St_swap, ⟨by decide +kernel, by decide +kernel, by decide +kernel⟩, by decide⟩
theorem lv_St_39 : LKV "SinkingChoir$Standing" 39 Y_St_sort 1 := ⟨mem_c5 67 rfl rfl, mem_c5 69 rfl rfl, mem_p2 14 rfl, mem_c1 8 rfl rfl, cw_St_sort, ⟨by decide +kernel, by decide +kernel, by decide +kernel⟩, by decide⟩
theorem lv_St_46 : LKV "SinkingChoir$Standing" 46 Y_Si_sing 4 := ⟨mem_c5 75 rfl rfl, mem_c4 140 rfl rfl, mem_c4 141 rfl rfl, mem_c1 6 rfl rfl, cw_Si_sing, ⟨by decide +kernel, by decide +kernel, by decide +kernel⟩, by decide⟩
theorem lv_St_52 : LKV "SinkingChoir$Standing" 52 Y_Si_sinking 0 := ⟨mem_c5 76 rfl rfl, mem_c5 32 rfl rfl, mem_c5 33 rfl rfl, mem_c1 6 rfl rfl, cw_Si_sinking, ⟨by decide +kernel, by decide +kernel, by decide +kernel⟩, by decide⟩
theorem lv_St_65 : LKV "SinkingChoir$Standing" 65 Y_Si_foulTogether 0 := ⟨mem_c5 78 rfl rfl, mem_c5 48 rfl rfl, mem_c5 49 rfl rfl, mem_c1 6 rfl rfl, cw_Si_foulTogether, ⟨by decide +kernel, by decide +kernel, by decide +kernel⟩, by decide⟩
theorem lv_St_71 : LKV "SinkingChoir$Standing" 71 Y_St_next 0 := ⟨mem_c5 79 rfl rfl, mem_c5 81 rfl rfl, mem_p3 0 rfl, mem_c1 8 rfl rfl, cw_St_next, ⟨by decide +kernel, by decide +kernel, by decide +kernel⟩, by decide⟩
theorem lv_X_277 : LKV "SinkingChoir" 277 Y_St_find 1 := ⟨mem_c5 62 rfl rfl, mem_c5 63 rfl rfl, mem_c5 64 rfl rfl, mem_c1 8 rfl rfl, cw_St_find, ⟨by decide +kernel, by decide +kernel, by decide +kernel⟩, by decide⟩
theorem lv_M_547 : LKV "SinkingChoirModel" 547 Y_M_swaps 2 := ⟨mem_c8 140 rfl rfl, mem_c8 142 rfl rfl, mem_p7 6 rfl, mem_c1 13 rfl rfl, cw_M_swaps, ⟨by decide +kernel, by decide +kernel, by decide +kernel⟩, by decide⟩
theorem lv_M_552 : LKV "SinkingChoirModel" 552 Y_M_stepsOn 0 := ⟨mem_c8 144 rfl rfl, mem_c8 146 rfl rfl, mem_p7 7 rfl, mem_c1 13 rfl rfl, cw_M_stepsOn, ⟨by decide +kernel, by decide +kernel, by decide +kernel⟩, by decide⟩
theorem lv_Le_72 : LKV "SinkingChoir$Leading" 72 Y_Si_off 1 := ⟨mem_c5 100 rfl rfl, mem_c4 237 rfl rfl, mem_c4 238 rfl rfl, mem_c1 6 rfl rfl, cw_Si_off, ⟨by decide +kernel, by decide +kernel, by decide +kernel⟩, by decide⟩
theorem lv_Le_23 : LKV "SinkingChoir$Leading" 23 Y_Ch_firstBeat 0 := ⟨mem_c5 93 rfl rfl, mem_c5 23 rfl rfl, mem_c5 24 rfl rfl, mem_c1 4 rfl rfl, cw_Ch_firstBeat, ⟨by decide +kernel, by decide +kernel, by decide +kernel⟩, by decide⟩
theorem lv_Le_29 : LKV "SinkingChoir$Leading" 29 Y_Ch_lastBeat 0 := ⟨mem_c5 94 rfl rfl, mem_c5 28 rfl rfl, mem_c5 29 rfl rfl, mem_c1 4 rfl rfl, cw_Ch_lastBeat, ⟨by decide +kernel, by decide +kernel, by decide +kernel⟩, by decide⟩
theorem lv_Le_36 : LKV "SinkingChoir$Leading" 36 Y_Si_sing 4 := ⟨mem_c5 95 rfl rfl, mem_c4 140 rfl rfl, mem_c4 141 rfl rfl, mem_c1 6 rfl rfl, cw_Si_sing, ⟨by decide +kernel, by decide +kernel, by decide +kernel⟩, by decide⟩
theorem lv_Le_42 : LKV "SinkingChoir$Leading" 42 Y_Le_chart 2 := ⟨mem_c5 96 rfl rfl, mem_c5 98 rfl rfl, mem_p3 1 rfl, mem_c1 9 rfl rfl, cw_Le_chart, ⟨by decide +kernel, by decide +kernel, by decide +kernel⟩, by decide⟩
theorem lv_Le_58 : LKV "SinkingChoir$Leading" 58 Y_Le_farthest 2 := ⟨mem_c5 106 rfl rfl, mem_c5 108 rfl rfl, mem_p3 2 rfl, mem_c1 9 rfl rfl, cw_Le_farthest, ⟨by decide +kernel, by decide +kernel, by decide +kernel⟩, by decide⟩
theorem lv_Le_68 : LKV "SinkingChoir$Leading" 68 Y_Le_consider 2 := ⟨mem_c5 110 rfl rfl, mem_c5 112 rfl rfl, mem_p3 3 rfl, mem_c1 9 rfl rfl, cw_Le_consider, ⟨by decide +kernel, by decide +kernel, by decide +kernel⟩, by decide⟩
theorem lv_X_290 : LKV "SinkingChoir" 290 Y_Le_find 1 := ⟨mem_c5 89 rfl rfl, mem_c5 90 rfl rfl, mem_c5 91 rfl rfl, mem_c1 9 rfl rfl, cw_Le_find, ⟨by decide +kernel, by decide +kernel, by decide +kernel⟩, by decide⟩
theorem lv_M_559 : LKV "SinkingChoirModel" 559 Y_M_farthest 0 := ⟨mem_c8 154 rfl rfl, mem_c8 156 rfl rfl, mem_p7 8 rfl, mem_c1 13 rfl rfl, cw_M_farthest, ⟨by decide +kernel, by decide +kernel, by decide +kernel⟩, by decide⟩
theorem lv_X_297 : LKV "SinkingChoir" 297 Y_Sc_soundsIn 1 := ⟨mem_c5 118 rfl rfl, mem_c3 24 rfl rfl, mem_c3 25 rfl rfl, mem_c1 2 rfl rfl, cw_Sc_soundsIn, ⟨by decide +kernel, by decide +kernel, by decide +kernel⟩, by decide⟩
theorem lv_X_300 : LKV "SinkingChoir" 300 Y_Si_sing 4 := ⟨mem_c5 123 rfl rfl, mem_c4 140 rfl rfl, mem_c4 141 rfl rfl, mem_c1 6 rfl rfl, cw_Si_sing, ⟨by decide +kernel, by decide +kernel, by decide +kernel⟩, by decide⟩
theorem lv_X_306 : LKV "SinkingChoir" 306 Y_Ch_putRecord 3 := ⟨mem_c5 130 rfl rfl, mem_c5 131 rfl rfl, mem_c5 132 rfl rfl, mem_c1 4 rfl rfl, cw_Ch_putRecord, ⟨by decide +kernel, by decide +kernel, by decide +kernel⟩, by decide⟩
theorem lv_Ch_96 : LKV "SinkingChoir$Choir" 96 Y_Ch_isRecorded 2 := ⟨mem_c5 157 rfl rfl, mem_c5 146 rfl rfl, mem_c5 147 rfl rfl, mem_c1 4 rfl rfl, cw_Ch_isRecorded, ⟨by decide +kernel, by decide +kernel, by decide +kernel⟩, by decide⟩
theorem lv_Fi_47 : LKV "SinkingChoir$Fitting" 47 Y_Ch_lastRecord 2 := ⟨mem_c5 153 rfl rfl, mem_c5 154 rfl rfl, mem_c5 155 rfl rfl, mem_c1 4 rfl rfl, cw_Ch_lastRecord, ⟨by decide +kernel, by decide +kernel, by decide +kernel⟩, by decide⟩
theorem lv_Fi_51 : LKV "SinkingChoir$Fitting" 51 Y_Ch_recordOf 2 := ⟨mem_c5 158 rfl rfl, mem_c5 159 rfl rfl, mem_c5 160 rfl rfl, mem_c1 4 rfl rfl, cw_Ch_recordOf, ⟨by decide +kernel, by decide +kernel, by decide +kernel⟩, by decide⟩
theorem lv_Fi_54 : LKV "SinkingChoir$Fitting" 54 Y_Si_aim 4 := ⟨mem_c5 162 rfl rfl, mem_c4 207 rfl rfl, mem_c4 208 rfl rfl, mem_c1 6 rfl rfl, cw_Si_aim, ⟨by decide +kernel, by decide +kernel, by decide +kernel⟩, by decide⟩
theorem lv_Fi_60 : LKV "SinkingChoir$Fitting" 60 Y_Si_blend 4 := ⟨mem_c5 163 rfl rfl, mem_c4 223 rfl rfl, mem_c4 224 rfl rfl, mem_c1 6 rfl rfl, cw_Si_blend, ⟨by decide +kernel, by decide +kernel, by decide +kernel⟩, by decide⟩
theorem lv_Fi_33 : LKV "SinkingChoir$Fitting" 33 Y_Ch_isRecorded 2 := ⟨mem_c5 145 rfl rfl, mem_c5 146 rfl rfl, mem_c5 147 rfl rfl, mem_c1 4 rfl rfl, cw_Ch_isRecorded, ⟨by decide +kernel, by decide +kernel, by decide +kernel⟩, by decide⟩
theorem lv_Fi_39 : LKV "SinkingChoir$Fitting" 39 Y_Fi_addBeat 2 := ⟨mem_c5 149 rfl rfl, mem_c5 151 rfl rfl, mem_p3 4 rfl, mem_c1 10 rfl rfl, cw_Fi_addBeat, ⟨by decide +kernel, by decide +kernel, by decide +kernel⟩, by decide⟩
theorem lv_X_310 : LKV "SinkingChoir" 310 Y_Fi_find 1 := ⟨mem_c5 138 rfl rfl, mem_c5 139 rfl rfl, mem_c5 140 rfl rfl, mem_c1 10 rfl rfl, cw_Fi_find, ⟨by decide +kernel, by decide +kernel, by decide +kernel⟩, by decide⟩
theorem lv_X_312 : LKV "SinkingChoir" 312 Y_Fi_told 1 := ⟨mem_c5 165 rfl rfl, mem_c5 166 rfl rfl, mem_c5 167 rfl rfl, mem_c1 10 rfl rfl, cw_Fi_told, ⟨by decide +kernel, by decide +kernel, by decide +kernel⟩, by decide⟩
theorem lv_M_566 : LKV "SinkingChoirModel" 566 Y_M_isTaped 2 := ⟨mem_c8 176 rfl rfl, mem_c8 178 rfl rfl, mem_p7 9 rfl, mem_c1 13 rfl rfl, cw_M_isTaped, ⟨by decide +kernel, by decide +kernel, by decide +kernel⟩, by decide⟩
theorem lv_M_569 : LKV "SinkingChoirModel" 569 Y_M_differs 4 := ⟨mem_c8 180 rfl rfl, mem_c8 182 rfl rfl, mem_p7 10 rfl, mem_c1 13 rfl rfl, cw_M_differs, ⟨by decide +kernel, by decide +kernel, by decide +kernel⟩, by decide⟩
theorem lv_X_314 : LKV "SinkingChoir" 314 Y_X_minded 3 := ⟨mem_c5 173 rfl rfl, mem_c5 175 rfl rfl, mem_p3 5 rfl, mem_c1 1 rfl rfl, cw_X_minded, ⟨by decide +kernel, by decide +kernel, by decide +kernel⟩, by decide⟩
theorem lv_M_577 : LKV "SinkingChoirModel" 577 Y_M_minds 2 := ⟨mem_c8 190 rfl rfl, mem_c8 192 rfl rfl, mem_p7 11 rfl, mem_c1 13 rfl rfl, cw_M_minds, ⟨by decide +kernel, by decide +kernel, by decide +kernel⟩, by decide⟩
theorem lv_X_348 : LKV "SinkingChoir" 348 Y_Rl_number 1 := ⟨mem_c5 187 rfl rfl, mem_c5 188 rfl rfl, mem_c5 189 rfl rfl, mem_c1 11 rfl rfl, cw_Rl_number, ⟨by decide +kernel, by decide +kernel, by decide +kernel⟩, by decide⟩
theorem lv_X_318 : LKV "SinkingChoir" 318 Y_X_firstWrong 1 := ⟨mem_c5 183 rfl rfl, mem_c5 185 rfl rfl, mem_p3 6 rfl, mem_c1 1 rfl rfl, cw_X_firstWrong, ⟨by decide +kernel, by decide +kernel, by decide +kernel⟩, by decide⟩
theorem lv_M_580 : LKV "SinkingChoirModel" 580 Y_M_numberAt 1 := ⟨mem_c8 198 rfl rfl, mem_c8 200 rfl rfl, mem_p7 12 rfl, mem_c1 13 rfl rfl, cw_M_numberAt, ⟨by decide +kernel, by decide +kernel, by decide +kernel⟩, by decide⟩
theorem lv_X_321 : LKV "SinkingChoir" 321 Y_Sc_noteCount 0 := ⟨mem_c5 195 rfl rfl, mem_c5 196 rfl rfl, mem_c5 197 rfl rfl, mem_c1 2 rfl rfl, cw_Sc_noteCount, ⟨by decide +kernel, by decide +kernel, by decide +kernel⟩, by decide⟩
theorem lv_X_324 : LKV "SinkingChoir" 324 Y_Sc_linkCount 0 := ⟨mem_c5 199 rfl rfl, mem_c5 200 rfl rfl, mem_c5 201 rfl rfl, mem_c1 2 rfl rfl, cw_Sc_linkCount, ⟨by decide +kernel, by decide +kernel, by decide +kernel⟩, by decide⟩
theorem ls_Sc_33 : LKS "SinkingChoir$Score" 33 Y_Ar_fill_AI 2 := ⟨mem_c1 37 rfl rfl, mem_c1 38 rfl rfl, mem_c1 3 rfl rfl, cw_Ar_fill_AI, ⟨by decide +kernel, by decide +kernel, by decide +kernel⟩, by decide⟩
theorem ls_Fr_23 : LKS "SinkingChoir$Fraction" 23 Y_Fr_exponent 2 := ⟨mem_c2 160 rfl rfl, mem_c2 161 rfl rfl, mem_c1 14 rfl rfl, cw_Fr_exponent, ⟨by decide +kernel, by decide +kernel, by decide +kernel⟩, by decide⟩
theorem ls_Fr_11 : LKS "SinkingChoir$Fraction" 11 Y_Fr_ofNumber 1 := ⟨mem_c2 151 rfl rfl, mem_c2 152 rfl rfl, mem_c1 14 rfl rfl, cw_Fr_ofNumber, ⟨by decide +kernel, by decide +kernel, by decide +kernel⟩, by decide⟩
theorem ls_Fr_16 : LKS "SinkingChoir$Fraction" 16 Y_Fr_mills 1 := ⟨mem_c2 156 rfl rfl, mem_c2 157 rfl rfl, mem_c1 14 rfl rfl, cw_Fr_mills, ⟨by decide +kernel, by decide +kernel, by decide +kernel⟩, by decide⟩
theorem ls_Sc_46 : LKS "SinkingChoir$Score" 46 Y_Sc_cell 2 := ⟨mem_c2 177 rfl rfl, mem_c2 178 rfl rfl, mem_c1 2 rfl rfl, cw_Sc_cell, ⟨by decide +kernel, by decide +kernel, by decide +kernel⟩, by decide⟩
theorem ls_Sc_50 : LKS "SinkingChoir$Score" 50 Y_Fr_mills 1 := ⟨mem_c2 180 rfl rfl, mem_c2 157 rfl rfl, mem_c1 14 rfl rfl, cw_Fr_mills, ⟨by decide +kernel, by decide +kernel, by decide +kernel⟩, by decide⟩
theorem ls_Sc_43 : LKS "SinkingChoir$Score" 43 Y_Sc_has 2 := ⟨mem_c2 176 rfl rfl, mem_c2 169 rfl rfl, mem_c1 2 rfl rfl, cw_Sc_has, ⟨by decide +kernel, by decide +kernel, by decide +kernel⟩, by decide⟩
theorem ls_X_73 : LKS "SinkingChoir" 73 Y_Fr_of 2 := ⟨mem_c2 148 rfl rfl, mem_c2 149 rfl rfl, mem_c1 14 rfl rfl, cw_Fr_of, ⟨by decide +kernel, by decide +kernel, by decide +kernel⟩, by decide⟩
theorem ls_X_79 : LKS "SinkingChoir" 79 Y_Sc_has 2 := ⟨mem_c2 168 rfl rfl, mem_c2 169 rfl rfl, mem_c1 2 rfl rfl, cw_Sc_has, ⟨by decide +kernel, by decide +kernel, by decide +kernel⟩, by decide⟩
theorem ls_M_145 : LKS "SinkingChoirModel" 145 Y_M_lies 3 := ⟨mem_c6 197 rfl rfl, mem_c6 198 rfl rfl, mem_c1 13 rfl rfl, cw_M_lies, ⟨by decide +kernel, by decide +kernel, by decide +kernel⟩, by decide⟩
theorem ls_M_169 : LKS "SinkingChoirModel" 169 Y_M_powerOf 2 := ⟨mem_c6 206 rfl rfl, mem_c6 207 rfl rfl, mem_c1 13 rfl rfl, cw_M_powerOf, ⟨by decide +kernel, by decide +kernel, by decide +kernel⟩, by decide⟩
theorem ls_M_172 : LKS "SinkingChoirModel" 172 Y_M_mills 3 := ⟨mem_c6 209 rfl rfl, mem_c6 210 rfl rfl, mem_c1 13 rfl rfl, cw_M_mills, ⟨by decide +kernel, by decide +kernel, by decide +kernel⟩, by decide⟩
theorem ls_M_178 : LKS "SinkingChoirModel" 178 Y_M_bare 1 := ⟨mem_c6 200 rfl rfl, mem_c6 201 rfl rfl, mem_c1 13 rfl rfl, cw_M_bare, ⟨by decide +kernel, by decide +kernel, by decide +kernel⟩, by decide⟩
theorem ls_M_182 : LKS "SinkingChoirModel" 182 Y_M_fraction 2 := ⟨mem_c6 203 rfl rfl, mem_c6 204 rfl rfl, mem_c1 13 rfl rfl, cw_M_fraction, ⟨by decide +kernel, by decide +kernel, by decide +kernel⟩, by decide⟩
theorem ls_M_151 : LKS "SinkingChoirModel" 151 Y_M_isVoice 1 := ⟨mem_c6 222 rfl rfl, mem_c6 223 rfl rfl, mem_c1 13 rfl rfl, cw_M_isVoice, ⟨by decide +kernel, by decide +kernel, by decide +kernel⟩, by decide⟩
theorem ls_M_155 : LKS "SinkingChoirModel" 155 Y_M_isBeat 1 := ⟨mem_c6 226 rfl rfl, mem_c6 227 rfl rfl, mem_c1 13 rfl rfl, cw_M_isBeat, ⟨by decide +kernel, by decide +kernel, by decide +kernel⟩, by decide⟩
theorem ls_M_158 : LKS "SinkingChoirModel" 158 Y_M_cellOf 2 := ⟨mem_c6 231 rfl rfl, mem_c6 232 rfl rfl, mem_c1 13 rfl rfl, cw_M_cellOf, ⟨by decide +kernel, by decide +kernel, by decide +kernel⟩, by decide⟩
theorem ls_M_189 : LKS "SinkingChoirModel" 189 Y_M_isFraction 2 := ⟨mem_c6 193 rfl rfl, mem_c6 194 rfl rfl, mem_c1 13 rfl rfl, cw_M_isFraction, ⟨by decide +kernel, by decide +kernel, by decide +kernel⟩, by decide⟩
theorem ls_X_103 : LKS "SinkingChoir" 103 Y_Fr_mills 1 := ⟨mem_c2 219 rfl rfl, mem_c2 157 rfl rfl, mem_c1 14 rfl rfl, cw_Fr_mills, ⟨by decide +kernel, by decide +kernel, by decide +kernel⟩, by decide⟩
theorem ls_X_120 : LKS "SinkingChoir" 120 Y_Fr_exponent 2 := ⟨mem_c2 233 rfl rfl, mem_c2 161 rfl rfl, mem_c1 14 rfl rfl, cw_Fr_exponent, ⟨by decide +kernel, by decide +kernel, by decide +kernel⟩, by decide⟩
theorem ls_Sc_68 : LKS "SinkingChoir$Score" 68 Y_Mt_abs_I 1 := ⟨mem_c3 35 rfl rfl, mem_c3 36 rfl rfl, mem_c1 15 rfl rfl, cw_Mt_abs_I, ⟨by decide +kernel, by decide +kernel, by decide +kernel⟩, by decide⟩
theorem ls_M_225 : LKS "SinkingChoirModel" 225 Y_M_plain 1 := ⟨mem_c7 59 rfl rfl, mem_c7 60 rfl rfl, mem_c1 13 rfl rfl, cw_M_plain, ⟨by decide +kernel, by decide +kernel, by decide +kernel⟩, by decide⟩
theorem ls_Wa_67 : LKS "SinkingChoir$Ways" 67 Y_Mt_min 2 := ⟨mem_c3 102 rfl rfl, mem_c3 103 rfl rfl, mem_c1 15 rfl rfl, cw_Mt_min, ⟨by decide +kernel, by decide +kernel, by decide +kernel⟩, by decide⟩
theorem ls_Wa_75 : LKS "SinkingChoir$Ways" 75 Y_Fr_mills 1 := ⟨mem_c3 117 rfl rfl, mem_c2 157 rfl rfl, mem_c1 14 rfl rfl, cw_Fr_mills, ⟨by decide +kernel, by decide +kernel, by decide +kernel⟩, by decide⟩
theorem ls_Wa_91 : LKS "SinkingChoir$Ways" 91 Y_Ar_fill_AI 2 := ⟨mem_c3 119 rfl rfl, mem_c1 38 rfl rfl, mem_c1 3 rfl rfl, cw_Ar_fill_AI, ⟨by decide +kernel, by decide +kernel, by decide +kernel⟩, by decide⟩
theorem ls_Wa_112 : LKS "SinkingChoir$Ways" 112 Y_Mt_abs_I 1 := ⟨mem_c3 149 rfl rfl, mem_c3 36 rfl rfl, mem_c1 15 rfl rfl, cw_Mt_abs_I, ⟨by decide +kernel, by decide +kernel, by decide +kernel⟩, by decide⟩
theorem ls_Wa_109 : LKS "SinkingChoir$Ways" 109 Y_Wa_nearer 2 := ⟨mem_c3 146 rfl rfl, mem_c3 147 rfl rfl, mem_c1 16 rfl rfl, cw_Wa_nearer, ⟨by decide +kernel, by decide +kernel, by decide +kernel⟩, by decide⟩
theorem ls_SL_88 : LKS "java/lang/StringLatin1" 88 Y_SL_canEncode 1 := ⟨mem_c3 238 rfl rfl, mem_c3 239 rfl rfl, mem_c1 18 rfl rfl, cw_SL_canEncode, ⟨by decide +kernel, by decide +kernel, by decide +kernel⟩, by decide⟩
theorem ls_SL_92 : LKS "java/lang/StringLatin1" 92 Y_Mt_max_II 2 := ⟨mem_c4 1 rfl rfl, mem_c4 2 rfl rfl, mem_c1 15 rfl rfl, cw_Mt_max_II, ⟨by decide +kernel, by decide +kernel, by decide +kernel⟩, by decide⟩
theorem ls_SL_38 : LKS "java/lang/StringLatin1" 38 Y_Mt_min 2 := ⟨mem_c4 4 rfl rfl, mem_c3 103 rfl rfl, mem_c1 15 rfl rfl, cw_Mt_min, ⟨by decide +kernel, by decide +kernel, by decide +kernel⟩, by decide⟩
theorem ls_SL_95 : LKS "java/lang/StringLatin1" 95 Y_SL_indexOfChar 4 := ⟨mem_c4 5 rfl rfl, mem_c4 6 rfl rfl, mem_c1 18 rfl rfl, cw_SL_indexOfChar, ⟨by decide +kernel, by decide +kernel, by decide +kernel⟩, by decide⟩
theorem ls_Str_637 : LKS "java/lang/String" 637 Y_SL_indexOf 4 := ⟨mem_c3 235 rfl rfl, mem_c3 236 rfl rfl, mem_c1 18 rfl rfl, cw_SL_indexOf, ⟨by decide +kernel, by decide +kernel, by decide +kernel⟩, by decide⟩
theorem ls_Re_111 : LKS "SinkingChoir$Reader" 111 Y_Re_isDigit 1 := ⟨mem_c4 82 rfl rfl, mem_c4 83 rfl rfl, mem_c1 12 rfl rfl, cw_Re_isDigit, ⟨by decide +kernel, by decide +kernel, by decide +kernel⟩, by decide⟩
theorem ls_Re_69 : LKS "SinkingChoir$Reader" 69 Y_Re_indexIn 2 := ⟨mem_c3 219 rfl rfl, mem_c3 220 rfl rfl, mem_c1 12 rfl rfl, cw_Re_indexIn, ⟨by decide +kernel, by decide +kernel, by decide +kernel⟩, by decide⟩
theorem ls_Re_22 : LKS "SinkingChoir$Reader" 22 Y_Mt_min 2 := ⟨mem_c3 204 rfl rfl, mem_c3 103 rfl rfl, mem_c1 15 rfl rfl, cw_Mt_min, ⟨by decide +kernel, by decide +kernel, by decide +kernel⟩, by decide⟩
theorem ls_M_367 : LKS "SinkingChoirModel" 367 Y_M_isValue 1 := ⟨mem_c7 200 rfl rfl, mem_c7 201 rfl rfl, mem_c1 13 rfl rfl, cw_M_isValue, ⟨by decide +kernel, by decide +kernel, by decide +kernel⟩, by decide⟩
theorem ls_M_352 : LKS "SinkingChoirModel" 352 Y_M_isTimes 1 := ⟨mem_c7 207 rfl rfl, mem_c7 208 rfl rfl, mem_c1 13 rfl rfl, cw_M_isTimes, ⟨by decide +kernel, by decide +kernel, by decide +kernel⟩, by decide⟩
theorem ls_M_355 : LKS "SinkingChoirModel" 355 Y_M_isPlus 1 := ⟨mem_c7 210 rfl rfl, mem_c7 211 rfl rfl, mem_c1 13 rfl rfl, cw_M_isPlus, ⟨by decide +kernel, by decide +kernel, by decide +kernel⟩, by decide⟩
theorem ls_M_387 : LKS "SinkingChoirModel" 387 Y_M_isSign 1 := ⟨mem_c7 229 rfl rfl, mem_c7 230 rfl rfl, mem_c1 13 rfl rfl, cw_M_isSign, ⟨by decide +kernel, by decide +kernel, by decide +kernel⟩, by decide⟩
theorem ls_Ch_78 : LKS "SinkingChoir$Choir" 78 Y_Mt_floorMod 2 := ⟨mem_c4 166 rfl rfl, mem_c4 167 rfl rfl, mem_c1 15 rfl rfl, cw_Mt_floorMod, ⟨by decide +kernel, by decide +kernel, by decide +kernel⟩, by decide⟩
theorem ls_Si_141 : LKS "SinkingChoir$Singing" 141 Y_Sc_cell 2 := ⟨mem_c4 160 rfl rfl, mem_c2 178 rfl rfl, mem_c1 2 rfl rfl, cw_Sc_cell, ⟨by decide +kernel, by decide +kernel, by decide +kernel⟩, by decide⟩
theorem ls_Si_154 : LKS "SinkingChoir$Singing" 154 Y_Mt_abs_I 1 := ⟨mem_c4 184 rfl rfl, mem_c3 36 rfl rfl, mem_c1 15 rfl rfl, cw_Mt_abs_I, ⟨by decide +kernel, by decide +kernel, by decide +kernel⟩, by decide⟩
theorem ls_Si_164 : LKS "SinkingChoir$Singing" 164 Y_Mt_floorDiv 2 := ⟨mem_c4 187 rfl rfl, mem_c4 188 rfl rfl, mem_c1 15 rfl rfl, cw_Mt_floorDiv, ⟨by decide +kernel, by decide +kernel, by decide +kernel⟩, by decide⟩
theorem ls_Pr_53 : LKS "SinkingChoir$Program" 53 Y_Mt_max_II 2 := ⟨mem_c4 199 rfl rfl, mem_c4 2 rfl rfl, mem_c1 15 rfl rfl, cw_Mt_max_II, ⟨by decide +kernel, by decide +kernel, by decide +kernel⟩, by decide⟩
theorem ls_Pr_58 : LKS "SinkingChoir$Program" 58 Y_Pr_reckoned 3 := ⟨mem_c4 200 rfl rfl, mem_c4 201 rfl rfl, mem_c1 5 rfl rfl, cw_Pr_reckoned, ⟨by decide +kernel, by decide +kernel, by decide +kernel⟩, by decide⟩
theorem ls_Pr_39 : LKS "SinkingChoir$Program" 39 Y_Ar_fill_AI 2 := ⟨mem_c4 194 rfl rfl, mem_c1 38 rfl rfl, mem_c1 3 rfl rfl, cw_Ar_fill_AI, ⟨by decide +kernel, by decide +kernel, by decide +kernel⟩, by decide⟩
theorem ls_Pr_49 : LKS "SinkingChoir$Program" 49 Y_Pr_within 2 := ⟨mem_c4 203 rfl rfl, mem_c4 204 rfl rfl, mem_c1 5 rfl rfl, cw_Pr_within, ⟨by decide +kernel, by decide +kernel, by decide +kernel⟩, by decide⟩
theorem ls_Ch_72 : LKS "SinkingChoir$Choir" 72 Y_Mt_abs_I 1 := ⟨mem_c4 213 rfl rfl, mem_c3 36 rfl rfl, mem_c1 15 rfl rfl, cw_Mt_abs_I, ⟨by decide +kernel, by decide +kernel, by decide +kernel⟩, by decide⟩
theorem ls_Si_179 : LKS "SinkingChoir$Singing" 179 Y_Ch_heard 3 := ⟨mem_c4 210 rfl rfl, mem_c4 211 rfl rfl, mem_c1 4 rfl rfl, cw_Ch_heard, ⟨by decide +kernel, by decide +kernel, by decide +kernel⟩, by decide⟩
theorem ls_M_446 : LKS "SinkingChoirModel" 446 Y_M_floor 2 := ⟨mem_c8 53 rfl rfl, mem_c8 54 rfl rfl, mem_c1 13 rfl rfl, cw_M_floor, ⟨by decide +kernel, by decide +kernel, by decide +kernel⟩, by decide⟩
theorem ls_M_453 : LKS "SinkingChoirModel" 453 Y_M_worked 3 := ⟨mem_c8 68 rfl rfl, mem_c8 69 rfl rfl, mem_c1 13 rfl rfl, cw_M_worked, ⟨by decide +kernel, by decide +kernel, by decide +kernel⟩, by decide⟩
theorem ls_M_500 : LKS "SinkingChoirModel" 500 Y_M_has 2 := ⟨mem_c8 24 rfl rfl, mem_c8 25 rfl rfl, mem_c1 13 rfl rfl, cw_M_has, ⟨by decide +kernel, by decide +kernel, by decide +kernel⟩, by decide⟩
theorem ls_Si_192 : LKS "SinkingChoir$Singing" 192 Y_Mt_abs_J 1 := ⟨mem_c5 5 rfl rfl, mem_c5 6 rfl rfl, mem_c1 15 rfl rfl, cw_Mt_abs_J, ⟨by decide +kernel, by decide +kernel, by decide +kernel⟩, by decide⟩
theorem ls_Ch_84 : LKS "SinkingChoir$Choir" 84 Y_Sc_cell 2 := ⟨mem_c5 16 rfl rfl, mem_c2 178 rfl rfl, mem_c1 2 rfl rfl, cw_Sc_cell, ⟨by decide +kernel, by decide +kernel, by decide +kernel⟩, by decide⟩
theorem ls_X_268 : LKS "SinkingChoir" 268 Y_Ch_heard 3 := ⟨mem_c5 56 rfl rfl, mem_c4 211 rfl rfl, mem_c1 4 rfl rfl, cw_Ch_heard, ⟨by decide +kernel, by decide +kernel, by decide +kernel⟩, by decide⟩
theorem ls_St_56 : LKS "SinkingChoir$Standing" 56 Y_Mt_abs_J 1 := ⟨mem_c5 77 rfl rfl, mem_c5 6 rfl rfl, mem_c1 15 rfl rfl, cw_Mt_abs_J, ⟨by decide +kernel, by decide +kernel, by decide +kernel⟩, by decide⟩
theorem ls_Le_76 : LKS "SinkingChoir$Leading" 76 Y_Mt_abs_J 1 := ⟨mem_c5 101 rfl rfl, mem_c5 6 rfl rfl, mem_c1 15 rfl rfl, cw_Mt_abs_J, ⟨by decide +kernel, by decide +kernel, by decide +kernel⟩, by decide⟩
theorem ls_Le_62 : LKS "SinkingChoir$Leading" 62 Y_Mt_max_JJ 2 := ⟨mem_c5 102 rfl rfl, mem_c5 103 rfl rfl, mem_c1 15 rfl rfl, cw_Mt_max_JJ, ⟨by decide +kernel, by decide +kernel, by decide +kernel⟩, by decide⟩
theorem ls_Fi_64 : LKS "SinkingChoir$Fitting" 64 Y_Mt_abs_J 1 := ⟨mem_c5 164 rfl rfl, mem_c5 6 rfl rfl, mem_c1 15 rfl rfl, cw_Mt_abs_J, ⟨by decide +kernel, by decide +kernel, by decide +kernel⟩, by decide⟩
theorem ls_Fi_27 : LKS "SinkingChoir$Fitting" 27 Y_Ar_fill_BJ 2 := ⟨mem_c5 142 rfl rfl, mem_c5 143 rfl rfl, mem_c1 3 rfl rfl, cw_Ar_fill_BJ, ⟨by decide +kernel, by decide +kernel, by decide +kernel⟩, by decide⟩
theorem ls_X_340 : LKS "SinkingChoir" 340 Y_Mt_abs_J 1 := ⟨mem_c5 177 rfl rfl, mem_c5 6 rfl rfl, mem_c1 15 rfl rfl, cw_Mt_abs_J, ⟨by decide +kernel, by decide +kernel, by decide +kernel⟩, by decide⟩
theorem ls_X_327 : LKS "SinkingChoir" 327 Y_In_bitCount 1 := ⟨mem_c5 203 rfl rfl, mem_c5 204 rfl rfl, mem_c1 22 rfl rfl, cw_In_bitCount, ⟨by decide +kernel, by decide +kernel, by decide +kernel⟩, by decide⟩
theorem ls_M_583 : LKS "SinkingChoirModel" 583 Y_M_sizeOf 1 := ⟨mem_c8 206 rfl rfl, mem_c8 207 rfl rfl, mem_c1 13 rfl rfl, cw_M_sizeOf, ⟨by decide +kernel, by decide +kernel, by decide +kernel⟩, by decide⟩
theorem li_Ch_39 : LKI "SinkingChoir$Choir" 39 Y_Pr_init 0 := ⟨Or.inr ⟨_, fun _ _ _ h => h.2.2.2.2.2.1⟩, mem_c1 81 rfl rfl, mem_c1 5 rfl rfl, cw_Pr_init, ⟨by decide +kernel, by decide +kernel, by decide +kernel⟩, by decide, rfl, rfl⟩
theorem li_Re_17 : LKI "SinkingChoir$Reader" 17 Y_Pr_init 0 := ⟨Or.inr ⟨_, fun _ _ _ h => h.2.2.2.2.2.2.2.2⟩, mem_c1 81 rfl rfl, mem_c1 5 rfl rfl, cw_Pr_init, ⟨by decide +kernel, by decide +kernel, by decide +kernel⟩, by decide, rfl, rfl⟩
theorem li_X_9 : LKI "SinkingChoir" 9 Y_Sc_init 0 := ⟨Or.inl (mem_c1 33 rfl rfl), mem_c1 34 rfl rfl, mem_c1 2 rfl rfl, cw_Sc_init, ⟨by decide +kernel, by decide +kernel, by decide +kernel⟩, by decide, rfl, rfl⟩
theorem li_X_18 : LKI "SinkingChoir" 18 Y_Ch_init 1 := ⟨Or.inl (mem_c1 74 rfl rfl), mem_c1 75 rfl rfl, mem_c1 4 rfl rfl, cw_Ch_init, ⟨by decide +kernel, by decide +kernel, by decide +kernel⟩, by decide, rfl, rfl⟩
theorem li_X_27 : LKI "SinkingChoir" 27 Y_Si_init 2 := ⟨Or.inl (mem_c1 173 rfl rfl), mem_c1 174 rfl rfl, mem_c1 6 rfl rfl, cw_Si_init, ⟨by decide +kernel, by decide +kernel, by decide +kernel⟩, by decide, rfl, rfl⟩
theorem li_X_36 : LKI "SinkingChoir" 36 Y_St_init 2 := ⟨Or.inl (mem_c1 239 rfl rfl), mem_c2 0 rfl rfl, mem_c1 8 rfl rfl, cw_St_init, ⟨by decide +kernel, by decide +kernel, by decide +kernel⟩, by decide, rfl, rfl⟩
theorem li_X_45 : LKI "SinkingChoir" 45 Y_Le_init 2 := ⟨Or.inl (mem_c2 30 rfl rfl), mem_c2 31 rfl rfl, mem_c1 9 rfl rfl, cw_Le_init, ⟨by decide +kernel, by decide +kernel, by decide +kernel⟩, by decide, rfl, rfl⟩
theorem li_X_52 : LKI "SinkingChoir" 52 Y_Fi_init 3 := ⟨Or.inl (mem_c2 54 rfl rfl), mem_c2 55 rfl rfl, mem_c1 10 rfl rfl, cw_Fi_init, ⟨by decide +kernel, by decide +kernel, by decide +kernel⟩, by decide, rfl, rfl⟩
theorem li_X_61 : LKI "SinkingChoir" 61 Y_Rl_init 0 := ⟨Or.inr ⟨_, fun _ _ _ h => h.2.2.2.2.2.2.1⟩, mem_c2 77 rfl rfl, mem_c1 11 rfl rfl, cw_Rl_init, ⟨by decide +kernel, by decide +kernel, by decide +kernel⟩, by decide, rfl, rfl⟩
theorem li_X_68 : LKI "SinkingChoir" 68 Y_Re_init 0 := ⟨Or.inr ⟨_, fun _ _ _ h => h.2.2.2.2.2.2.2.1⟩, mem_c2 92 rfl rfl, mem_c1 12 rfl rfl, cw_Re_init, ⟨by decide +kernel, by decide +kernel, by decide +kernel⟩, by decide, rfl, rfl⟩
theorem li_X_336 : LKI "SinkingChoir" 336 Y_Wa_init 1 := ⟨Or.inl (mem_c3 52 rfl rfl), mem_c3 53 rfl rfl, mem_c1 16 rfl rfl, cw_Wa_init, ⟨by decide +kernel, by decide +kernel, by decide +kernel⟩, by decide, rfl, rfl⟩
