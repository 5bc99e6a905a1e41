/-! LAYER 3: every call keeps the invariant, and both answer alike -/
def J (M : Nat) (μ : MM) : Prop := ∃ rn, rn ≤ 220 ∧ INV M rn μ
theorem J.up {M : Nat} {μ : MM} (h : J M μ) : J (M + 1) μ := by
  obtain ⟨rn, hr, p, c, d, t, tc, h1, h2, h3, h4, h5, h6, h7, h8, h9, h10, h11, h12, h13, h14⟩ := h
  exact ⟨rn, hr, p, c, d, t, tc, h1, h2, h3, h4, h5, h6, h7, h8, h9, h10, h11, h12, h13.up, h14⟩
def Rno (_a _k : Nat) : Bool := false
theorem J_p {P : Nat → Nat → Bool} (oc : Off P Ucf) (ot : Off P Ptp) (orr : Off P Ur) (ox : Off P Ux) (ow : Off P Uw) (o31 : P 31 6 = false) {M : Nat} {μ μ2 : MM} (h : J M μ) (r : PRes P μ μ2) : J (M + 1) μ2 := by
  rcases r with rfl | ⟨p', w', x', m', s, v⟩
  · exact h.up
  · obtain ⟨rn, hr, p, c, d, t, tc, h1, h2, h3, h4, h5, h6, h7, h8, h9, h10, h11, h12, h13, h14⟩ := h
    have ag : Ag P Rno μ μ2 := s.ag
    exact ⟨rn, hr, p', c, d, t, tc, s.wf h1, w', x', m', h5, ag.xg' oc h6, ag.mg' oc h7, h8, ag.xr ot h9, ag.mr ot h10, ag.rl orr h11, ag.tx ox rfl rfl s.wf h12, ag.sc1 o31 v h13, ag.wy ow s.1 rfl (fun _ _ => rfl) h14⟩
theorem J_c {P : Nat → Nat → Bool} (op : Off P Up) (ot : Off P Ptp) (orr : Off P Ur) (ox : Off P Ux) (ow : Off P Uw) (o31 : P 31 6 = false) {M : Nat} {μ μ2 : MM} (h : J M μ) (r : CRes P μ μ2) : J (M + 1) μ2 := by
  rcases r with rfl | ⟨c', w', x', m', s, v⟩
  · exact h.up
  · obtain ⟨rn, hr, p, c, d, t, tc, h1, h2, h3, h4, h5, h6, h7, h8, h9, h10, h11, h12, h13, h14⟩ := h
    have ag : Ag P Rno μ μ2 := s.ag
    exact ⟨rn, hr, p, c', d, t, tc, s.wf h1, h2, ag.xp op h3, ag.mp op h4, w', x', m', h8, ag.xr ot h9, ag.mr ot h10, ag.rl orr h11, ag.tx ox rfl rfl s.wf h12, ag.sc1 o31 v h13, ag.wy ow s.1 rfl (fun _ _ => rfl) h14⟩
theorem J_0 {P R : Nat → Nat → Bool} (op : Off P Up) (oc : Off P Ucf) (ot : Off P Ptp) (orr : Off P Ur) (ox : Off P Ux) (ow : Off P Uw) (os : Off P Us) (r1 : R 9 8 = false) (r2 : R 40 1 = false) (r3 : R 0 8 = false) (r4 : ∀ q ∈ RW, R q.1 q.2.1 = false) {M : Nat} {μ μ2 : MM} (h : J M μ) (ag : Ag P R μ μ2) (wf : Wf μ → Wf μ2) (hk : μ2.1 = μ.1) : J (M + 1) μ2 := by
  obtain ⟨rn, hr, p, c, d, t, tc, h1, h2, h3, h4, h5, h6, h7, h8, h9, h10, h11, h12, h13, h14⟩ := h
  exact ⟨rn, hr, p, c, d, t, tc, wf h1, h2, ag.xp op h3, ag.mp op h4, h5, ag.xg' oc h6, ag.mg' oc h7, h8, ag.xr ot h9, ag.mr ot h10, ag.rl orr h11, ag.tx ox r1 r2 wf h12, (ag.sc os h13).up, ag.wy ow hk r3 r4 h14⟩
theorem J_go {M : Nat} {μ μ2 : MM} (h : J M μ) (s : Sm Pgo μ μ2) : J (M + 1) μ2 := J_0 (R := Rno) o_Pgo_Up o_Pgo_Ucf o_Pgo_Ptp o_Pgo_Ur o_Pgo_Ux o_Pgo_Uw o_Pgo_Us rfl rfl rfl (fun _ _ => rfl) h s.ag s.wf s.1
theorem J_rd {M : Nat} {μ μ2 : MM} (h : J M μ) (s : Sm Prd μ μ2) : J (M + 1) μ2 := J_0 (R := Rno) o_Prd_Up o_Prd_Ucf o_Prd_Ptp o_Prd_Ur o_Prd_Ux o_Prd_Uw o_Prd_Us rfl rfl rfl (fun _ _ => rfl) h s.ag s.wf s.1
theorem Sy.k1 {P : Nat → Nat → Bool} {μ μ' : MM} (h : Sy P μ μ') : μ'.1 = μ.1 := by
  obtain ⟨v, s⟩ := h
  exact s.1
theorem R24_RW : ∀ q ∈ RW, R24 q.1 q.2.1 = false := by decide
theorem J_xx {M : Nat} {μ μ2 : MM} (h : J M μ) (s : Sy Pxx μ μ2) : J (M + 1) μ2 := J_0 o_Pxx_Up o_Pxx_Ucf o_Pxx_Ptp o_Pxx_Ur o_Pxx_Ux o_Pxx_Uw o_Pxx_Us rfl rfl rfl R24_RW h s.ag s.wf s.k1
theorem J_lx {M : Nat} {μ μ2 : MM} (h : J M μ) (s : Sy Plx μ μ2) : J (M + 1) μ2 := J_0 o_Plx_Up o_Plx_Ucf o_Plx_Ptp o_Plx_Ur o_Plx_Ux o_Plx_Uw o_Plx_Us rfl rfl rfl R24_RW h s.ag s.wf s.k1
theorem c_note {M : Nat} {μ : MM} (h : J M μ) (x1 x2 x3 x4 x5 : Int32) : ∃ r μ1 μ2, f_X_note 0 x1 x2 x3 x4 x5 μ = some (r, μ1) ∧ f_M_note 49 x1 x2 x3 x4 x5 μ1 = some (r, μ2) ∧ J (M + 1) μ2 := by
  have hJ := h
  obtain ⟨rn, hr, p, c, d, t, tc, h1, h2, h3, h4, h5, h6, h7, h8, h9, h10, h11, h12, h13, h14⟩ := h
  obtain ⟨r, μ1, μ2, e1, e2, res⟩ := note_ok h2 h1 h3 h4 x1 x2 x3 x4 x5
  exact ⟨r, μ1, μ2, e1, e2, J_p o_Pnote_Ucf o_Pnote_Ptp o_Pnote_Ur o_Pnote_Ux o_Pnote_Uw rfl hJ res⟩
theorem c_silent {M : Nat} {μ : MM} (h : J M μ) (x1 x2 : Int32) : ∃ r μ1 μ2, f_X_silent 0 x1 x2 μ = some (r, μ1) ∧ f_M_silent 49 x1 x2 μ1 = some (r, μ2) ∧ J (M + 1) μ2 := by
  have hJ := h
  obtain ⟨rn, hr, p, c, d, t, tc, h1, h2, h3, h4, h5, h6, h7, h8, h9, h10, h11, h12, h13, h14⟩ := h
  obtain ⟨r, μ1, μ2, e1, e2, res⟩ := silent_ok h2 h1 h3 h4 x1 x2
  exact ⟨r, μ1, μ2, e1, e2, J_p o_Pnote_Ucf o_Pnote_Ptp o_Pnote_Ur o_Pnote_Ux o_Pnote_Uw rfl hJ res⟩
theorem c_link {M : Nat} {μ : MM} (h : J M μ) (x1 x2 : Int32) : ∃ r μ1 μ2, f_X_link 0 x1 x2 μ = some (r, μ1) ∧ f_M_link 49 x1 x2 μ1 = some (r, μ2) ∧ J (M + 1) μ2 := by
  have hJ := h
  obtain ⟨rn, hr, p, c, d, t, tc, h1, h2, h3, h4, h5, h6, h7, h8, h9, h10, h11, h12, h13, h14⟩ := h
  obtain ⟨r, μ1, μ2, e1, e2, res⟩ := link_ok h2 h1 h3 h4 x1 x2
  exact ⟨r, μ1, μ2, e1, e2, J_p o_Plk_Ucf o_Plk_Ptp o_Plk_Ur o_Plk_Ux o_Plk_Uw rfl hJ res⟩
theorem c_breath {M : Nat} {μ : MM} (h : J M μ) (x1 x2 : Int32) (y : Bool) : ∃ r μ1 μ2, f_X_breath 0 x1 x2 (bi y) μ = some (r, μ1) ∧ f_M_breath 49 x1 x2 (bi y) μ1 = some (r, μ2) ∧ J (M + 1) μ2 := by
  have hJ := h
  obtain ⟨rn, hr, p, c, d, t, tc, h1, h2, h3, h4, h5, h6, h7, h8, h9, h10, h11, h12, h13, h14⟩ := h
  obtain ⟨r, μ1, μ2, e1, e2, res⟩ := breath_ok h2 h1 h3 h4 x1 x2 y
  exact ⟨r, μ1, μ2, e1, e2, J_p o_Pbr_Ucf o_Pbr_Ptp o_Pbr_Ur o_Pbr_Ux o_Pbr_Uw rfl hJ res⟩
theorem c_keynote {M : Nat} {μ : MM} (h : J M μ) (x1 x2 : Int32) : ∃ r μ2, f_X_keynote 0 x1 x2 μ = some r ∧ f_M_keynote 49 x1 x2 μ = some (r, μ2) ∧ J (M + 1) μ2 := by
  have hJ := h
  obtain ⟨rn, hr, p, c, d, t, tc, h1, h2, h3, h4, h5, h6, h7, h8, h9, h10, h11, h12, h13, h14⟩ := h
  obtain ⟨r, μ2, e1, e2, res⟩ := keynote_ok h2 h1 h3 h4 x1 x2
  exact ⟨r, μ2, e1, e2, J_go hJ res⟩
theorem c_sink {M : Nat} {μ : MM} (h : J M μ) (x1 : Int32) : ∃ r μ2, f_X_sink 0 x1 μ = some r ∧ f_M_sink 49 x1 μ = some (r, μ2) ∧ J (M + 1) μ2 := by
  have hJ := h
  obtain ⟨rn, hr, p, c, d, t, tc, h1, h2, h3, h4, h5, h6, h7, h8, h9, h10, h11, h12, h13, h14⟩ := h
  obtain ⟨r, μ2, e1, e2, res⟩ := sink_ok h2 h1 h3 h4 x1
  exact ⟨r, μ2, e1, e2, J_go hJ res⟩
theorem c_torn {M : Nat} {μ : MM} (h : J M μ) (x1 x2 : Int32) : ∃ r, f_X_torn 0 x1 x2 μ = some r ∧ f_M_torn 49 x1 x2 μ = some r := by
  obtain ⟨rn, hr, p, c, d, t, tc, h1, h2, h3, h4, h5, h6, h7, h8, h9, h10, h11, h12, h13, h14⟩ := h
  exact torn_ok h2 h1 h3 h4 x1 x2
theorem c_size {M : Nat} {μ : MM} (h : J M μ) (x1 x2 : Int32) : ∃ r, f_X_size 0 x1 x2 μ = some r ∧ f_M_size 49 x1 x2 μ = some r := by
  obtain ⟨rn, hr, p, c, d, t, tc, h1, h2, h3, h4, h5, h6, h7, h8, h9, h10, h11, h12, h13, h14⟩ := h
  exact size_ok h1 x1 x2
theorem c_seed {M : Nat} {μ : MM} (h : J M μ) (x1 : Int32) : ∃ r μ1 μ2, f_X_seed 0 x1 μ = some (r, μ1) ∧ f_M_seed 49 x1 μ1 = some (r, μ2) ∧ J (M + 1) μ2 := by
  have hJ := h
  obtain ⟨rn, hr, p, c, d, t, tc, h1, h2, h3, h4, h5, h6, h7, h8, h9, h10, h11, h12, h13, h14⟩ := h
  obtain ⟨r, μ1, μ2, e1, e2, res⟩ := seed_ok h1 h5 h6 h7 x1
  exact ⟨r, μ1, μ2, e1, e2, J_c o_Pcf_Up o_Pcf_Ptp o_Pcf_Ur o_Pcf_Ux o_Pcf_Uw rfl hJ res⟩
theorem c_blown {M : Nat} {μ : MM} (h : J M μ) (x1 : Int32) : ∃ r μ1 μ2, f_X_blown 0 x1 μ = some (r, μ1) ∧ f_M_blown 49 x1 μ1 = some (r, μ2) ∧ J (M + 1) μ2 := by
  have hJ := h
  obtain ⟨rn, hr, p, c, d, t, tc, h1, h2, h3, h4, h5, h6, h7, h8, h9, h10, h11, h12, h13, h14⟩ := h
  obtain ⟨r, μ1, μ2, e1, e2, res⟩ := blown_ok h1 h5 h6 h7 x1
  exact ⟨r, μ1, μ2, e1, e2, J_c o_Pcf_Up o_Pcf_Ptp o_Pcf_Ur o_Pcf_Ux o_Pcf_Uw rfl hJ res⟩
theorem c_given {M : Nat} {μ : MM} (h : J M μ) (x1 : Int32) : ∃ r μ1 μ2, f_X_given 0 x1 μ = some (r, μ1) ∧ f_M_given 49 x1 μ1 = some (r, μ2) ∧ J (M + 1) μ2 := by
  have hJ := h
  obtain ⟨rn, hr, p, c, d, t, tc, h1, h2, h3, h4, h5, h6, h7, h8, h9, h10, h11, h12, h13, h14⟩ := h
  obtain ⟨r, μ1, μ2, e1, e2, res⟩ := given_ok h1 h5 h6 h7 x1
  exact ⟨r, μ1, μ2, e1, e2, J_c o_Pcf_Up o_Pcf_Ptp o_Pcf_Ur o_Pcf_Ux o_Pcf_Uw rfl hJ res⟩
theorem c_table {M : Nat} {μ : MM} (h : J M μ) (x1 x2 : Int32) : ∃ r μ1 μ2, f_X_table 0 x1 x2 μ = some (r, μ1) ∧ f_M_table 49 x1 x2 μ1 = some (r, μ2) ∧ J (M + 1) μ2 := by
  have hJ := h
  obtain ⟨rn, hr, p, c, d, t, tc, h1, h2, h3, h4, h5, h6, h7, h8, h9, h10, h11, h12, h13, h14⟩ := h
  obtain ⟨r, μ1, μ2, e1, e2, res⟩ := table_ok h1 h5 h6 h7 x1 x2
  exact ⟨r, μ1, μ2, e1, e2, J_c o_Pcf_Up o_Pcf_Ptp o_Pcf_Ur o_Pcf_Ux o_Pcf_Uw rfl hJ res⟩
theorem c_place {M : Nat} {μ : MM} (h : J M μ) (x1 x2 : Int32) : ∃ r μ1 μ2, f_X_place 0 x1 x2 μ = some (r, μ1) ∧ f_M_place 49 x1 x2 μ1 = some (r, μ2) ∧ J (M + 1) μ2 := by
  have hJ := h
  obtain ⟨rn, hr, p, c, d, t, tc, h1, h2, h3, h4, h5, h6, h7, h8, h9, h10, h11, h12, h13, h14⟩ := h
  obtain ⟨r, μ1, μ2, e1, e2, res⟩ := place_ok h1 h5 h6 h7 x1 x2
  exact ⟨r, μ1, μ2, e1, e2, J_c o_Pcf_Up o_Pcf_Ptp o_Pcf_Ur o_Pcf_Ux o_Pcf_Uw rfl hJ res⟩
theorem c_singer {M : Nat} {μ : MM} (h : J M μ) (x1 x2 x3 x4 : Int32) : ∃ r μ1 μ2, f_X_singer 0 x1 x2 x3 x4 μ = some (r, μ1) ∧ f_M_singer 49 x1 x2 x3 x4 μ1 = some (r, μ2) ∧ J (M + 1) μ2 := by
  have hJ := h
  obtain ⟨rn, hr, p, c, d, t, tc, h1, h2, h3, h4, h5, h6, h7, h8, h9, h10, h11, h12, h13, h14⟩ := h
  obtain ⟨r, μ1, μ2, e1, e2, res⟩ := singer_ok h1 h5 h6 h7 x1 x2 x3 x4
  exact ⟨r, μ1, μ2, e1, e2, J_c o_Pcf_Up o_Pcf_Ptp o_Pcf_Ur o_Pcf_Ux o_Pcf_Uw rfl hJ res⟩
theorem c_hears {M : Nat} {μ : MM} (h : J M μ) (x1 x2 : Int32) : ∃ r μ2, f_X_hears 0 x1 x2 μ = some r ∧ f_M_hears 49 x1 x2 μ = some (r, μ2) ∧ J (M + 1) μ2 := by
  have hJ := h
  obtain ⟨rn, hr, p, c, d, t, tc, h1, h2, h3, h4, h5, h6, h7, h8, h9, h10, h11, h12, h13, h14⟩ := h
  obtain ⟨r, μ2, e1, e2, res⟩ := hears_ok h1 h5 h6 h7 x1 x2
  exact ⟨r, μ2, e1, e2, J_rd hJ res⟩
theorem c_worst {M : Nat} {μ : MM} (h : J M μ) : ∃ r μ2, f_X_worst 0 μ = some r ∧ f_M_worst 49 μ = some (r, μ2) ∧ J (M + 1) μ2 := by
  have hJ := h
  obtain ⟨rn, hr, p, c, d, t, tc, h1, h2, h3, h4, h5, h6, h7, h8, h9, h10, h11, h12, h13, h14⟩ := h
  obtain ⟨r, μ2, e1, e2, res⟩ := worst_ok h1 h5 h6 h7 h2 h3 h4
  exact ⟨r, μ2, e1, e2, J_rd hJ res⟩
theorem c_pitch {M : Nat} {μ : MM} (h : J M μ) (x1 x2 : Int32) : ∃ r μ1 μ2, f_X_pitch 0 x1 x2 μ = some (r, μ1) ∧ f_M_pitch 49 x1 x2 μ1 = some (r, μ2) ∧ J (M + 1) μ2 := by
  have hJ := h
  obtain ⟨rn, hr, p, c, d, t, tc, h1, h2, h3, h4, h5, h6, h7, h8, h9, h10, h11, h12, h13, h14⟩ := h
  obtain ⟨r, μ1, μ2, e1, e2, res⟩ := pitch_ok h5 h2 h1 h6 h7 h3 h4 h12.1.xs x1 x2
  exact ⟨r, μ1, μ2, e1, e2, J_xx hJ res⟩
theorem c_beat {M : Nat} {μ : MM} (h : J M μ) (x1 x2 : Int32) : ∃ r μ1 μ2, f_X_beat 0 x1 x2 μ = some (r, μ1) ∧ f_M_beat 49 x1 x2 μ1 = some (r, μ2) ∧ J (M + 1) μ2 := by
  have hJ := h
  obtain ⟨rn, hr, p, c, d, t, tc, h1, h2, h3, h4, h5, h6, h7, h8, h9, h10, h11, h12, h13, h14⟩ := h
  obtain ⟨r, μ1, μ2, e1, e2, res⟩ := beat_ok h5 h2 h1 h6 h7 h3 h4 h12.1.xs x1 x2
  exact ⟨r, μ1, μ2, e1, e2, J_xx hJ res⟩
theorem c_sunk {M : Nat} {μ : MM} (h : J M μ) (x1 : Int32) : ∃ r μ1 μ2, f_X_sunk 0 x1 μ = some (r, μ1) ∧ f_M_sunk 49 x1 μ1 = some (r, μ2) ∧ J (M + 1) μ2 := by
  have hJ := h
  obtain ⟨rn, hr, p, c, d, t, tc, h1, h2, h3, h4, h5, h6, h7, h8, h9, h10, h11, h12, h13, h14⟩ := h
  obtain ⟨r, μ1, μ2, e1, e2, res⟩ := sunk_ok h5 h2 h1 h6 h7 h3 h4 h12.1.xs x1
  exact ⟨r, μ1, μ2, e1, e2, J_xx hJ res⟩
theorem c_knows {M : Nat} {μ : MM} (h : J M μ) : ∃ r μ1 μ2, f_X_knows 0 μ = some (r, μ1) ∧ f_M_knows 49 μ1 = some (r, μ2) ∧ J (M + 1) μ2 := by
  have hJ := h
  obtain ⟨rn, hr, p, c, d, t, tc, h1, h2, h3, h4, h5, h6, h7, h8, h9, h10, h11, h12, h13, h14⟩ := h
  obtain ⟨r, μ1, μ2, e1, e2, res⟩ := knows_ok h5 h2 h1 h6 h7 h3 h4 h12.1.xs 
  exact ⟨r, μ1, μ2, e1, e2, J_xx hJ res⟩
theorem c_mind {M : Nat} {μ : MM} (h : J M μ) (x1 x2 x3 : Int32) : ∃ r μ1 μ2, f_X_mind 0 x1 x2 x3 μ = some (r, μ1) ∧ f_M_mind 49 x1 x2 x3 μ1 = some (r, μ2) ∧ J (M + 1) μ2 := by
  have hJ := h
  obtain ⟨rn, hr, p, c, d, t, tc, h1, h2, h3, h4, h5, h6, h7, h8, h9, h10, h11, h12, h13, h14⟩ := h
  obtain ⟨r, μ1, μ2, e1, e2, res⟩ := mind_ok h5 h2 h1 h6 h7 h3 h4 h12.1.xs x1 x2 x3
  exact ⟨r, μ1, μ2, e1, e2, J_xx hJ res⟩
theorem c_fit {M : Nat} {μ : MM} (h : J M μ) (x1 x2 : Int32) : ∃ r μ1 μ2, f_X_fit 0 x1 x2 μ = some (r, μ1) ∧ f_M_fit 49 x1 x2 μ1 = some (r, μ2) ∧ J (M + 1) μ2 := by
  have hJ := h
  obtain ⟨rn, hr, p, c, d, t, tc, h1, h2, h3, h4, h5, h6, h7, h8, h9, h10, h11, h12, h13, h14⟩ := h
  obtain ⟨r, μ1, μ2, e1, e2, res⟩ := fit_ok h5 h2 h8 h1 h6 h7 h3 h4 h12.1.xs h9 h10 x1 x2
  exact ⟨r, μ1, μ2, e1, e2, J_xx hJ res⟩
theorem c_leader {M : Nat} {μ : MM} (h : J M μ) (x1 x2 : Int32) : ∃ r μ1 μ2, f_X_leader 0 x1 x2 μ = some (r, μ1) ∧ f_M_leader 49 x1 x2 μ1 = some (r, μ2) ∧ J (M + 1) μ2 := by
  have hJ := h
  obtain ⟨rn, hr, p, c, d, t, tc, h1, h2, h3, h4, h5, h6, h7, h8, h9, h10, h11, h12, h13, h14⟩ := h
  obtain ⟨r, μ1, μ2, e1, e2, res⟩ := leader_ok h5 h2 h1 h6 h7 h3 h4 h12.1.xs x1 x2
  exact ⟨r, μ1, μ2, e1, e2, J_lx hJ res⟩
theorem c_feed {M : Nat} {μ : MM} (h : J M μ) (x1 x2 x3 x4 x5 : Int32) : ∃ r μ1 μ2, f_X_feed 0 x1 x2 x3 x4 x5 μ = some (r, μ1) ∧ f_M_feed 49 x1 x2 x3 x4 x5 μ1 = some (r, μ2) ∧ J (M + 1) μ2 := by
  obtain ⟨rn, hr, p, c, d, t, tc, h1, h2, h3, h4, h5, h6, h7, h8, h9, h10, h11, h12, h13, h14⟩ := h
  obtain ⟨r, μ1, μ2, e1, e2, s, n', hn, rl⟩ := feed_ok h1 hr h11 x1 x2 x3 x4 x5
  have ag : Ag Prl Rno μ μ2 := s.ag
  exact ⟨r, μ1, μ2, e1, e2, n', hn, p, c, d, t, tc, s.wf h1, h2, ag.xp o_Prl_Up h3, ag.mp o_Prl_Up h4, h5, ag.xg' o_Prl_Ucf h6, ag.mg' o_Prl_Ucf h7, h8, ag.xr o_Prl_Ptp h9, ag.mr o_Prl_Ptp h10, rl, ag.tx o_Prl_Ux rfl rfl s.wf h12, (ag.sc o_Prl_Us h13).up, ag.wy o_Prl_Uw s.1 rfl (fun _ _ => rfl) h14⟩
theorem c_tape {M : Nat} {μ : MM} (h : J M μ) (x1 x2 x3 : Int32) : ∃ r μ1 μ2, f_X_tape 0 x1 x2 x3 μ = some (r, μ1) ∧ f_M_tape 49 x1 x2 x3 μ1 = some (r, μ2) ∧ J (M + 1) μ2 := by
  obtain ⟨rn, hr, p, c, d, t, tc, h1, h2, h3, h4, h5, h6, h7, h8, h9, h10, h11, h12, h13, h14⟩ := h
  obtain ⟨r, μ1, μ2, e1, e2, s, d', g1, g2, g3⟩ := tape_ok h1 h5 h6 h7 h8 h9 h10 x1 x2 x3
  have ag : Ag Ptp Rno μ μ2 := s.ag
  exact ⟨r, μ1, μ2, e1, e2, rn, hr, p, c, d', t, tc, s.wf h1, h2, ag.xp o_Ptp_Up h3, ag.mp o_Ptp_Up h4, h5, ag.xg' o_Ptp_Ucf h6, ag.mg' o_Ptp_Ucf h7, g1, g2, g3, ag.rl o_Ptp_Ur h11, ag.tx o_Ptp_Ux rfl rfl s.wf h12, (ag.sc o_Ptp_Us h13).up, ag.wy o_Ptp_Uw s.1 rfl (fun _ _ => rfl) h14⟩
theorem c_check {M : Nat} {μ : MM} (h : J M μ) (x1 : Int32) : ∃ r μ1 μ2, f_X_check 0 x1 μ = some (r, μ1) ∧ f_M_check 49 x1 μ1 = some (r, μ2) ∧ J (M + 1) μ2 := by
  obtain ⟨rn, hr, p, c, d, t, tc, h1, h2, h3, h4, h5, h6, h7, h8, h9, h10, h11, h12, h13, h14⟩ := h
  obtain ⟨r, μ1, μ2, e1, e2, s, n', hn, rl⟩ := check_ok h5 h2 h1 h6 h7 h3 h4 h12.1.xs hr h11 x1
  have ag : Ag Pck R24 μ μ2 := s.ag
  exact ⟨r, μ1, μ2, e1, e2, n', hn, p, c, d, t, tc, s.wf h1, h2, ag.xp o_Pck_Up h3, ag.mp o_Pck_Up h4, h5, ag.xg' o_Pck_Ucf h6, ag.mg' o_Pck_Ucf h7, h8, ag.xr o_Pck_Ptp h9, ag.mr o_Pck_Ptp h10, rl, ag.tx o_Pck_Ux rfl rfl s.wf h12, (ag.sc o_Pck_Us h13).up, ag.wy o_Pck_Uw s.k1 rfl R24_RW h14⟩
theorem c_standing {M : Nat} {μ : MM} (h : J M μ) (hM : M < 1000000) (x1 : Int32) : ∃ r μ1 μ2, f_X_standing 0 x1 μ = some (r, μ1) ∧ f_M_standing 49 x1 μ1 = some (r, μ2) ∧ J (M + 1) μ2 := by
  obtain ⟨rn, hr, p, c, d, t, tc, h1, h2, h3, h4, h5, h6, h7, h8, h9, h10, h11, h12, h13, h14⟩ := h
  obtain ⟨r, μ1, μ2, e1, e2, s, sc⟩ := stand_ok h5 h2 h1 h6 h7 h3 h4 h12.1.xs hM h13 x1
  have ag : Ag Psx R24 μ μ2 := s.ag
  exact ⟨r, μ1, μ2, e1, e2, rn, hr, p, c, d, t, tc, s.wf h1, h2, ag.xp o_Psx_Up h3, ag.mp o_Psx_Up h4, h5, ag.xg' o_Psx_Ucf h6, ag.mg' o_Psx_Ucf h7, h8, ag.xr o_Psx_Ptp h9, ag.mr o_Psx_Ptp h10, ag.rl o_Psx_Ur h11, ag.tx o_Psx_Ux rfl rfl s.wf h12, sc.up, ag.wy o_Psx_Uw s.k1 rfl R24_RW h14⟩
theorem c_count {M : Nat} {μ : MM} (h : J M μ) (x1 : Int32) : ∃ r, f_X_count 0 x1 μ = some r ∧ f_M_count 49 x1 μ = some r := by
  obtain ⟨rn, hr, p, c, d, t, tc, h1, h2, h3, h4, h5, h6, h7, h8, h9, h10, h11, h12, h13, h14⟩ := h
  obtain ⟨a, pr, ra, xa⟩ := h12.1.1
  exact count_ok h5 h1 h6 h7 h3 h4 h11 ⟨a, ra, pr, xa.1.trans h12.1.2.1.symm⟩ x1
theorem c_way {M : Nat} {μ : MM} (h : J M μ) (x1 : Int32) : ∃ r μ1 μ2, f_X_way 0 x1 μ = some (r, μ1) ∧ f_M_way 49 x1 μ1 = some (r, μ2) ∧ J (M + 1) μ2 := by
  obtain ⟨rn, hr, p, c, d, t, tc, h1, h2, h3, h4, h5, h6, h7, h8, h9, h10, h11, h12, h13, h14⟩ := h
  obtain ⟨r, μ1, μ2, e1, e2, s, w2, y2⟩ := way_ok h2 (x1 := x1) h1 h3.1 h4 h14
  have ag : Ag Pzz R08 μ μ2 := s.ag
  exact ⟨r, μ1, μ2, e1, e2, rn, hr, p, c, d, t, tc, w2, h2, ag.xp o_Pzz_Up h3, ag.mp o_Pzz_Up h4, h5, ag.xg' o_Pzz_Ucf h6, ag.mg' o_Pzz_Ucf h7, h8, ag.xr o_Pzz_Ptp h9, ag.mr o_Pzz_Ptp h10, ag.rl o_Pzz_Ur h11, ag.tx o_Pzz_Ux rfl rfl (fun _ => w2) h12, (ag.sc o_Pzz_Us h13).up, y2⟩
theorem c_change {M : Nat} {μ : MM} (h : J M μ) (x1 : Int32) : ∃ r μ1 μ2, f_X_change 0 x1 μ = some (r, μ1) ∧ f_M_change 49 x1 μ1 = some (r, μ2) ∧ J (M + 1) μ2 := by
  obtain ⟨rn, hr, p, c, d, t, tc, h1, h2, h3, h4, h5, h6, h7, h8, h9, h10, h11, h12, h13, h14⟩ := h
  obtain ⟨r, μ1, μ2, e1, e2, s, w2, y2⟩ := change_ok h2 (x1 := x1) h1 h3.1 h4 h14
  have ag : Ag Pzz R08 μ μ2 := s.ag
  exact ⟨r, μ1, μ2, e1, e2, rn, hr, p, c, d, t, tc, w2, h2, ag.xp o_Pzz_Up h3, ag.mp o_Pzz_Up h4, h5, ag.xg' o_Pzz_Ucf h6, ag.mg' o_Pzz_Ucf h7, h8, ag.xr o_Pzz_Ptp h9, ag.mr o_Pzz_Ptp h10, ag.rl o_Pzz_Ur h11, ag.tx o_Pzz_Ux rfl rfl (fun _ => w2) h12, (ag.sc o_Pzz_Us h13).up, y2⟩
theorem c_bounded {M : Nat} {μ : MM} (h : J M μ) (x1 : Int32) : ∃ r μ1 μ2, f_X_bounded 0 x1 μ = some (r, μ1) ∧ f_M_bounded 49 x1 μ1 = some (r, μ2) ∧ J (M + 1) μ2 := by
  obtain ⟨rn, hr, p, c, d, t, tc, h1, h2, h3, h4, h5, h6, h7, h8, h9, h10, h11, h12, h13, h14⟩ := h
  obtain ⟨r, μ1, μ2, e1, e2, s, w2, y2⟩ := bounded_ok h2 (x1 := x1) h1 h3.1 h4 h14
  have ag : Ag Pzz R08 μ μ2 := s.ag
  exact ⟨r, μ1, μ2, e1, e2, rn, hr, p, c, d, t, tc, w2, h2, ag.xp o_Pzz_Up h3, ag.mp o_Pzz_Up h4, h5, ag.xg' o_Pzz_Ucf h6, ag.mg' o_Pzz_Ucf h7, h8, ag.xr o_Pzz_Ptp h9, ag.mr o_Pzz_Ptp h10, ag.rl o_Pzz_Ur h11, ag.tx o_Pzz_Ux rfl rfl (fun _ => w2) h12, (ag.sc o_Pzz_Us h13).up, y2⟩
theorem c_text {M : Nat} {μ : MM} (h : J M μ) (x1 : Int32) : ∃ r μ1 μ2, f_X_text 0 x1 μ = some (r, μ1) ∧ f_M_text 49 x1 μ1 = some (r, μ2) ∧ J (M + 1) μ2 := by
  have hJ := h
  obtain ⟨rn, hr, p, c, d, t, tc, h1, h2, h3, h4, h5, h6, h7, h8, h9, h10, h11, h12, h13, h14⟩ := h
  obtain ⟨r, μ1, μ2, e1, e2, res⟩ := text_ok h1 h12 h11 hr x1
  refine ⟨r, μ1, μ2, e1, e2, ?_⟩
  rcases res with rfl | ⟨s, rl, t', c', tx, res⟩
  · exact hJ.up
  · have ag : Ag Ptt Rtt μ μ2 := s.ag
    have w2 : Wf μ2 := s.wf Rtt_RL h1
    have sc : SC (twt t' c') c p (M + 1) μ2 := by
      rcases res with ⟨rfl, rfl, v⟩ | v
      · obtain ⟨m, f, g1, g2, g3, g4, g5, g6⟩ := h13
        refine ⟨m, f, by omega, v.trans g2, (ag.1 31 6 (o_Ptt_Ut 31 6 rfl)).1.trans g3, g4, g5, fun e => ?_⟩
        obtain ⟨k1, k2, k3, k4⟩ := g6 e
        refine ⟨k1, k2, k3, ?_⟩
        unfold XB2
        rw [(ag.1 31 4 (o_Ptt_Ut 31 4 rfl)).2, (ag.1 31 5 (o_Ptt_Ut 31 5 rfl)).2, ag.agI 33 (fun k => o_Ptt_Ut 33 k rfl)]; exact k4
      · exact ag.sc1 (o_Ptt_Ut 31 6 rfl) v h13
    exact ⟨0, by omega, p, c, d, t', c', w2, h2, ag.xp o_Ptt_Up h3, ag.mp o_Ptt_Up h4, h5, ag.xg' o_Ptt_Ucf h6, ag.mg' o_Ptt_Ucf h7, h8, ag.xr o_Ptt_Ptp h9, ag.mr o_Ptt_Ptp h10, rl, tx, sc, ag.wy o_Ptt_Uw s.1 rfl Rtt_RW h14⟩
