/-! LAYER 3: which cells which call leaves alone -/
def Ucf (a k : Nat) : Bool := (a == 9 && (k == 9 || k == 10 || k == 11 || k == 12)) || a == 10 || a == 11 || a == 12 || a == 13 || a == 16 || a == 63 || a == 64 || a == 65 || a == 66 || a == 67 || (a == 49 && (k == 18 || k == 19 || k == 20 || k == 21))
def Ut (a k : Nat) : Bool := (a == 31 && (k == 4 || k == 5 || k == 6)) || a == 33
theorem Ag.xg' {P R : Nat → Nat → Bool} {μ μ' : MM} {c : CT} (h : Ag P R μ μ') (o : Off P Ucf) (x : XG c μ) : XG c μ' := by
  unfold XG
  rw [(h.1 9 9 (o 9 9 rfl)).1, (h.1 9 10 (o 9 10 rfl)).1, (h.1 9 11 (o 9 11 rfl)).1, (h.1 9 12 (o 9 12 rfl)).1, h.agI 10 (fun k => o 10 k rfl), h.agI 11 (fun k => o 11 k rfl), h.agI 12 (fun k => o 12 k rfl), h.agI 13 (fun k => o 13 k rfl), h.agI 16 (fun k => o 16 k rfl)]; exact x
theorem Ag.mg' {P R : Nat → Nat → Bool} {μ μ' : MM} {c : CT} (h : Ag P R μ μ') (o : Off P Ucf) (x : MG c μ) : MG c μ' := by
  unfold MG
  rw [(h.1 49 18 (o 49 18 rfl)).1, (h.1 49 19 (o 49 19 rfl)).1, (h.1 49 20 (o 49 20 rfl)).1, (h.1 49 21 (o 49 21 rfl)).1, h.agI 63 (fun k => o 63 k rfl), h.agI 64 (fun k => o 64 k rfl), h.agI 65 (fun k => o 65 k rfl), h.agI 66 (fun k => o 66 k rfl), h.agI 67 (fun k => o 67 k rfl)]; exact x
theorem Up_c {a k : Nat} (h : Up a k = true) : a = 2 ∨ a = 3 ∨ a = 4 ∨ a = 5 ∨ a = 6 ∨ a = 7 ∨ a = 8 ∨ a = 51 ∨ a = 52 ∨ a = 53 ∨ a = 54 ∨ a = 55 ∨ a = 56 := by
  simp only [Up, Bool.or_eq_true, Bool.and_eq_true, decide_eq_true_eq] at h
  omega
theorem Ucf_c {a k : Nat} (h : Ucf a k = true) : (a = 9 ∧ (k = 9 ∨ k = 10 ∨ k = 11 ∨ k = 12)) ∨ (a = 49 ∧ (k = 18 ∨ k = 19 ∨ k = 20 ∨ k = 21)) ∨ a = 10 ∨ a = 11 ∨ a = 12 ∨ a = 13 ∨ a = 16 ∨ a = 63 ∨ a = 64 ∨ a = 65 ∨ a = 66 ∨ a = 67 := by
  simp only [Ucf, Bool.or_eq_true, Bool.and_eq_true, beq_iff_eq] at h
  omega
theorem Ptp_c {a k : Nat} (h : Ptp a k = true) : a = 14 ∨ a = 15 ∨ a = 90 ∨ a = 91 := by
  simp only [Ptp, Bool.or_eq_true, beq_iff_eq] at h
  omega
theorem Ur_c {a k : Nat} (h : Ur a k = true) : (a = 38 ∧ k = 1) ∨ (a = 49 ∧ k = 1) ∨ a = 39 ∨ a = 50 := by
  simp only [Ur, Bool.or_eq_true, Bool.and_eq_true, beq_iff_eq] at h
  omega
theorem Ux_c {a k : Nat} (h : Ux a k = true) : (a = 49 ∧ k = 27) ∨ a = 17 ∨ a = 18 ∨ a = 19 ∨ a = 21 ∨ a = 22 ∨ a = 23 ∨ a = 42 ∨ a = 43 ∨ a = 44 ∨ a = 46 ∨ a = 47 ∨ a = 48 ∨ a = 68 ∨ a = 69 ∨ a = 70 ∨ a = 71 ∨ a = 72 ∨ a = 73 := by
  simp only [Ux, tcl, Bool.or_eq_true, Bool.and_eq_true, beq_iff_eq] at h
  omega
theorem Uw_c {a k : Nat} (h : Uw a k = true) : a = 97 := by
  simp only [Uw, beq_iff_eq] at h
  exact h
theorem Us_c {a k : Nat} (h : Us a k = true) : (a = 0 ∧ k = 9) ∨ (a = 31 ∧ (k = 4 ∨ k = 5 ∨ k = 6)) ∨ a = 33 := by
  simp only [Us, Bool.or_eq_true, Bool.and_eq_true, beq_iff_eq] at h
  omega
theorem Ut_c {a k : Nat} (h : Ut a k = true) : (a = 31 ∧ (k = 4 ∨ k = 5 ∨ k = 6)) ∨ a = 33 := by
  simp only [Ut, Bool.or_eq_true, Bool.and_eq_true, beq_iff_eq] at h
  omega
theorem o_Pnote_Ucf : Off Pnote Ucf := fun a k h => by
  rcases Ucf_c h with ⟨rfl, rfl | rfl | rfl | rfl⟩ | ⟨rfl, rfl | rfl | rfl | rfl⟩ | rfl | rfl | rfl | rfl | rfl | rfl | rfl | rfl | rfl | rfl <;> rfl
theorem o_Pnote_Ptp : Off Pnote Ptp := fun a k h => by
  rcases Ptp_c h with rfl | rfl | rfl | rfl <;> rfl
theorem o_Pnote_Ur : Off Pnote Ur := fun a k h => by
  rcases Ur_c h with ⟨rfl, rfl⟩ | ⟨rfl, rfl⟩ | rfl | rfl <;> rfl
theorem o_Pnote_Ux : Off Pnote Ux := fun a k h => by
  rcases Ux_c h with ⟨rfl, rfl⟩ | rfl | rfl | rfl | rfl | rfl | rfl | rfl | rfl | rfl | rfl | rfl | rfl | rfl | rfl | rfl | rfl | rfl | rfl <;> rfl
theorem o_Pnote_Uw : Off Pnote Uw := fun a k h => by
  have := Uw_c h
  subst this
  rfl
theorem o_Pbr_Ucf : Off Pbr Ucf := fun a k h => by
  rcases Ucf_c h with ⟨rfl, rfl | rfl | rfl | rfl⟩ | ⟨rfl, rfl | rfl | rfl | rfl⟩ | rfl | rfl | rfl | rfl | rfl | rfl | rfl | rfl | rfl | rfl <;> rfl
theorem o_Pbr_Ptp : Off Pbr Ptp := fun a k h => by
  rcases Ptp_c h with rfl | rfl | rfl | rfl <;> rfl
theorem o_Pbr_Ur : Off Pbr Ur := fun a k h => by
  rcases Ur_c h with ⟨rfl, rfl⟩ | ⟨rfl, rfl⟩ | rfl | rfl <;> rfl
theorem o_Pbr_Ux : Off Pbr Ux := fun a k h => by
  rcases Ux_c h with ⟨rfl, rfl⟩ | rfl | rfl | rfl | rfl | rfl | rfl | rfl | rfl | rfl | rfl | rfl | rfl | rfl | rfl | rfl | rfl | rfl | rfl <;> rfl
theorem o_Pbr_Uw : Off Pbr Uw := fun a k h => by
  have := Uw_c h
  subst this
  rfl
theorem o_Plk_Ucf : Off Plk Ucf := fun a k h => by
  rcases Ucf_c h with ⟨rfl, rfl | rfl | rfl | rfl⟩ | ⟨rfl, rfl | rfl | rfl | rfl⟩ | rfl | rfl | rfl | rfl | rfl | rfl | rfl | rfl | rfl | rfl <;> rfl
theorem o_Plk_Ptp : Off Plk Ptp := fun a k h => by
  rcases Ptp_c h with rfl | rfl | rfl | rfl <;> rfl
theorem o_Plk_Ur : Off Plk Ur := fun a k h => by
  rcases Ur_c h with ⟨rfl, rfl⟩ | ⟨rfl, rfl⟩ | rfl | rfl <;> rfl
theorem o_Plk_Ux : Off Plk Ux := fun a k h => by
  rcases Ux_c h with ⟨rfl, rfl⟩ | rfl | rfl | rfl | rfl | rfl | rfl | rfl | rfl | rfl | rfl | rfl | rfl | rfl | rfl | rfl | rfl | rfl | rfl <;> rfl
theorem o_Plk_Uw : Off Plk Uw := fun a k h => by
  have := Uw_c h
  subst this
  rfl
theorem o_Pcf_Up : Off Pcf Up := fun a k h => by
  rcases Up_c h with rfl | rfl | rfl | rfl | rfl | rfl | rfl | rfl | rfl | rfl | rfl | rfl | rfl <;> rfl
theorem o_Pcf_Ptp : Off Pcf Ptp := fun a k h => by
  rcases Ptp_c h with rfl | rfl | rfl | rfl <;> rfl
theorem o_Pcf_Ur : Off Pcf Ur := fun a k h => by
  rcases Ur_c h with ⟨rfl, rfl⟩ | ⟨rfl, rfl⟩ | rfl | rfl <;> rfl
theorem o_Pcf_Ux : Off Pcf Ux := fun a k h => by
  rcases Ux_c h with ⟨rfl, rfl⟩ | rfl | rfl | rfl | rfl | rfl | rfl | rfl | rfl | rfl | rfl | rfl | rfl | rfl | rfl | rfl | rfl | rfl | rfl <;> rfl
theorem o_Pcf_Uw : Off Pcf Uw := fun a k h => by
  have := Uw_c h
  subst this
  rfl
theorem o_Pgo_Up : Off Pgo Up := fun a k h => by
  rcases Up_c h with rfl | rfl | rfl | rfl | rfl | rfl | rfl | rfl | rfl | rfl | rfl | rfl | rfl <;> rfl
theorem o_Pgo_Ucf : Off Pgo Ucf := fun a k h => by
  rcases Ucf_c h with ⟨rfl, rfl | rfl | rfl | rfl⟩ | ⟨rfl, rfl | rfl | rfl | rfl⟩ | rfl | rfl | rfl | rfl | rfl | rfl | rfl | rfl | rfl | rfl <;> rfl
theorem o_Pgo_Ptp : Off Pgo Ptp := fun a k h => by
  rcases Ptp_c h with rfl | rfl | rfl | rfl <;> rfl
theorem o_Pgo_Ur : Off Pgo Ur := fun a k h => by
  rcases Ur_c h with ⟨rfl, rfl⟩ | ⟨rfl, rfl⟩ | rfl | rfl <;> rfl
theorem o_Pgo_Ux : Off Pgo Ux := fun a k h => by
  rcases Ux_c h with ⟨rfl, rfl⟩ | rfl | rfl | rfl | rfl | rfl | rfl | rfl | rfl | rfl | rfl | rfl | rfl | rfl | rfl | rfl | rfl | rfl | rfl <;> rfl
theorem o_Pgo_Uw : Off Pgo Uw := fun a k h => by
  have := Uw_c h
  subst this
  rfl
theorem o_Pgo_Us : Off Pgo Us := fun a k h => by
  rcases Us_c h with ⟨rfl, rfl⟩ | ⟨rfl, rfl | rfl | rfl⟩ | rfl <;> rfl
theorem o_Prd_Up : Off Prd Up := fun a k h => by
  rcases Up_c h with rfl | rfl | rfl | rfl | rfl | rfl | rfl | rfl | rfl | rfl | rfl | rfl | rfl <;> rfl
theorem o_Prd_Ucf : Off Prd Ucf := fun a k h => by
  rcases Ucf_c h with ⟨rfl, rfl | rfl | rfl | rfl⟩ | ⟨rfl, rfl | rfl | rfl | rfl⟩ | rfl | rfl | rfl | rfl | rfl | rfl | rfl | rfl | rfl | rfl <;> rfl
theorem o_Prd_Ptp : Off Prd Ptp := fun a k h => by
  rcases Ptp_c h with rfl | rfl | rfl | rfl <;> rfl
theorem o_Prd_Ur : Off Prd Ur := fun a k h => by
  rcases Ur_c h with ⟨rfl, rfl⟩ | ⟨rfl, rfl⟩ | rfl | rfl <;> rfl
theorem o_Prd_Ux : Off Prd Ux := fun a k h => by
  rcases Ux_c h with ⟨rfl, rfl⟩ | rfl | rfl | rfl | rfl | rfl | rfl | rfl | rfl | rfl | rfl | rfl | rfl | rfl | rfl | rfl | rfl | rfl | rfl <;> rfl
theorem o_Prd_Uw : Off Prd Uw := fun a k h => by
  have := Uw_c h
  subst this
  rfl
theorem o_Prd_Us : Off Prd Us := fun a k h => by
  rcases Us_c h with ⟨rfl, rfl⟩ | ⟨rfl, rfl | rfl | rfl⟩ | rfl <;> rfl
theorem o_Prl_Up : Off Prl Up := fun a k h => by
  rcases Up_c h with rfl | rfl | rfl | rfl | rfl | rfl | rfl | rfl | rfl | rfl | rfl | rfl | rfl <;> rfl
theorem o_Prl_Ucf : Off Prl Ucf := fun a k h => by
  rcases Ucf_c h with ⟨rfl, rfl | rfl | rfl | rfl⟩ | ⟨rfl, rfl | rfl | rfl | rfl⟩ | rfl | rfl | rfl | rfl | rfl | rfl | rfl | rfl | rfl | rfl <;> rfl
theorem o_Prl_Ptp : Off Prl Ptp := fun a k h => by
  rcases Ptp_c h with rfl | rfl | rfl | rfl <;> rfl
theorem o_Prl_Ux : Off Prl Ux := fun a k h => by
  rcases Ux_c h with ⟨rfl, rfl⟩ | rfl | rfl | rfl | rfl | rfl | rfl | rfl | rfl | rfl | rfl | rfl | rfl | rfl | rfl | rfl | rfl | rfl | rfl <;> rfl
theorem o_Prl_Uw : Off Prl Uw := fun a k h => by
  have := Uw_c h
  subst this
  rfl
theorem o_Prl_Us : Off Prl Us := fun a k h => by
  rcases Us_c h with ⟨rfl, rfl⟩ | ⟨rfl, rfl | rfl | rfl⟩ | rfl <;> rfl
theorem o_Ptp_Up : Off Ptp Up := fun a k h => by
  rcases Up_c h with rfl | rfl | rfl | rfl | rfl | rfl | rfl | rfl | rfl | rfl | rfl | rfl | rfl <;> rfl
theorem o_Ptp_Ucf : Off Ptp Ucf := fun a k h => by
  rcases Ucf_c h with ⟨rfl, rfl | rfl | rfl | rfl⟩ | ⟨rfl, rfl | rfl | rfl | rfl⟩ | rfl | rfl | rfl | rfl | rfl | rfl | rfl | rfl | rfl | rfl <;> rfl
theorem o_Ptp_Ur : Off Ptp Ur := fun a k h => by
  rcases Ur_c h with ⟨rfl, rfl⟩ | ⟨rfl, rfl⟩ | rfl | rfl <;> rfl
theorem o_Ptp_Ux : Off Ptp Ux := fun a k h => by
  rcases Ux_c h with ⟨rfl, rfl⟩ | rfl | rfl | rfl | rfl | rfl | rfl | rfl | rfl | rfl | rfl | rfl | rfl | rfl | rfl | rfl | rfl | rfl | rfl <;> rfl
theorem o_Ptp_Uw : Off Ptp Uw := fun a k h => by
  have := Uw_c h
  subst this
  rfl
theorem o_Ptp_Us : Off Ptp Us := fun a k h => by
  rcases Us_c h with ⟨rfl, rfl⟩ | ⟨rfl, rfl | rfl | rfl⟩ | rfl <;> rfl
theorem o_Pxx_Up : Off Pxx Up := fun a k h => by
  rcases Up_c h with rfl | rfl | rfl | rfl | rfl | rfl | rfl | rfl | rfl | rfl | rfl | rfl | rfl <;> rfl
theorem o_Pxx_Ucf : Off Pxx Ucf := fun a k h => by
  rcases Ucf_c h with ⟨rfl, rfl | rfl | rfl | rfl⟩ | ⟨rfl, rfl | rfl | rfl | rfl⟩ | rfl | rfl | rfl | rfl | rfl | rfl | rfl | rfl | rfl | rfl <;> rfl
theorem o_Pxx_Ptp : Off Pxx Ptp := fun a k h => by
  rcases Ptp_c h with rfl | rfl | rfl | rfl <;> rfl
theorem o_Pxx_Ur : Off Pxx Ur := fun a k h => by
  rcases Ur_c h with ⟨rfl, rfl⟩ | ⟨rfl, rfl⟩ | rfl | rfl <;> rfl
theorem o_Pxx_Ux : Off Pxx Ux := fun a k h => by
  rcases Ux_c h with ⟨rfl, rfl⟩ | rfl | rfl | rfl | rfl | rfl | rfl | rfl | rfl | rfl | rfl | rfl | rfl | rfl | rfl | rfl | rfl | rfl | rfl <;> rfl
theorem o_Pxx_Uw : Off Pxx Uw := fun a k h => by
  have := Uw_c h
  subst this
  rfl
theorem o_Pxx_Us : Off Pxx Us := fun a k h => by
  rcases Us_c h with ⟨rfl, rfl⟩ | ⟨rfl, rfl | rfl | rfl⟩ | rfl <;> rfl
theorem o_Pck_Up : Off Pck Up := fun a k h => by
  rcases Up_c h with rfl | rfl | rfl | rfl | rfl | rfl | rfl | rfl | rfl | rfl | rfl | rfl | rfl <;> rfl
theorem o_Pck_Ucf : Off Pck Ucf := fun a k h => by
  rcases Ucf_c h with ⟨rfl, rfl | rfl | rfl | rfl⟩ | ⟨rfl, rfl | rfl | rfl | rfl⟩ | rfl | rfl | rfl | rfl | rfl | rfl | rfl | rfl | rfl | rfl <;> rfl
theorem o_Pck_Ptp : Off Pck Ptp := fun a k h => by
  rcases Ptp_c h with rfl | rfl | rfl | rfl <;> rfl
theorem o_Pck_Ux : Off Pck Ux := fun a k h => by
  rcases Ux_c h with ⟨rfl, rfl⟩ | rfl | rfl | rfl | rfl | rfl | rfl | rfl | rfl | rfl | rfl | rfl | rfl | rfl | rfl | rfl | rfl | rfl | rfl <;> rfl
theorem o_Pck_Uw : Off Pck Uw := fun a k h => by
  have := Uw_c h
  subst this
  rfl
theorem o_Pck_Us : Off Pck Us := fun a k h => by
  rcases Us_c h with ⟨rfl, rfl⟩ | ⟨rfl, rfl | rfl | rfl⟩ | rfl <;> rfl
theorem o_Psx_Up : Off Psx Up := fun a k h => by
  rcases Up_c h with rfl | rfl | rfl | rfl | rfl | rfl | rfl | rfl | rfl | rfl | rfl | rfl | rfl <;> rfl
theorem o_Psx_Ucf : Off Psx Ucf := fun a k h => by
  rcases Ucf_c h with ⟨rfl, rfl | rfl | rfl | rfl⟩ | ⟨rfl, rfl | rfl | rfl | rfl⟩ | rfl | rfl | rfl | rfl | rfl | rfl | rfl | rfl | rfl | rfl <;> rfl
theorem o_Psx_Ptp : Off Psx Ptp := fun a k h => by
  rcases Ptp_c h with rfl | rfl | rfl | rfl <;> rfl
theorem o_Psx_Ur : Off Psx Ur := fun a k h => by
  rcases Ur_c h with ⟨rfl, rfl⟩ | ⟨rfl, rfl⟩ | rfl | rfl <;> rfl
theorem o_Psx_Ux : Off Psx Ux := fun a k h => by
  rcases Ux_c h with ⟨rfl, rfl⟩ | rfl | rfl | rfl | rfl | rfl | rfl | rfl | rfl | rfl | rfl | rfl | rfl | rfl | rfl | rfl | rfl | rfl | rfl <;> rfl
theorem o_Psx_Uw : Off Psx Uw := fun a k h => by
  have := Uw_c h
  subst this
  rfl
theorem o_Plx_Up : Off Plx Up := fun a k h => by
  rcases Up_c h with rfl | rfl | rfl | rfl | rfl | rfl | rfl | rfl | rfl | rfl | rfl | rfl | rfl <;> rfl
theorem o_Plx_Ucf : Off Plx Ucf := fun a k h => by
  rcases Ucf_c h with ⟨rfl, rfl | rfl | rfl | rfl⟩ | ⟨rfl, rfl | rfl | rfl | rfl⟩ | rfl | rfl | rfl | rfl | rfl | rfl | rfl | rfl | rfl | rfl <;> rfl
theorem o_Plx_Ptp : Off Plx Ptp := fun a k h => by
  rcases Ptp_c h with rfl | rfl | rfl | rfl <;> rfl
theorem o_Plx_Ur : Off Plx Ur := fun a k h => by
  rcases Ur_c h with ⟨rfl, rfl⟩ | ⟨rfl, rfl⟩ | rfl | rfl <;> rfl
theorem o_Plx_Ux : Off Plx Ux := fun a k h => by
  rcases Ux_c h with ⟨rfl, rfl⟩ | rfl | rfl | rfl | rfl | rfl | rfl | rfl | rfl | rfl | rfl | rfl | rfl | rfl | rfl | rfl | rfl | rfl | rfl <;> rfl
theorem o_Plx_Uw : Off Plx Uw := fun a k h => by
  have := Uw_c h
  subst this
  rfl
theorem o_Plx_Us : Off Plx Us := fun a k h => by
  rcases Us_c h with ⟨rfl, rfl⟩ | ⟨rfl, rfl | rfl | rfl⟩ | rfl <;> rfl
theorem o_Ptt_Up : Off Ptt Up := fun a k h => by
  rcases Up_c h with rfl | rfl | rfl | rfl | rfl | rfl | rfl | rfl | rfl | rfl | rfl | rfl | rfl <;> rfl
theorem o_Ptt_Ucf : Off Ptt Ucf := fun a k h => by
  rcases Ucf_c h with ⟨rfl, rfl | rfl | rfl | rfl⟩ | ⟨rfl, rfl | rfl | rfl | rfl⟩ | rfl | rfl | rfl | rfl | rfl | rfl | rfl | rfl | rfl | rfl <;> rfl
theorem o_Ptt_Ptp : Off Ptt Ptp := fun a k h => by
  rcases Ptp_c h with rfl | rfl | rfl | rfl <;> rfl
theorem o_Ptt_Uw : Off Ptt Uw := fun a k h => by
  have := Uw_c h
  subst this
  rfl
theorem o_Ptt_Ut : Off Ptt Ut := fun a k h => by
  rcases Ut_c h with ⟨rfl, rfl | rfl | rfl⟩ | rfl <;> rfl
theorem o_Pzz_Up : Off Pzz Up := fun a k h => by
  rcases Up_c h with rfl | rfl | rfl | rfl | rfl | rfl | rfl | rfl | rfl | rfl | rfl | rfl | rfl <;> rfl
theorem o_Pzz_Ucf : Off Pzz Ucf := fun a k h => by
  rcases Ucf_c h with ⟨rfl, rfl | rfl | rfl | rfl⟩ | ⟨rfl, rfl | rfl | rfl | rfl⟩ | rfl | rfl | rfl | rfl | rfl | rfl | rfl | rfl | rfl | rfl <;> rfl
theorem o_Pzz_Ptp : Off Pzz Ptp := fun a k h => by
  rcases Ptp_c h with rfl | rfl | rfl | rfl <;> rfl
theorem o_Pzz_Ur : Off Pzz Ur := fun a k h => by
  rcases Ur_c h with ⟨rfl, rfl⟩ | ⟨rfl, rfl⟩ | rfl | rfl <;> rfl
theorem o_Pzz_Ux : Off Pzz Ux := fun a k h => by
  rcases Ux_c h with ⟨rfl, rfl⟩ | rfl | rfl | rfl | rfl | rfl | rfl | rfl | rfl | rfl | rfl | rfl | rfl | rfl | rfl | rfl | rfl | rfl | rfl <;> rfl
theorem o_Pzz_Us : Off Pzz Us := fun a k h => by
  rcases Us_c h with ⟨rfl, rfl⟩ | ⟨rfl, rfl | rfl | rfl⟩ | rfl <;> rfl
