/-! PRINTED by wip/gen/gen1.py: each method as a function of its arguments and the memory -/
def f_Ar_fill_AI_L5  (a0 : Nat) (x1 : Int32) (x3 : Int32) : Nat → Int32 → MM → Option (MM)
  | 0 => fun _ _ => none
  | n + 1 => fun x2 μ => 
    if x3 ≤ x2 then (
      some μ)
    else
    (uI μ a0 x2 x1).bind fun μ13 =>
    (f_Ar_fill_AI_L5 a0 x1 x3 n) (x2 + (1 : Int32)) μ13
def f_Ar_fill_AI (a0 : Nat) (x1 : Int32) (μ : MM) : Option (MM) :=
  (aN μ a0).bind fun y3 =>
  f_Ar_fill_AI_L5 a0 x1 y3 FU (0 : Int32) μ
def f_Sc_init (a0 : Nat) (μ : MM) : Option (MM) :=
  (kO μ a0 8).bind fun _ =>
  (nA μ 1 (144 : Int32)).bind fun μ8 =>
  (pR μ8 a0 8 0 (nc μ)).bind fun μ10 =>
  (nA μ10 1 (144 : Int32)).bind fun μ17 =>
  (pR μ17 a0 8 1 (nc μ10)).bind fun μ19 =>
  (nA μ19 1 (144 : Int32)).bind fun μ26 =>
  (pR μ26 a0 8 2 (nc μ19)).bind fun μ28 =>
  (nA μ28 1 (6 : Int32)).bind fun μ34 =>
  (pR μ34 a0 8 3 (nc μ28)).bind fun μ36 =>
  (nA μ36 1 (24 : Int32)).bind fun μ42 =>
  (pR μ42 a0 8 4 (nc μ36)).bind fun μ44 =>
  (nA μ44 1 (24 : Int32)).bind fun μ50 =>
  (pR μ50 a0 8 5 (nc μ44)).bind fun μ52 =>
  (nA μ52 1 (24 : Int32)).bind fun μ58 =>
  (pR μ58 a0 8 6 (nc μ52)).bind fun μ60 =>
  (rR μ60 a0 8 0).bind fun y64 =>
  (f_Ar_fill_AI y64 (-1 : Int32) μ60).bind fun μ68 =>
  (rR μ68 a0 8 4).bind fun y72 =>
  (f_Ar_fill_AI y72 (-1 : Int32) μ68).bind fun μ76 =>
  some μ76
def f_Pr_init (a0 : Nat) (μ : MM) : Option (MM) :=
  (kO μ a0 5).bind fun _ =>
  (nA μ 1 (200 : Int32)).bind fun μ8 =>
  (pR μ8 a0 5 0 (nc μ)).bind fun μ10 =>
  (nA μ10 1 (200 : Int32)).bind fun μ17 =>
  (pR μ17 a0 5 1 (nc μ10)).bind fun μ19 =>
  (nA μ19 1 (64 : Int32)).bind fun μ25 =>
  (pR μ25 a0 5 2 (nc μ19)).bind fun μ27 =>
  (nA μ27 1 (14 : Int32)).bind fun μ33 =>
  (pR μ33 a0 5 3 (nc μ27)).bind fun μ35 =>
  (nA μ35 1 (15 : Int32)).bind fun μ41 =>
  (pR μ41 a0 5 4 (nc μ35)).bind fun μ43 =>
  (nA μ43 1 (14 : Int32)).bind fun μ49 =>
  (pR μ49 a0 5 5 (nc μ43)).bind fun μ51 =>
  some μ51
def f_Ch_init (a0 : Nat) (a1 : Nat) (μ : MM) : Option (MM) :=
  (kO μ a0 2).bind fun _ =>
  (nA μ 1 (8 : Int32)).bind fun μ7 =>
  (pR μ7 a0 2 1 (nc μ)).bind fun μ9 =>
  (nA μ9 1 (8 : Int32)).bind fun μ15 =>
  (pR μ15 a0 2 2 (nc μ9)).bind fun μ17 =>
  (nA μ17 1 (8 : Int32)).bind fun μ23 =>
  (pR μ23 a0 2 3 (nc μ17)).bind fun μ25 =>
  (nA μ25 1 (8 : Int32)).bind fun μ31 =>
  (pR μ31 a0 2 4 (nc μ25)).bind fun μ33 =>
  (nA μ33 1 (192 : Int32)).bind fun μ40 =>
  (pR μ40 a0 2 5 (nc μ33)).bind fun μ42 =>
  (nA μ42 1 (8 : Int32)).bind fun μ48 =>
  (pR μ48 a0 2 6 (nc μ42)).bind fun μ50 =>
  (nA μ50 1 (12 : Int32)).bind fun μ56 =>
  (pR μ56 a0 2 7 (nc μ50)).bind fun μ58 =>
  (pR μ58 a0 2 0 a1).bind fun μ63 =>
  (nO μ63 5).bind fun μ67 =>
  (f_Pr_init (nc μ63) μ67).bind fun μ71 =>
  (pR μ71 a0 2 8 (nc μ63)).bind fun μ74 =>
  (pI μ74 a0 2 10 (1 : Int32)).bind fun μ79 =>
  some μ79
def f_Str_coder (a0 : Nat) : Option (Int32) :=
  (if a0 = LIM ∨ a0 = LIM + 1 then some () else none).bind fun _ =>
  if (1 : Int32) = 0 then (
    (rb (1 : Int32)).bind fun y14 =>
    some y14)
  else
  (sC a0).bind fun y7 =>
  (rb y7).bind fun y14 =>
  some y14
def f_Str_length (a0 : Nat) : Option (Int32) :=
  (if a0 = LIM ∨ a0 = LIM + 1 then some () else none).bind fun _ =>
  (sV a0).bind fun y1 =>
  (sN y1).bind fun y4 =>
  (f_Str_coder a0).bind fun y6 =>
  some (ishr y4 y6)
def f_Si_init (a0 : Nat) (a1 : Nat) (a2 : Nat) (μ : MM) : Option (MM) :=
  (kO μ a0 9).bind fun _ =>
  (nA μ 4 (192 : Int32)).bind fun μ8 =>
  (pR μ8 a0 9 2 (nc μ)).bind fun μ10 =>
  (nA μ10 4 (8 : Int32)).bind fun μ16 =>
  (pR μ16 a0 9 3 (nc μ10)).bind fun μ18 =>
  (f_Str_length (LIM + 0)).bind fun y24 =>
  (nA μ18 1 y24).bind fun μ27 =>
  (pR μ27 a0 9 4 (nc μ18)).bind fun μ29 =>
  (nA μ29 1 (5 : Int32)).bind fun μ34 =>
  (pR μ34 a0 9 5 (nc μ29)).bind fun μ36 =>
  (nA μ36 4 (4 : Int32)).bind fun μ41 =>
  (pR μ41 a0 9 6 (nc μ36)).bind fun μ43 =>
  (nA μ43 3 (4 : Int32)).bind fun μ48 =>
  (pR μ48 a0 9 7 (nc μ43)).bind fun μ50 =>
  (pR μ50 a0 9 0 a1).bind fun μ55 =>
  (pR μ55 a0 9 1 a2).bind fun μ60 =>
  (rR μ60 a2 2 2).bind fun y65 =>
  (pR μ60 a0 9 8 y65).bind fun μ68 =>
  some μ68
def f_St_init (a0 : Nat) (a1 : Nat) (a2 : Nat) (μ : MM) : Option (MM) :=
  (kO μ a0 10).bind fun _ =>
  (nA μ 1 (8 : Int32)).bind fun μ7 =>
  (pR μ7 a0 10 2 (nc μ)).bind fun μ9 =>
  (nA μ9 1 (8 : Int32)).bind fun μ15 =>
  (pR μ15 a0 10 3 (nc μ9)).bind fun μ17 =>
  (pR μ17 a0 10 0 a1).bind fun μ22 =>
  (pR μ22 a0 10 1 a2).bind fun μ27 =>
  (pI μ27 a0 10 6 (-1 : Int32)).bind fun μ32 =>
  some μ32
def f_Le_init (a0 : Nat) (a1 : Nat) (a2 : Nat) (μ : MM) : Option (MM) :=
  (kO μ a0 4).bind fun _ =>
  (nA μ 4 (576 : Int32)).bind fun μ8 =>
  (pR μ8 a0 4 2 (nc μ)).bind fun μ10 =>
  (pR μ10 a0 4 0 a1).bind fun μ15 =>
  (pR μ15 a0 4 1 a2).bind fun μ20 =>
  some μ20
def f_Fi_init (a0 : Nat) (a1 : Nat) (a2 : Nat) (a3 : Nat) (μ : MM) : Option (MM) :=
  (kO μ a0 3).bind fun _ =>
  (nA μ 4 (64 : Int32)).bind fun μ7 =>
  (pR μ7 a0 3 3 (nc μ)).bind fun μ9 =>
  (pR μ9 a0 3 0 a1).bind fun μ14 =>
  (pR μ14 a0 3 1 a2).bind fun μ19 =>
  (pR μ19 a0 3 2 a3).bind fun μ24 =>
  some μ24
def f_Rl_init (a0 : Nat) (μ : MM) : Option (MM) :=
  (kO μ a0 7).bind fun _ =>
  (nA μ 1 (220 : Int32)).bind fun μ8 =>
  (pR μ8 a0 7 0 (nc μ)).bind fun μ10 =>
  some μ10
def f_Re_init (a0 : Nat) (μ : MM) : Option (MM) :=
  (kO μ a0 6).bind fun _ =>
  (nA μ 1 (200 : Int32)).bind fun μ8 =>
  (pR μ8 a0 6 0 (nc μ)).bind fun μ10 =>
  (nO μ10 5).bind fun μ14 =>
  (f_Pr_init (nc μ10) μ14).bind fun μ18 =>
  (pR μ18 a0 6 1 (nc μ10)).bind fun μ21 =>
  some μ21
def f_X_init (a0 : Nat) (μ : MM) : Option (MM) :=
  (kO μ a0 0).bind fun _ =>
  (nO μ 8).bind fun μ5 =>
  (f_Sc_init (nc μ) μ5).bind fun μ9 =>
  (pR μ9 a0 0 0 (nc μ)).bind fun μ12 =>
  (nO μ12 2).bind fun μ16 =>
  (rR μ16 a0 0 0).bind fun y21 =>
  (f_Ch_init (nc μ12) y21 μ16).bind fun μ24 =>
  (pR μ24 a0 0 1 (nc μ12)).bind fun μ27 =>
  (nO μ27 9).bind fun μ31 =>
  (rR μ31 a0 0 0).bind fun y36 =>
  (rR μ31 a0 0 1).bind fun y40 =>
  (f_Si_init (nc μ27) y36 y40 μ31).bind fun μ43 =>
  (pR μ43 a0 0 2 (nc μ27)).bind fun μ46 =>
  (nO μ46 10).bind fun μ50 =>
  (rR μ50 a0 0 1).bind fun y55 =>
  (rR μ50 a0 0 2).bind fun y59 =>
  (f_St_init (nc μ46) y55 y59 μ50).bind fun μ62 =>
  (pR μ62 a0 0 3 (nc μ46)).bind fun μ65 =>
  (nO μ65 4).bind fun μ69 =>
  (rR μ69 a0 0 1).bind fun y74 =>
  (rR μ69 a0 0 2).bind fun y78 =>
  (f_Le_init (nc μ65) y74 y78 μ69).bind fun μ81 =>
  (pR μ81 a0 0 4 (nc μ65)).bind fun μ84 =>
  (nO μ84 3).bind fun μ88 =>
  (rR μ88 a0 0 0).bind fun y93 =>
  (rR μ88 a0 0 1).bind fun y97 =>
  (rR μ88 a0 0 2).bind fun y101 =>
  (f_Fi_init (nc μ84) y93 y97 y101 μ88).bind fun μ104 =>
  (pR μ104 a0 0 5 (nc μ84)).bind fun μ107 =>
  (nO μ107 7).bind fun μ111 =>
  (f_Rl_init (nc μ107) μ111).bind fun μ115 =>
  (pR μ115 a0 0 6 (nc μ107)).bind fun μ118 =>
  (nO μ118 6).bind fun μ122 =>
  (f_Re_init (nc μ118) μ122).bind fun μ126 =>
  (pR μ126 a0 0 7 (nc μ118)).bind fun μ129 =>
  some μ129
def f_M_init_L410  (a0 : Nat) : Nat → Int32 → MM → Option (MM)
  | 0 => fun _ _ => none
  | n + 1 => fun x1 μ => 
    if (192 : Int32) ≤ x1 then (
      some μ)
    else
    (rR μ a0 1 70).bind fun y418 =>
    (uB μ y418 x1 (0 : Int32)).bind fun μ423 =>
    (f_M_init_L410 a0 n) (x1 + (1 : Int32)) μ423
def f_M_init_L389  (a0 : Nat) : Nat → Int32 → MM → Option (MM)
  | 0 => fun _ _ => none
  | n + 1 => fun x1 μ => 
    if (24 : Int32) ≤ x1 then (
      f_M_init_L410 a0 FU (0 : Int32) μ)
    else
    (rR μ a0 1 7).bind fun y396 =>
    (uI μ y396 x1 (-1 : Int32)).bind fun μ401 =>
    (f_M_init_L389 a0 n) (x1 + (1 : Int32)) μ401
def f_M_init_L367  (a0 : Nat) : Nat → Int32 → MM → Option (MM)
  | 0 => fun _ _ => none
  | n + 1 => fun x1 μ => 
    if (144 : Int32) ≤ x1 then (
      f_M_init_L389 a0 FU (0 : Int32) μ)
    else
    (rR μ a0 1 2).bind fun y375 =>
    (uI μ y375 x1 (-1 : Int32)).bind fun μ380 =>
    (f_M_init_L367 a0 n) (x1 + (1 : Int32)) μ380
def f_M_init (a0 : Nat) (μ : MM) : Option (MM) :=
  (kO μ a0 1).bind fun _ =>
  (nA μ 2 (220 : Int32)).bind fun μ8 =>
  (pR μ8 a0 1 0 (nc μ)).bind fun μ10 =>
  (nA μ10 1 (144 : Int32)).bind fun μ17 =>
  (pR μ17 a0 1 2 (nc μ10)).bind fun μ19 =>
  (nA μ19 1 (144 : Int32)).bind fun μ26 =>
  (pR μ26 a0 1 3 (nc μ19)).bind fun μ28 =>
  (nA μ28 1 (144 : Int32)).bind fun μ35 =>
  (pR μ35 a0 1 4 (nc μ28)).bind fun μ37 =>
  (nA μ37 1 (144 : Int32)).bind fun μ44 =>
  (pR μ44 a0 1 5 (nc μ37)).bind fun μ46 =>
  (nA μ46 3 (144 : Int32)).bind fun μ53 =>
  (pR μ53 a0 1 6 (nc μ46)).bind fun μ55 =>
  (nA μ55 1 (24 : Int32)).bind fun μ61 =>
  (pR μ61 a0 1 7 (nc μ55)).bind fun μ63 =>
  (nA μ63 1 (24 : Int32)).bind fun μ69 =>
  (pR μ69 a0 1 11 (nc μ63)).bind fun μ71 =>
  (nA μ71 1 (7200 : Int32)).bind fun μ78 =>
  (pR μ78 a0 1 12 (nc μ71)).bind fun μ80 =>
  (nA μ80 1 (7200 : Int32)).bind fun μ87 =>
  (pR μ87 a0 1 13 (nc μ80)).bind fun μ89 =>
  (nA μ89 1 (7200 : Int32)).bind fun μ96 =>
  (pR μ96 a0 1 14 (nc μ89)).bind fun μ98 =>
  (nA μ98 4 (7200 : Int32)).bind fun μ105 =>
  (pR μ105 a0 1 15 (nc μ98)).bind fun μ107 =>
  (nA μ107 1 (24 : Int32)).bind fun μ113 =>
  (pR μ113 a0 1 16 (nc μ107)).bind fun μ115 =>
  (pI μ115 a0 1 19 (1 : Int32)).bind fun μ120 =>
  (nA μ120 1 (8 : Int32)).bind fun μ126 =>
  (pR μ126 a0 1 22 (nc μ120)).bind fun μ128 =>
  (nA μ128 1 (8 : Int32)).bind fun μ134 =>
  (pR μ134 a0 1 23 (nc μ128)).bind fun μ136 =>
  (nA μ136 1 (8 : Int32)).bind fun μ142 =>
  (pR μ142 a0 1 24 (nc μ136)).bind fun μ144 =>
  (nA μ144 1 (8 : Int32)).bind fun μ150 =>
  (pR μ150 a0 1 25 (nc μ144)).bind fun μ152 =>
  (nA μ152 1 (12 : Int32)).bind fun μ158 =>
  (pR μ158 a0 1 26 (nc μ152)).bind fun μ160 =>
  (nA μ160 1 (14 : Int32)).bind fun μ166 =>
  (pR μ166 a0 1 28 (nc μ160)).bind fun μ168 =>
  (nA μ168 1 (14 : Int32)).bind fun μ174 =>
  (pR μ174 a0 1 29 (nc μ168)).bind fun μ176 =>
  (nA μ176 1 (14 : Int32)).bind fun μ182 =>
  (pR μ182 a0 1 30 (nc μ176)).bind fun μ184 =>
  (nA μ184 1 (14 : Int32)).bind fun μ190 =>
  (pR μ190 a0 1 31 (nc μ184)).bind fun μ192 =>
  (nA μ192 1 (200 : Int32)).bind fun μ199 =>
  (pR μ199 a0 1 32 (nc μ192)).bind fun μ201 =>
  (nA μ201 1 (200 : Int32)).bind fun μ208 =>
  (pR μ208 a0 1 33 (nc μ201)).bind fun μ210 =>
  (nA μ210 1 (14 : Int32)).bind fun μ216 =>
  (pR μ216 a0 1 34 (nc μ210)).bind fun μ218 =>
  (nA μ218 1 (14 : Int32)).bind fun μ224 =>
  (pR μ224 a0 1 35 (nc μ218)).bind fun μ226 =>
  (nA μ226 1 (14 : Int32)).bind fun μ232 =>
  (pR μ232 a0 1 36 (nc μ226)).bind fun μ234 =>
  (nA μ234 1 (14 : Int32)).bind fun μ240 =>
  (pR μ240 a0 1 37 (nc μ234)).bind fun μ242 =>
  (nA μ242 1 (200 : Int32)).bind fun μ249 =>
  (pR μ249 a0 1 38 (nc μ242)).bind fun μ251 =>
  (nA μ251 1 (200 : Int32)).bind fun μ258 =>
  (pR μ258 a0 1 39 (nc μ251)).bind fun μ260 =>
  (nA μ260 1 (240 : Int32)).bind fun μ267 =>
  (pR μ267 a0 1 49 (nc μ260)).bind fun μ269 =>
  (nA μ269 1 (8 : Int32)).bind fun μ275 =>
  (pR μ275 a0 1 50 (nc μ269)).bind fun μ277 =>
  (nA μ277 1 (8 : Int32)).bind fun μ283 =>
  (pR μ283 a0 1 51 (nc μ277)).bind fun μ285 =>
  (nA μ285 1 (192 : Int32)).bind fun μ292 =>
  (pR μ292 a0 1 54 (nc μ285)).bind fun μ294 =>
  (nA μ294 1 (8 : Int32)).bind fun μ300 =>
  (pR μ300 a0 1 55 (nc μ294)).bind fun μ302 =>
  (nA μ302 1 (8 : Int32)).bind fun μ308 =>
  (pR μ308 a0 1 56 (nc μ302)).bind fun μ310 =>
  (nA μ310 1 (24 : Int32)).bind fun μ316 =>
  (pR μ316 a0 1 57 (nc μ310)).bind fun μ318 =>
  (nA μ318 1 (240 : Int32)).bind fun μ325 =>
  (pR μ325 a0 1 62 (nc μ318)).bind fun μ327 =>
  (nA μ327 3 (240 : Int32)).bind fun μ334 =>
  (pR μ334 a0 1 63 (nc μ327)).bind fun μ336 =>
  (nA μ336 1 (8 : Int32)).bind fun μ342 =>
  (pR μ342 a0 1 68 (nc μ336)).bind fun μ344 =>
  (nA μ344 1 (192 : Int32)).bind fun μ351 =>
  (pR μ351 a0 1 69 (nc μ344)).bind fun μ353 =>
  (nA μ353 3 (192 : Int32)).bind fun μ360 =>
  (pR μ360 a0 1 70 (nc μ353)).bind fun μ362 =>
  f_M_init_L367 a0 FU (0 : Int32) μ362
def f_Fr_ofNumber_L21  : Nat → Int32 → Int32 → Int32 → Option (Int32)
  | 0 => fun _ _ _ => none
  | n + 1 => fun x1 x2 x3 => 
    if (2000 : Int32) ≤ x3 then (
      some x2)
    else
    if x1 ≤ (1 : Int32) then (
      some x2)
    else
    if (irem x1 (2 : Int32)) = 0 then (
      (f_Fr_ofNumber_L21 n) (x1 / (2 : Int32)) (x2 + (1048576 : Int32)) (x3 + (1 : Int32)))
    else
    if (irem x1 (3 : Int32)) = 0 then (
      (f_Fr_ofNumber_L21 n) (x1 / (3 : Int32)) (x2 + (1024 : Int32)) (x3 + (1 : Int32)))
    else
    if (irem x1 (5 : Int32)) = 0 then (
      (f_Fr_ofNumber_L21 n) (x1 / (5 : Int32)) (x2 + (1 : Int32)) (x3 + (1 : Int32)))
    else
    some (-2147483648 : Int32)
def f_Fr_ofNumber (x0 : Int32) : Option (Int32) :=
  if x0 < (1 : Int32) then (
    some (-2147483648 : Int32))
  else
  if x0 ≤ (2000 : Int32) then (
    f_Fr_ofNumber_L21 FU x0 (0 : Int32) (0 : Int32))
  else
  some (-2147483648 : Int32)
def f_Fr_exponent (x0 : Int32) (x1 : Int32) : Option (Int32) :=
  some (((ishr (x0 + (537395712 : Int32)) ((10 : Int32) * ((3 : Int32) - x1))) &&& (1023 : Int32)) - (512 : Int32))
def f_Fr_mills (x0 : Int32) : Option (Int32) :=
  (f_Fr_exponent x0 (1 : Int32)).bind fun y4 =>
  (f_Fr_exponent x0 (2 : Int32)).bind fun y12 =>
  (f_Fr_exponent x0 (3 : Int32)).bind fun y21 =>
  some ((((1200000 : Int32) * y4) + ((1901955 : Int32) * y12)) + ((2786314 : Int32) * y21))
def f_Fr_of (x0 : Int32) (x1 : Int32) : Option (Int32) :=
  (f_Fr_ofNumber x0).bind fun y1 =>
  (f_Fr_ofNumber x1).bind fun y6 =>
  if y1 = (-2147483648 : Int32) then (
    some (-2147483648 : Int32))
  else
  if y6 = (-2147483648 : Int32) then (
    some (-2147483648 : Int32))
  else
  (f_Fr_mills (y1 - y6)).bind fun y32 =>
  if y32 < (-3000000 : Int32) then (
    some (-2147483648 : Int32))
  else
  if y32 ≤ (3000000 : Int32) then (
    some (y1 - y6))
  else
  some (-2147483648 : Int32)
def f_Sc_has (x0 : Int32) (x1 : Int32) : Option (Int32) :=
  if x0 < 0 then (
    some (0 : Int32))
  else
  if (6 : Int32) ≤ x0 then (
    some (0 : Int32))
  else
  if x1 < 0 then (
    some (0 : Int32))
  else
  if (24 : Int32) ≤ x1 then (
    some (0 : Int32))
  else
  some (1 : Int32)
def f_Sc_cell (x0 : Int32) (x1 : Int32) : Option (Int32) :=
  some ((x0 * (24 : Int32)) + x1)
def f_Sc_sounds (a0 : Nat) (x1 : Int32) (x2 : Int32) (μ : MM) : Option (Int32) :=
  (kO μ a0 8).bind fun _ =>
  if x1 < 0 then (
    some (0 : Int32))
  else
  if (6 : Int32) ≤ x1 then (
    some (0 : Int32))
  else
  if x2 < 0 then (
    some (0 : Int32))
  else
  if (24 : Int32) ≤ x2 then (
    some (0 : Int32))
  else
  (rR μ a0 8 0).bind fun y21 =>
  (aI μ y21 ((x1 * (24 : Int32)) + x2)).bind fun y30 =>
  if y30 = (-1 : Int32) then (
    some (0 : Int32))
  else
  some (1 : Int32)
def f_Sc_holds (a0 : Nat) (x1 : Int32) (x2 : Int32) (μ : MM) : Option (Int32) :=
  (kO μ a0 8).bind fun _ =>
  (f_Sc_sounds a0 x1 x2 μ).bind fun y3 =>
  if y3 = 0 then (
    some (0 : Int32))
  else
  (f_Sc_sounds a0 x1 (x2 - (1 : Int32)) μ).bind fun y14 =>
  if y14 = 0 then (
    some (0 : Int32))
  else
  (rR μ a0 8 0).bind fun y21 =>
  (aI μ y21 ((x1 * (24 : Int32)) + x2)).bind fun y30 =>
  (rR μ a0 8 0).bind fun y32 =>
  (aI μ y32 (((x1 * (24 : Int32)) + x2) - (1 : Int32))).bind fun y43 =>
  if y30 = y43 then (
    some (1 : Int32))
  else
  some (0 : Int32)
def f_Sc_shift (a0 : Nat) (x1 : Int32) (x2 : Int32) (μ : MM) : Option (Int32) :=
  (kO μ a0 8).bind fun _ =>
  (f_Sc_holds a0 x1 x2 μ).bind fun y3 =>
  if y3 = 0 then (
    some (0 : Int32))
  else
  (rR μ a0 8 1).bind fun y10 =>
  (f_Sc_cell x1 (x2 - (1 : Int32))).bind fun y17 =>
  (aI μ y10 y17).bind fun y20 =>
  (rR μ a0 8 1).bind fun y22 =>
  (f_Sc_cell x1 x2).bind fun y27 =>
  (aI μ y22 y27).bind fun y30 =>
  some (y20 - y30)
def f_Sc_tune_L2  (a0 : Nat) : Nat → Int32 → MM → Option (MM)
  | 0 => fun _ _ => none
  | n + 1 => fun x1 μ => 
    if (24 : Int32) ≤ x1 then (
      some μ)
    else
    (rR μ a0 8 6).bind fun y9 =>
    (rR μ a0 8 6).bind fun y14 =>
    (aI μ y14 (x1 - (1 : Int32))).bind fun y20 =>
    (rR μ a0 8 4).bind fun y23 =>
    (aI μ y23 x1).bind fun y27 =>
    (f_Sc_shift a0 y27 x1 μ).bind fun y29 =>
    (uI μ y9 x1 (y20 + y29)).bind fun μ33 =>
    (rR μ33 a0 8 5).bind fun y35 =>
    (rR μ33 a0 8 6).bind fun y40 =>
    (aI μ33 y40 x1).bind fun y44 =>
    (f_Fr_mills y44).bind fun y45 =>
    (uI μ33 y35 x1 y45).bind fun μ48 =>
    (f_Sc_tune_L2 a0 n) (x1 + (1 : Int32)) μ48
def f_Sc_tune (a0 : Nat) (μ : MM) : Option (MM) :=
  (kO μ a0 8).bind fun _ =>
  f_Sc_tune_L2 a0 FU (1 : Int32) μ
def f_Sc_put_J100  (a0 : Nat) (μ : MM) : Option (MM) :=
  (f_Sc_tune a0 μ).bind fun μ101 =>
  some μ101
def f_Sc_put_L50  (a0 : Nat) (x1 : Int32) (x2 : Int32) : Nat → Int32 → MM → Option (MM)
  | 0 => fun _ _ => none
  | n + 1 => fun x5 μ => 
    if (x2 + (1 : Int32)) < x5 then (
      f_Sc_put_J100 a0 μ)
    else
    if (24 : Int32) ≤ x5 then (
      f_Sc_put_J100 a0 μ)
    else
    (rR μ a0 8 4).bind fun y66 =>
    (aI μ y66 x5).bind fun y71 =>
    if y71 = x1 then (
      (f_Sc_holds a0 x1 x5 μ).bind fun y80 =>
      if y80 = 0 then (
        (rR μ a0 8 4).bind fun y87 =>
        (uI μ y87 x5 (-1 : Int32)).bind fun μ93 =>
        (f_Sc_put_L50 a0 x1 x2 n) (x5 + (1 : Int32)) μ93)
      else
      (f_Sc_put_L50 a0 x1 x2 n) (x5 + (1 : Int32)) μ)
    else
    (f_Sc_put_L50 a0 x1 x2 n) (x5 + (1 : Int32)) μ
def f_Sc_put (a0 : Nat) (x1 : Int32) (x2 : Int32) (x3 : Int32) (x4 : Int32) (μ : MM) : Option (MM) :=
  (kO μ a0 8).bind fun _ =>
  (f_Sc_has x1 x2).bind fun y2 =>
  if y2 = 0 then (
    some μ)
  else
  (rR μ a0 8 0).bind fun y10 =>
  (f_Sc_cell x1 x2).bind fun y15 =>
  (uI μ y10 y15 x3).bind fun μ19 =>
  (rR μ19 a0 8 1).bind fun y21 =>
  (f_Sc_cell x1 x2).bind fun y26 =>
  (uI μ19 y21 y26 x4).bind fun μ31 =>
  (rR μ31 a0 8 2).bind fun y33 =>
  (f_Sc_cell x1 x2).bind fun y38 =>
  (f_Fr_mills x4).bind fun y43 =>
  (uI μ31 y33 y38 y43).bind fun μ46 =>
  f_Sc_put_L50 a0 x1 x2 FU x2 μ46
def f_X_changed (a0 : Nat) (μ : MM) : Option (Int32 × MM) :=
  (kO μ a0 0).bind fun _ =>
  (rI μ a0 0 9).bind fun y2 =>
  (pI μ a0 0 9 (y2 + (1 : Int32))).bind fun μ7 =>
  some ((1 : Int32), μ7)
def f_X_note (a0 : Nat) (x1 : Int32) (x2 : Int32) (x3 : Int32) (x4 : Int32) (x5 : Int32) (μ : MM) : Option (Int32 × MM) :=
  (kO μ a0 0).bind fun _ =>
  (f_Fr_of x4 x5).bind fun y4 =>
  (f_Sc_has x1 x2).bind fun y11 =>
  if y11 = 0 then (
    some ((0 : Int32), μ))
  else
  if x3 < 0 then (
    some ((0 : Int32), μ))
  else
  if (60 : Int32) < x3 then (
    some ((0 : Int32), μ))
  else
  if y4 = (-2147483648 : Int32) then (
    some ((0 : Int32), μ))
  else
  (rR μ a0 0 0).bind fun y37 =>
  (f_Sc_put y37 x1 x2 x3 y4 μ).bind fun μ45 =>
  (f_X_changed a0 μ45).bind fun q49 =>
  (rz q49.1).bind fun y52 =>
  some (y52, q49.2)
def f_M_lies (x0 : Int64) (x2 : Int64) (x4 : Int64) : Option (Int32) :=
  if (lg_cmp x0 x2) < 0 then (
    some (0 : Int32))
  else
  if 0 < (lg_cmp x0 x4) then (
    some (0 : Int32))
  else
  some (1 : Int32)
def f_M_isVoice (x0 : Int32) : Option (Int32) :=
  (f_M_lies x0.toInt64 (0 : Int64) (5 : Int64)).bind fun y6 =>
  (rz y6).bind fun y9 =>
  some y9
def f_M_isBeat (x0 : Int32) : Option (Int32) :=
  (f_M_lies x0.toInt64 (0 : Int64) (23 : Int64)).bind fun y6 =>
  (rz y6).bind fun y9 =>
  some y9
def f_M_bare_L28  : Nat → Int32 → Option (Int32)
  | 0 => fun _ => none
  | n + 1 => fun x1 => 
    if (irem x1 (5 : Int32)) = 0 then (
      (f_M_bare_L28 n) (x1 / (5 : Int32)))
    else
    some x1
def f_M_bare_L15  : Nat → Int32 → Option (Int32)
  | 0 => fun _ => none
  | n + 1 => fun x1 => 
    if (irem x1 (3 : Int32)) = 0 then (
      (f_M_bare_L15 n) (x1 / (3 : Int32)))
    else
    f_M_bare_L28 FU x1
def f_M_bare_L2  : Nat → Int32 → Option (Int32)
  | 0 => fun _ => none
  | n + 1 => fun x1 => 
    if (irem x1 (2 : Int32)) = 0 then (
      (f_M_bare_L2 n) (x1 / (2 : Int32)))
    else
    f_M_bare_L15 FU x1
def f_M_bare (x0 : Int32) : Option (Int32) :=
  f_M_bare_L2 FU x0
def f_M_powerOf_L4  (x1 : Int32) : Nat → Int32 → Int32 → Option (Int32)
  | 0 => fun _ _ => none
  | n + 1 => fun x2 x3 => 
    (gd x1).bind fun u6 =>
    if (irem x3 x1) = 0 then (
      (gd x1).bind fun u12 =>
      (f_M_powerOf_L4 x1 n) (x2 + (1 : Int32)) (x3 / x1))
    else
    some x2
def f_M_powerOf (x0 : Int32) (x1 : Int32) : Option (Int32) :=
  f_M_powerOf_L4 x1 FU (0 : Int32) x0
def f_M_mills (x0 : Int32) (x1 : Int32) (x2 : Int32) : Option (Int32) :=
  some ((((1200000 : Int32) * x0) + ((1901955 : Int32) * x1)) + ((2786314 : Int32) * x2))
def f_M_fraction (x0 : Int32) (x1 : Int32) : Option (Int32) :=
  (f_M_powerOf x0 (2 : Int32)).bind fun y2 =>
  (f_M_powerOf x1 (2 : Int32)).bind fun y7 =>
  (f_M_powerOf x0 (3 : Int32)).bind fun y13 =>
  (f_M_powerOf x1 (3 : Int32)).bind fun y18 =>
  (f_M_powerOf x0 (5 : Int32)).bind fun y24 =>
  (f_M_powerOf x1 (5 : Int32)).bind fun y29 =>
  (f_M_mills (y2 - y7) (y13 - y18) (y24 - y29)).bind fun y33 =>
  some y33
def f_M_isFraction (x0 : Int32) (x1 : Int32) : Option (Int32) :=
  (f_M_lies x0.toInt64 (1 : Int64) (2000 : Int64)).bind fun y6 =>
  if y6 = 0 then (
    some (0 : Int32))
  else
  (f_M_lies x1.toInt64 (1 : Int64) (2000 : Int64)).bind fun y18 =>
  if y18 = 0 then (
    some (0 : Int32))
  else
  (f_M_bare x0).bind fun y25 =>
  if y25 = (1 : Int32) then (
    (f_M_bare x1).bind fun y33 =>
    if y33 = (1 : Int32) then (
      (f_M_fraction x0 x1).bind fun y42 =>
      (f_M_lies y42.toInt64 (-3000000 : Int64) (3000000 : Int64)).bind fun y52 =>
      if y52 = 0 then (
        some (0 : Int32))
      else
      some (1 : Int32))
    else
    some (0 : Int32))
  else
  some (0 : Int32)
def f_M_cellOf (x0 : Int32) (x1 : Int32) : Option (Int32) :=
  some (((24 : Int32) * x0) + x1)
def f_M_isNote (a0 : Nat) (x1 : Int32) (x2 : Int32) (μ : MM) : Option (Int32) :=
  (kO μ a0 1).bind fun _ =>
  (f_M_isVoice x1).bind fun y1 =>
  if y1 = 0 then (
    some (0 : Int32))
  else
  (f_M_isBeat x2).bind fun y8 =>
  if y8 = 0 then (
    some (0 : Int32))
  else
  (rR μ a0 1 2).bind fun y15 =>
  (f_M_cellOf x1 x2).bind fun y20 =>
  (aI μ y15 y20).bind fun y23 =>
  if y23 = (-1 : Int32) then (
    some (0 : Int32))
  else
  some (1 : Int32)
def f_M_isHeld (a0 : Nat) (x1 : Int32) (x2 : Int32) (μ : MM) : Option (Int32) :=
  (kO μ a0 1).bind fun _ =>
  (f_M_isNote a0 x1 x2 μ).bind fun y3 =>
  if y3 = 0 then (
    some (0 : Int32))
  else
  (f_M_isNote a0 x1 (x2 - (1 : Int32)) μ).bind fun y14 =>
  if y14 = 0 then (
    some (0 : Int32))
  else
  (rR μ a0 1 2).bind fun y21 =>
  (f_M_cellOf x1 x2).bind fun y26 =>
  (aI μ y21 y26).bind fun y29 =>
  (rR μ a0 1 2).bind fun y31 =>
  (f_M_cellOf x1 (x2 - (1 : Int32))).bind fun y38 =>
  (aI μ y31 y38).bind fun y41 =>
  if y29 = y41 then (
    some (1 : Int32))
  else
  some (0 : Int32)
def f_M_falls_L2  (a0 : Nat) (x1 : Int32) (x2 : Int32) : Nat → Int32 → MM → Option (MM)
  | 0 => fun _ _ => none
  | n + 1 => fun x3 μ => 
    if (24 : Int32) ≤ x3 then (
      some μ)
    else
    if (x2 + (1 : Int32)) < x3 then (
      some μ)
    else
    (rR μ a0 1 7).bind fun y16 =>
    (aI μ y16 x3).bind fun y20 =>
    if y20 = x1 then (
      (f_M_isHeld a0 x1 x3 μ).bind fun y28 =>
      if y28 = 0 then (
        (rR μ a0 1 7).bind fun y35 =>
        (uI μ y35 x3 (-1 : Int32)).bind fun μ40 =>
        (f_M_falls_L2 a0 x1 x2 n) (x3 + (1 : Int32)) μ40)
      else
      (f_M_falls_L2 a0 x1 x2 n) (x3 + (1 : Int32)) μ)
    else
    (f_M_falls_L2 a0 x1 x2 n) (x3 + (1 : Int32)) μ
def f_M_falls (a0 : Nat) (x1 : Int32) (x2 : Int32) (μ : MM) : Option (MM) :=
  (kO μ a0 1).bind fun _ =>
  f_M_falls_L2 a0 x1 x2 FU x2 μ
def f_M_note (a0 : Nat) (x1 : Int32) (x2 : Int32) (x3 : Int32) (x4 : Int32) (x5 : Int32) (μ : MM) : Option (Int32 × MM) :=
  (kO μ a0 1).bind fun _ =>
  (f_M_isVoice x1).bind fun y1 =>
  if y1 = 0 then (
    some ((0 : Int32), μ))
  else
  (f_M_isBeat x2).bind fun y8 =>
  if y8 = 0 then (
    some ((0 : Int32), μ))
  else
  (f_M_lies x3.toInt64 (0 : Int64) (60 : Int64)).bind fun y20 =>
  if y20 = 0 then (
    some ((0 : Int32), μ))
  else
  (f_M_isFraction x4 x5).bind fun y30 =>
  if y30 = 0 then (
    some ((0 : Int32), μ))
  else
  (f_M_cellOf x1 x2).bind fun y40 =>
  (rR μ a0 1 2).bind fun y46 =>
  (uI μ y46 y40 x3).bind fun μ52 =>
  (rR μ52 a0 1 3).bind fun y54 =>
  (f_M_powerOf x4 (2 : Int32)).bind fun y62 =>
  (f_M_powerOf x5 (2 : Int32)).bind fun y68 =>
  (uI μ52 y54 y40 (y62 - y68)).bind fun μ72 =>
  (rR μ72 a0 1 4).bind fun y74 =>
  (f_M_powerOf x4 (3 : Int32)).bind fun y82 =>
  (f_M_powerOf x5 (3 : Int32)).bind fun y88 =>
  (uI μ72 y74 y40 (y82 - y88)).bind fun μ92 =>
  (rR μ92 a0 1 5).bind fun y94 =>
  (f_M_powerOf x4 (5 : Int32)).bind fun y102 =>
  (f_M_powerOf x5 (5 : Int32)).bind fun y108 =>
  (uI μ92 y94 y40 (y102 - y108)).bind fun μ112 =>
  (f_M_falls a0 x1 x2 μ112).bind fun μ116 =>
  some ((1 : Int32), μ116)
def f_X_silent (a0 : Nat) (x1 : Int32) (x2 : Int32) (μ : MM) : Option (Int32 × MM) :=
  (kO μ a0 0).bind fun _ =>
  (rR μ a0 0 0).bind fun y1 =>
  (f_Sc_sounds y1 x1 x2 μ).bind fun y6 =>
  if y6 = 0 then (
    some ((0 : Int32), μ))
  else
  (rR μ a0 0 0).bind fun y15 =>
  (f_Sc_put y15 x1 x2 (-1 : Int32) (0 : Int32) μ).bind fun μ22 =>
  (f_X_changed a0 μ22).bind fun q26 =>
  (rz q26.1).bind fun y29 =>
  some (y29, q26.2)
def f_M_silent (a0 : Nat) (x1 : Int32) (x2 : Int32) (μ : MM) : Option (Int32 × MM) :=
  (kO μ a0 1).bind fun _ =>
  (f_M_isNote a0 x1 x2 μ).bind fun y3 =>
  if y3 = 0 then (
    some ((0 : Int32), μ))
  else
  (rR μ a0 1 2).bind fun y12 =>
  (f_M_cellOf x1 x2).bind fun y17 =>
  (uI μ y12 y17 (-1 : Int32)).bind fun μ21 =>
  (f_M_falls a0 x1 x2 μ21).bind fun μ25 =>
  some ((1 : Int32), μ25)
def f_Sc_breathes (a0 : Nat) (x1 : Int32) (x2 : Int32) (μ : MM) : Option (Int32) :=
  (kO μ a0 8).bind fun _ =>
  (f_Sc_has x1 x2).bind fun y2 =>
  if y2 = 0 then (
    some (0 : Int32))
  else
  (rR μ a0 8 3).bind fun y9 =>
  (aI μ y9 x1).bind fun y13 =>
  if ((ishr y13 x2) &&& (1 : Int32)) = (1 : Int32) then (
    some (1 : Int32))
  else
  some (0 : Int32)
def f_X_breath (a0 : Nat) (x1 : Int32) (x2 : Int32) (x3 : Int32) (μ : MM) : Option (Int32 × MM) :=
  (kO μ a0 0).bind fun _ =>
  (f_Sc_has x1 x2).bind fun y2 =>
  if y2 = 0 then (
    some ((0 : Int32), μ))
  else
  (rR μ a0 0 0).bind fun y9 =>
  (f_Sc_breathes y9 x1 x2 μ).bind fun y14 =>
  if y14 = x3 then (
    some ((0 : Int32), μ))
  else
  (rR μ a0 0 0).bind fun y24 =>
  (rR μ y24 8 3).bind fun y27 =>
  (aI μ y27 x1).bind fun y32 =>
  (uI μ y27 x1 (y32 ^^^ (ishl (1 : Int32) x2))).bind fun μ37 =>
  (f_X_changed a0 μ37).bind fun q39 =>
  (rz q39.1).bind fun y42 =>
  some (y42, q39.2)
def f_M_breath (a0 : Nat) (x1 : Int32) (x2 : Int32) (x3 : Int32) (μ : MM) : Option (Int32 × MM) :=
  (kO μ a0 1).bind fun _ =>
  (f_M_isVoice x1).bind fun y1 =>
  if y1 = 0 then (
    some ((0 : Int32), μ))
  else
  (f_M_isBeat x2).bind fun y8 =>
  if y8 = 0 then (
    some ((0 : Int32), μ))
  else
  (rR μ a0 1 6).bind fun y15 =>
  (f_M_cellOf x1 x2).bind fun y20 =>
  (aB μ y15 y20).bind fun y23 =>
  if y23 = x3 then (
    some ((0 : Int32), μ))
  else
  (rR μ a0 1 6).bind fun y31 =>
  (f_M_cellOf x1 x2).bind fun y36 =>
  (uB μ y31 y36 x3).bind fun μ40 =>
  some ((1 : Int32), μ40)
def f_X_size (a0 : Nat) (x1 : Int32) (x2 : Int32) (μ : MM) : Option (Int32) :=
  (kO μ a0 0).bind fun _ =>
  (f_Fr_of x1 x2).bind fun y2 =>
  if y2 = (-2147483648 : Int32) then (
    some (-1000000000 : Int32))
  else
  (f_Fr_mills y2).bind fun y18 =>
  some y18
def f_M_size (a0 : Nat) (x1 : Int32) (x2 : Int32) (μ : MM) : Option (Int32) :=
  (kO μ a0 1).bind fun _ =>
  (f_M_isFraction x1 x2).bind fun y2 =>
  if y2 = 0 then (
    some (-1000000000 : Int32))
  else
  (f_M_fraction x1 x2).bind fun y10 =>
  some y10
def f_Sc_bind (a0 : Nat) (x1 : Int32) (x2 : Int32) (μ : MM) : Option (MM) :=
  (kO μ a0 8).bind fun _ =>
  if x1 ≤ 0 then (
    some μ)
  else
  if (24 : Int32) ≤ x1 then (
    some μ)
  else
  (rR μ a0 8 4).bind fun y11 =>
  (uI μ y11 x1 x2).bind fun μ16 =>
  (f_Sc_tune a0 μ16).bind fun μ18 =>
  some μ18
def f_X_link_J30  (a0 : Nat) (x1 : Int32) (x2 : Int32) (μ : MM) : Option (Int32 × MM) :=
  (rR μ a0 0 0).bind fun y31 =>
  (f_Sc_bind y31 x1 x2 μ).bind fun μ36 =>
  (f_X_changed a0 μ36).bind fun q40 =>
  (rz q40.1).bind fun y43 =>
  some (y43, q40.2)
def f_X_link (a0 : Nat) (x1 : Int32) (x2 : Int32) (μ : MM) : Option (Int32 × MM) :=
  (kO μ a0 0).bind fun _ =>
  if x1 < (1 : Int32) then (
    some ((0 : Int32), μ))
  else
  if (24 : Int32) ≤ x1 then (
    some ((0 : Int32), μ))
  else
  if x2 = (-1 : Int32) then (
    f_X_link_J30 a0 x1 x2 μ)
  else
  (rR μ a0 0 0).bind fun y17 =>
  (f_Sc_holds y17 x2 x1 μ).bind fun y22 =>
  if y22 = 0 then (
    some ((0 : Int32), μ))
  else
  f_X_link_J30 a0 x1 x2 μ
def f_M_link_J28  (a0 : Nat) (x1 : Int32) (x2 : Int32) (μ : MM) : Option (Int32 × MM) :=
  (rR μ a0 1 7).bind fun y29 =>
  (uI μ y29 x1 x2).bind fun μ34 =>
  some ((1 : Int32), μ34)
def f_M_link (a0 : Nat) (x1 : Int32) (x2 : Int32) (μ : MM) : Option (Int32 × MM) :=
  (kO μ a0 1).bind fun _ =>
  (f_M_lies x1.toInt64 (1 : Int64) (23 : Int64)).bind fun y6 =>
  if y6 = 0 then (
    some ((0 : Int32), μ))
  else
  if x2 = (-1 : Int32) then (
    f_M_link_J28 a0 x1 x2 μ)
  else
  (f_M_isHeld a0 x2 x1 μ).bind fun y20 =>
  if y20 = 0 then (
    some ((0 : Int32), μ))
  else
  f_M_link_J28 a0 x1 x2 μ
def f_Sc_heldIn_J27 (k4 : Int32 → Int32 → Option (Int32))  (a0 : Nat) (x1 : Int32) (x3 : Int32) (s0 : Int32) (s1 : Int32) (μ : MM) : Option (Int32) :=
  k4 (s0 ||| s1) (x3 + (1 : Int32))
def f_Sc_heldIn_L4  (a0 : Nat) (x1 : Int32) (μ : MM) : Nat → Int32 → Int32 → Option (Int32)
  | 0 => fun _ _ => none
  | n + 1 => fun x2 x3 => 
    if (6 : Int32) ≤ x3 then (
      some x2)
    else
    (f_Sc_holds a0 x3 x1 μ).bind fun y14 =>
    if y14 = 0 then (
      f_Sc_heldIn_J27 (f_Sc_heldIn_L4 a0 x1 μ n) a0 x1 x3 x2 (0 : Int32) μ)
    else
    f_Sc_heldIn_J27 (f_Sc_heldIn_L4 a0 x1 μ n) a0 x1 x3 x2 (ishl (1 : Int32) x3) μ
def f_Sc_heldIn (a0 : Nat) (x1 : Int32) (μ : MM) : Option (Int32) :=
  (kO μ a0 8).bind fun _ =>
  f_Sc_heldIn_L4 a0 x1 μ FU (0 : Int32) (0 : Int32)
def f_Sc_tearBy (a0 : Nat) (x1 : Int32) (x2 : Int32) (x3 : Int32) (μ : MM) : Option (Int32) :=
  (kO μ a0 8).bind fun _ =>
  (f_Sc_holds a0 x1 x2 μ).bind fun y3 =>
  if y3 = 0 then (
    some (0 : Int32))
  else
  (rR μ a0 8 2).bind fun y10 =>
  (f_Sc_cell x1 x2).bind fun y15 =>
  (aI μ y10 y15).bind fun y18 =>
  (rR μ a0 8 2).bind fun y20 =>
  (f_Sc_cell x1 (x2 - (1 : Int32))).bind fun y27 =>
  (aI μ y20 y27).bind fun y30 =>
  some ((y18 - y30) + x3)
def f_Sc_tear (a0 : Nat) (x1 : Int32) (x2 : Int32) (μ : MM) : Option (Int32) :=
  (kO μ a0 8).bind fun _ =>
  (f_Sc_holds a0 x1 x2 μ).bind fun y3 =>
  if y3 = 0 then (
    some (0 : Int32))
  else
  (rR μ a0 8 5).bind fun y13 =>
  (aI μ y13 x2).bind fun y17 =>
  (rR μ a0 8 5).bind fun y19 =>
  (aI μ y19 (x2 - (1 : Int32))).bind fun y25 =>
  (f_Sc_tearBy a0 x1 x2 (y17 - y25) μ).bind fun y27 =>
  some y27
def f_Sc_tornIn_J27 (k4 : Int32 → Int32 → Option (Int32))  (a0 : Nat) (x1 : Int32) (x3 : Int32) (s0 : Int32) (s1 : Int32) (μ : MM) : Option (Int32) :=
  k4 (s0 ||| s1) (x3 + (1 : Int32))
def f_Sc_tornIn_L4  (a0 : Nat) (x1 : Int32) (μ : MM) : Nat → Int32 → Int32 → Option (Int32)
  | 0 => fun _ _ => none
  | n + 1 => fun x2 x3 => 
    if (6 : Int32) ≤ x3 then (
      some x2)
    else
    (f_Sc_tear a0 x3 x1 μ).bind fun y14 =>
    if y14 = 0 then (
      f_Sc_tornIn_J27 (f_Sc_tornIn_L4 a0 x1 μ n) a0 x1 x3 x2 (0 : Int32) μ)
    else
    f_Sc_tornIn_J27 (f_Sc_tornIn_L4 a0 x1 μ n) a0 x1 x3 x2 (ishl (1 : Int32) x3) μ
def f_Sc_tornIn (a0 : Nat) (x1 : Int32) (μ : MM) : Option (Int32) :=
  (kO μ a0 8).bind fun _ =>
  f_Sc_tornIn_L4 a0 x1 μ FU (0 : Int32) (0 : Int32)
def f_X_keynote_J66  (a0 : Nat) (x1 : Int32) (x2 : Int32) (μ : MM) : Option (Int32) :=
  (rR μ a0 0 0).bind fun y67 =>
  (rR μ y67 8 6).bind fun y70 =>
  (aI μ y70 x1).bind fun y74 =>
  (f_Fr_exponent y74 x2).bind fun y76 =>
  some y76
def f_X_keynote (a0 : Nat) (x1 : Int32) (x2 : Int32) (μ : MM) : Option (Int32) :=
  (kO μ a0 0).bind fun _ =>
  if x1 < 0 then (
    some (-1000000000 : Int32))
  else
  if x1 < (24 : Int32) then (
    if x2 = (0 : Int32) then (
      (rR μ a0 0 0).bind fun y57 =>
      (rR μ y57 8 5).bind fun y60 =>
      (aI μ y60 x1).bind fun y64 =>
      some y64)
    else
    if x2 = (1 : Int32) then (
      f_X_keynote_J66 a0 x1 x2 μ)
    else
    if x2 = (2 : Int32) then (
      f_X_keynote_J66 a0 x1 x2 μ)
    else
    if x2 = (3 : Int32) then (
      f_X_keynote_J66 a0 x1 x2 μ)
    else
    if x2 = (4 : Int32) then (
      (rR μ a0 0 0).bind fun y81 =>
      (rR μ y81 8 4).bind fun y84 =>
      (aI μ y84 x1).bind fun y88 =>
      some y88)
    else
    if x2 = (5 : Int32) then (
      (rR μ a0 0 0).bind fun y91 =>
      (f_Sc_heldIn y91 x1 μ).bind fun y95 =>
      some y95)
    else
    if x2 = (6 : Int32) then (
      (rR μ a0 0 0).bind fun y100 =>
      (f_Sc_tornIn y100 x1 μ).bind fun y104 =>
      some y104)
    else
    some (-1000000000 : Int32))
  else
  some (-1000000000 : Int32)
def f_M_leap (a0 : Nat) (a1 : Nat) (x2 : Int32) (x3 : Int32) (μ : MM) : Option (Int32) :=
  (kO μ a0 1).bind fun _ =>
  if x2 = (-1 : Int32) then (
    some (0 : Int32))
  else
  (f_M_cellOf x2 (x3 - (1 : Int32))).bind fun y14 =>
  (aI μ a1 y14).bind fun y17 =>
  (f_M_cellOf x2 x3).bind fun y21 =>
  (aI μ a1 y21).bind fun y24 =>
  some (y17 - y24)
def f_M_goesTo_L17  (a0 : Nat) (x1 : Int32) : Nat → Int32 → MM → Option (MM)
  | 0 => fun _ _ => none
  | n + 1 => fun x2 μ => 
    if x1 < x2 then (
      some μ)
    else
    (rI μ a0 1 8).bind fun y24 =>
    (rR μ a0 1 3).bind fun y29 =>
    (rR μ a0 1 7).bind fun y33 =>
    (aI μ y33 x2).bind fun y37 =>
    (f_M_leap a0 y29 y37 x2 μ).bind fun y39 =>
    (pI μ a0 1 8 (y24 + y39)).bind fun μ43 =>
    (rI μ43 a0 1 9).bind fun y48 =>
    (rR μ43 a0 1 4).bind fun y53 =>
    (rR μ43 a0 1 7).bind fun y57 =>
    (aI μ43 y57 x2).bind fun y61 =>
    (f_M_leap a0 y53 y61 x2 μ43).bind fun y63 =>
    (pI μ43 a0 1 9 (y48 + y63)).bind fun μ67 =>
    (rI μ67 a0 1 10).bind fun y72 =>
    (rR μ67 a0 1 5).bind fun y77 =>
    (rR μ67 a0 1 7).bind fun y81 =>
    (aI μ67 y81 x2).bind fun y85 =>
    (f_M_leap a0 y77 y85 x2 μ67).bind fun y87 =>
    (pI μ67 a0 1 10 (y72 + y87)).bind fun μ91 =>
    (f_M_goesTo_L17 a0 x1 n) (x2 + (1 : Int32)) μ91
def f_M_goesTo (a0 : Nat) (x1 : Int32) (μ : MM) : Option (MM) :=
  (kO μ a0 1).bind fun _ =>
  (pI μ a0 1 8 (0 : Int32)).bind fun μ2 =>
  (pI μ2 a0 1 9 (0 : Int32)).bind fun μ7 =>
  (pI μ7 a0 1 10 (0 : Int32)).bind fun μ12 =>
  f_M_goesTo_L17 a0 x1 FU (1 : Int32) μ12
def f_M_keynoteOf (a0 : Nat) (x1 : Int32) (μ : MM) : Option (Int32 × MM) :=
  (kO μ a0 1).bind fun _ =>
  (f_M_goesTo a0 x1 μ).bind fun μ2 =>
  (rI μ2 a0 1 8).bind fun y6 =>
  (rI μ2 a0 1 9).bind fun y10 =>
  (rI μ2 a0 1 10).bind fun y14 =>
  (f_M_mills y6 y10 y14).bind fun y17 =>
  some (y17, μ2)
def f_M_sizeAt (a0 : Nat) (x1 : Int32) (x2 : Int32) (μ : MM) : Option (Int32) :=
  (kO μ a0 1).bind fun _ =>
  (rR μ a0 1 3).bind fun y1 =>
  (f_M_cellOf x1 x2).bind fun y6 =>
  (aI μ y1 y6).bind fun y9 =>
  (rR μ a0 1 4).bind fun y11 =>
  (f_M_cellOf x1 x2).bind fun y16 =>
  (aI μ y11 y16).bind fun y19 =>
  (rR μ a0 1 5).bind fun y21 =>
  (f_M_cellOf x1 x2).bind fun y26 =>
  (aI μ y21 y26).bind fun y29 =>
  (f_M_mills y9 y19 y29).bind fun y30 =>
  some y30
def f_M_tornBy_J24  (a0 : Nat) (x1 : Int32) (x2 : Int32) (s0 : Int32) (μ : MM) : Option (Int32) :=
  (f_M_sizeAt a0 x1 x2 μ).bind fun y29 =>
  (f_M_sizeAt a0 x1 (x2 - (1 : Int32)) μ).bind fun y37 =>
  some ((y29 - y37) + s0)
def f_M_tornBy (a0 : Nat) (x1 : Int32) (x2 : Int32) (x3 : Int32) (μ : MM) : Option (Int32) :=
  (kO μ a0 1).bind fun _ =>
  if x3 = (-1 : Int32) then (
    f_M_tornBy_J24 a0 x1 x2 (0 : Int32) μ)
  else
  (f_M_sizeAt a0 x3 (x2 - (1 : Int32)) μ).bind fun y14 =>
  (f_M_sizeAt a0 x3 x2 μ).bind fun y20 =>
  f_M_tornBy_J24 a0 x1 x2 (y14 - y20) μ
def f_M_keynote_J92 (k37 : Int32 → Int32 → Int32 → Option (Int32 × MM))  (a0 : Nat) (x1 : Int32) (x2 : Int32) (x3 : Int32) (x4 : Int32) (x6 : Int32) (s0 : Int32) (s1 : Int32) (μ : MM) : Option (Int32 × MM) :=
  k37 x4 (s0 ||| s1) (x6 + (1 : Int32))
def f_M_keynote_L37  (a0 : Nat) (x1 : Int32) (x2 : Int32) (x3 : Int32) (μ : MM) : Nat → Int32 → Int32 → Int32 → Option (Int32 × MM)
  | 0 => fun _ _ _ => none
  | n + 1 => fun x4 x5 x6 => 
    if (6 : Int32) ≤ x6 then (
      if x2 = (0 : Int32) then (
        some (x3, μ))
      else
      if x2 = (1 : Int32) then (
        (rI μ a0 1 8).bind fun y143 =>
        some (y143, μ))
      else
      if x2 = (2 : Int32) then (
        (rI μ a0 1 9).bind fun y148 =>
        some (y148, μ))
      else
      if x2 = (3 : Int32) then (
        (rI μ a0 1 10).bind fun y153 =>
        some (y153, μ))
      else
      if x2 = (4 : Int32) then (
        (rR μ a0 1 7).bind fun y158 =>
        (aI μ y158 x1).bind fun y162 =>
        some (y162, μ))
      else
      if x2 = (5 : Int32) then (
        some (x4, μ))
      else
      some (x5, μ))
    else
    (f_M_isHeld a0 x6 x1 μ).bind fun y48 =>
    if y48 = 0 then (
      (f_M_keynote_L37 a0 x1 x2 x3 μ n) x4 x5 (x6 + (1 : Int32)))
    else
    (rR μ a0 1 7).bind fun y73 =>
    (aI μ y73 x1).bind fun y77 =>
    (f_M_tornBy a0 x6 x1 y77 μ).bind fun y78 =>
    if y78 = 0 then (
      f_M_keynote_J92 (f_M_keynote_L37 a0 x1 x2 x3 μ n) a0 x1 x2 x3 (x4 ||| (ishl (1 : Int32) x6)) x6 x5 (0 : Int32) μ)
    else
    f_M_keynote_J92 (f_M_keynote_L37 a0 x1 x2 x3 μ n) a0 x1 x2 x3 (x4 ||| (ishl (1 : Int32) x6)) x6 x5 (ishl (1 : Int32) x6) μ
def f_M_keynote (a0 : Nat) (x1 : Int32) (x2 : Int32) (μ : MM) : Option (Int32 × MM) :=
  (kO μ a0 1).bind fun _ =>
  (f_M_isBeat x1).bind fun y1 =>
  if y1 = 0 then (
    some ((-1000000000 : Int32), μ))
  else
  (f_M_lies x2.toInt64 (0 : Int64) (6 : Int64)).bind fun y13 =>
  if y13 = 0 then (
    some ((-1000000000 : Int32), μ))
  else
  (f_M_keynoteOf a0 x1 μ).bind fun q24 =>
  f_M_keynote_L37 a0 x1 x2 q24.1 q24.2 FU (0 : Int32) (0 : Int32) (0 : Int32)
def f_X_torn (a0 : Nat) (x1 : Int32) (x2 : Int32) (μ : MM) : Option (Int32) :=
  (kO μ a0 0).bind fun _ =>
  (rR μ a0 0 0).bind fun y1 =>
  (f_Sc_holds y1 x1 x2 μ).bind fun y6 =>
  if y6 = 0 then (
    some (-1000000000 : Int32))
  else
  (rR μ a0 0 0).bind fun y13 =>
  (f_Sc_tear y13 x1 x2 μ).bind fun y18 =>
  some y18
def f_M_torn (a0 : Nat) (x1 : Int32) (x2 : Int32) (μ : MM) : Option (Int32) :=
  (kO μ a0 1).bind fun _ =>
  (f_M_isHeld a0 x1 x2 μ).bind fun y3 =>
  if y3 = 0 then (
    some (-1000000000 : Int32))
  else
  (rR μ a0 1 7).bind fun y13 =>
  (aI μ y13 x2).bind fun y17 =>
  (f_M_tornBy a0 x1 x2 y17 μ).bind fun y18 =>
  some y18
def f_Sc_soundsIn_L2  (a0 : Nat) (x1 : Int32) (μ : MM) : Nat → Int32 → Option (Int32)
  | 0 => fun _ => none
  | n + 1 => fun x2 => 
    if (6 : Int32) ≤ x2 then (
      some (0 : Int32))
    else
    (f_Sc_sounds a0 x2 x1 μ).bind fun y11 =>
    if y11 = 0 then (
      (f_Sc_soundsIn_L2 a0 x1 μ n) (x2 + (1 : Int32)))
    else
    some (1 : Int32)
def f_Sc_soundsIn (a0 : Nat) (x1 : Int32) (μ : MM) : Option (Int32) :=
  (kO μ a0 8).bind fun _ =>
  f_Sc_soundsIn_L2 a0 x1 μ FU (0 : Int32)
def f_Sc_lastBeat_L3  (a0 : Nat) (μ : MM) : Nat → Int32 → Option (Int32)
  | 0 => fun _ => none
  | n + 1 => fun x1 => 
    if x1 < 0 then (
      some (-1 : Int32))
    else
    (f_Sc_soundsIn a0 x1 μ).bind fun y9 =>
    if y9 = 0 then (
      (f_Sc_lastBeat_L3 a0 μ n) (x1 + (-1 : Int32)))
    else
    some x1
def f_Sc_lastBeat (a0 : Nat) (μ : MM) : Option (Int32) :=
  (kO μ a0 8).bind fun _ =>
  f_Sc_lastBeat_L3 a0 μ FU (23 : Int32)
def f_Mt_abs_I (x0 : Int32) : Option (Int32) :=
  if 0 ≤ x0 then (
    some x0)
  else
  some (-x0)
def f_Sc_foulnessBy_L5  (a0 : Nat) (x1 : Int32) (x2 : Int32) (μ : MM) : Nat → Int32 → Int32 → Option (Int32)
  | 0 => fun _ _ => none
  | n + 1 => fun x3 x4 => 
    if (6 : Int32) ≤ x4 then (
      some x3)
    else
    (f_Sc_tearBy a0 x4 x1 x2 μ).bind fun y18 =>
    (f_Mt_abs_I y18).bind fun y21 =>
    (f_Sc_foulnessBy_L5 a0 x1 x2 μ n) (x3 + y21) (x4 + (1 : Int32))
def f_Sc_foulnessBy (a0 : Nat) (x1 : Int32) (x2 : Int32) (μ : MM) : Option (Int32) :=
  (kO μ a0 8).bind fun _ =>
  f_Sc_foulnessBy_L5 a0 x1 x2 μ FU (0 : Int32) (0 : Int32)
def f_Sc_foulness_L4  (a0 : Nat) (μ : MM) : Nat → Int32 → Int32 → Option (Int32)
  | 0 => fun _ _ => none
  | n + 1 => fun x1 x2 => 
    if (24 : Int32) ≤ x2 then (
      some x1)
    else
    (rR μ a0 8 5).bind fun y14 =>
    (aI μ y14 x2).bind fun y18 =>
    (rR μ a0 8 5).bind fun y20 =>
    (aI μ y20 (x2 - (1 : Int32))).bind fun y26 =>
    (f_Sc_foulnessBy a0 x2 (y18 - y26) μ).bind fun y28 =>
    (f_Sc_foulness_L4 a0 μ n) (x1 + y28) (x2 + (1 : Int32))
def f_Sc_foulness (a0 : Nat) (μ : MM) : Option (Int32) :=
  (kO μ a0 8).bind fun _ =>
  f_Sc_foulness_L4 a0 μ FU (0 : Int32) (1 : Int32)
def f_X_sink_J66  (a0 : Nat) (x1 : Int32) (x2 : Int32) (μ : MM) : Option (Int32) :=
  (rR μ a0 0 0).bind fun y67 =>
  (rR μ y67 8 6).bind fun y70 =>
  (aI μ y70 x2).bind fun y74 =>
  (f_Fr_exponent y74 x1).bind fun y76 =>
  some y76
def f_X_sink (a0 : Nat) (x1 : Int32) (μ : MM) : Option (Int32) :=
  (kO μ a0 0).bind fun _ =>
  (rR μ a0 0 0).bind fun y1 =>
  (f_Sc_lastBeat y1 μ).bind fun y4 =>
  if y4 = (-1 : Int32) then (
    some (-1000000000 : Int32))
  else
  if x1 = (0 : Int32) then (
    (rR μ a0 0 0).bind fun y57 =>
    (rR μ y57 8 5).bind fun y60 =>
    (aI μ y60 y4).bind fun y64 =>
    some y64)
  else
  if x1 = (1 : Int32) then (
    f_X_sink_J66 a0 x1 y4 μ)
  else
  if x1 = (2 : Int32) then (
    f_X_sink_J66 a0 x1 y4 μ)
  else
  if x1 = (3 : Int32) then (
    f_X_sink_J66 a0 x1 y4 μ)
  else
  if x1 = (4 : Int32) then (
    (rR μ a0 0 0).bind fun y81 =>
    (f_Sc_foulness y81 μ).bind fun y84 =>
    some y84)
  else
  if x1 = (5 : Int32) then (
    some y4)
  else
  some (-1000000000 : Int32)
def f_M_lastBeat_L12 (k4 : Int32 → Int32 → Option (Int32))  (a0 : Nat) (x2 : Int32) (μ : MM) : Nat → Int32 → Int32 → Option (Int32)
  | 0 => fun _ _ => none
  | n + 1 => fun x1 x3 => 
    if (6 : Int32) ≤ x3 then (
      k4 x1 (x2 + (1 : Int32)))
    else
    (f_M_isNote a0 x3 x2 μ).bind fun y21 =>
    if y21 = 0 then (
      (f_M_lastBeat_L12 k4 a0 x2 μ n) x1 (x3 + (1 : Int32)))
    else
    (f_M_lastBeat_L12 k4 a0 x2 μ n) x2 (x3 + (1 : Int32))
def f_M_lastBeat_L4  (a0 : Nat) (μ : MM) : Nat → Int32 → Int32 → Option (Int32)
  | 0 => fun _ _ => none
  | n + 1 => fun x1 x2 => 
    if (24 : Int32) ≤ x2 then (
      some x1)
    else
    f_M_lastBeat_L12 (f_M_lastBeat_L4 a0 μ n) a0 x2 μ FU x1 (0 : Int32)
def f_M_lastBeat (a0 : Nat) (μ : MM) : Option (Int32) :=
  (kO μ a0 1).bind fun _ =>
  f_M_lastBeat_L4 a0 μ FU (-1 : Int32) (0 : Int32)
def f_M_plain (x0 : Int64) : Option (Int64) :=
  if 0 ≤ (lg_cmp x0 (0 : Int64)) then (
    some x0)
  else
  some (-x0)
def f_M_foulBy_L5  (a0 : Nat) (x1 : Int32) (x2 : Int32) (μ : MM) : Nat → Int64 → Int32 → Option (Int64)
  | 0 => fun _ _ => none
  | n + 1 => fun x3 x5 => 
    if (6 : Int32) ≤ x5 then (
      some x3)
    else
    (f_M_isHeld a0 x5 x1 μ).bind fun y16 =>
    if y16 = 0 then (
      (f_M_foulBy_L5 a0 x1 x2 μ n) x3 (x5 + (1 : Int32)))
    else
    (f_M_tornBy a0 x5 x1 x2 μ).bind fun y28 =>
    (f_M_plain y28.toInt64).bind fun y32 =>
    (f_M_foulBy_L5 a0 x1 x2 μ n) (x3 + y32) (x5 + (1 : Int32))
def f_M_foulBy (a0 : Nat) (x1 : Int32) (x2 : Int32) (μ : MM) : Option (Int64) :=
  (kO μ a0 1).bind fun _ =>
  f_M_foulBy_L5 a0 x1 x2 μ FU (0 : Int64) (0 : Int32)
def f_M_sink_L42  (a0 : Nat) (x2 : Int32) (μ : MM) : Nat → Int64 → Int32 → Option (Int32 × MM)
  | 0 => fun _ _ => none
  | n + 1 => fun x3 x5 => 
    if x2 < x5 then (
      some (x3.toInt32, μ))
    else
    (rR μ a0 1 7).bind fun y53 =>
    (aI μ y53 x5).bind fun y58 =>
    (f_M_foulBy a0 x5 y58 μ).bind fun y59 =>
    (f_M_sink_L42 a0 x2 μ n) (x3 + y59) (x5 + (1 : Int32))
def f_M_sink (a0 : Nat) (x1 : Int32) (μ : MM) : Option (Int32 × MM) :=
  (kO μ a0 1).bind fun _ =>
  (f_M_lastBeat a0 μ).bind fun y1 =>
  if y1 = (-1 : Int32) then (
    some ((-1000000000 : Int32), μ))
  else
  (f_M_lies x1.toInt64 (0 : Int64) (5 : Int64)).bind fun y16 =>
  if y16 = 0 then (
    some ((-1000000000 : Int32), μ))
  else
  if x1 = (5 : Int32) then (
    some (y1, μ))
  else
  if x1 = (4 : Int32) then (
    f_M_sink_L42 a0 y1 μ FU (0 : Int64) (1 : Int32))
  else
  (f_M_keynoteOf a0 y1 μ).bind fun q75 =>
  if x1 = 0 then (
    some (q75.1, q75.2))
  else
  if x1 = (1 : Int32) then (
    (rI q75.2 a0 1 8).bind fun y93 =>
    some (y93, q75.2))
  else
  if x1 = (2 : Int32) then (
    (rI q75.2 a0 1 9).bind fun y105 =>
    some (y105, q75.2))
  else
  (rI q75.2 a0 1 10).bind fun y112 =>
  some (y112, q75.2)
def f_X_asksRow_J16  (a0 : Nat) (μ : MM) : Option (Int32) :=
  (rR μ a0 0 0).bind fun y17 =>
  (f_Sc_lastBeat y17 μ).bind fun y20 =>
  if y20 = (-1 : Int32) then (
    some (0 : Int32))
  else
  some (1 : Int32)
def f_X_asksRow (a0 : Nat) (x1 : Int32) (μ : MM) : Option (Int32) :=
  (kO μ a0 0).bind fun _ =>
  if x1 = (-1 : Int32) then (
    f_X_asksRow_J16 a0 μ)
  else
  if x1 < (1 : Int32) then (
    some (0 : Int32))
  else
  if (24 : Int32) ≤ x1 then (
    some (0 : Int32))
  else
  f_X_asksRow_J16 a0 μ
def f_Wa_init (a0 : Nat) (a1 : Nat) (μ : MM) : Option (MM) :=
  (kO μ a0 11).bind fun _ =>
  (nA μ 1 (7200 : Int32)).bind fun μ8 =>
  (pR μ8 a0 11 1 (nc μ)).bind fun μ10 =>
  (nA μ10 1 (7200 : Int32)).bind fun μ17 =>
  (pR μ17 a0 11 2 (nc μ10)).bind fun μ19 =>
  (nA μ19 1 (24 : Int32)).bind fun μ25 =>
  (pR μ25 a0 11 3 (nc μ19)).bind fun μ27 =>
  (nA μ27 1 (300 : Int32)).bind fun μ34 =>
  (pR μ34 a0 11 4 (nc μ27)).bind fun μ36 =>
  (nA μ36 1 (168 : Int32)).bind fun μ43 =>
  (pR μ43 a0 11 5 (nc μ36)).bind fun μ45 =>
  (nA μ45 1 (168 : Int32)).bind fun μ52 =>
  (pR μ52 a0 11 6 (nc μ45)).bind fun μ54 =>
  (nA μ54 1 (24 : Int32)).bind fun μ60 =>
  (pR μ60 a0 11 7 (nc μ54)).bind fun μ62 =>
  (pR μ62 a0 11 0 a1).bind fun μ67 =>
  some μ67
def f_Mt_min (x0 : Int32) (x1 : Int32) : Option (Int32) :=
  if x1 < x0 then (
    some x1)
  else
  some x0
def f_Wa_spread_J179  (a0 : Nat) (x1 : Int32) (x4 : Int32) (x5 : Int32) (x6 : Int32) (x7 : Int32) (μ : MM) : Option (Int32 × MM) :=
  (rR μ a0 11 3).bind fun y182 =>
  (aI μ y182 (x1 - (1 : Int32))).bind fun y188 =>
  if x5 < y188 then (
    some ((0 : Int32), μ))
  else
  (rR μ a0 11 3).bind fun y195 =>
  (aI μ y195 x1).bind fun y199 =>
  if y199 ≤ x6 then (
    (rR μ a0 11 4).bind fun y206 =>
    (rR μ a0 11 1).bind fun y211 =>
    (cpI μ y206 (0 : Int32) y211 x4 x7).bind fun μ218 =>
    (rR μ218 a0 11 3).bind fun y222 =>
    (uI μ218 y222 x1 x7).bind fun μ228 =>
    some ((1 : Int32), μ228))
  else
  some ((0 : Int32), μ)
def f_Wa_spread_J148 (k24 : Int32 → Int32 → Int32 → MM → Option (Int32 × MM))  (a0 : Nat) (x1 : Int32) (x2 : Int32) (x3 : Int32) (x4 : Int32) (x6 : Int32) (x7 : Int32) (x9 : Int32) (s0 : Int32) (s1 : Int32) (μ : MM) : Option (Int32 × MM) :=
  (rR μ a0 11 4).bind fun y156 =>
  (aI μ y156 x7).bind fun y161 =>
  if x9 = y161 then (
    k24 (s0 + s1) (x6 + (1 : Int32)) (x7 + (1 : Int32)) μ)
  else
  k24 (s0 + s1) (x6 + (0 : Int32)) (x7 + (1 : Int32)) μ
def f_Wa_spread_J113 (k24 : Int32 → Int32 → Int32 → MM → Option (Int32 × MM))  (a0 : Nat) (x1 : Int32) (x2 : Int32) (x3 : Int32) (x4 : Int32) (x5 : Int32) (x6 : Int32) (x7 : Int32) (x8 : Int32) (s0 : Int32) (μ : MM) : Option (Int32 × MM) :=
  (rR μ a0 11 4).bind fun y116 =>
  (f_Mt_min x8 s0).bind fun y125 =>
  (uI μ y116 x7 y125).bind fun μ128 =>
  (rR μ128 a0 11 4).bind fun y134 =>
  (aI μ128 y134 x7).bind fun y139 =>
  if x8 = y139 then (
    f_Wa_spread_J148 k24 a0 x1 x2 x3 x4 x6 x7 s0 x5 (1 : Int32) μ128)
  else
  f_Wa_spread_J148 k24 a0 x1 x2 x3 x4 x6 x7 s0 x5 (0 : Int32) μ128
def f_Wa_spread_J85 (k24 : Int32 → Int32 → Int32 → MM → Option (Int32 × MM))  (a0 : Nat) (x1 : Int32) (x2 : Int32) (x3 : Int32) (x4 : Int32) (x5 : Int32) (x6 : Int32) (x7 : Int32) (s0 : Int32) (μ : MM) : Option (Int32 × MM) :=
  (rR μ a0 11 3).bind fun y90 =>
  (aI μ y90 x1).bind fun y94 =>
  if y94 ≤ x6 then (
    f_Wa_spread_J113 k24 a0 x1 x2 x3 x4 x5 x6 x7 s0 (2147483647 : Int32) μ)
  else
  (rR μ a0 11 1).bind fun y99 =>
  (aI μ y99 (x4 + x6)).bind fun y107 =>
  f_Wa_spread_J113 k24 a0 x1 x2 x3 x4 x5 x6 x7 s0 y107 μ
def f_Wa_spread_J56 (k24 : Int32 → Int32 → Int32 → MM → Option (Int32 × MM))  (a0 : Nat) (x1 : Int32) (x2 : Int32) (x3 : Int32) (x4 : Int32) (x5 : Int32) (x6 : Int32) (x7 : Int32) (μ : MM) : Option (Int32 × MM) :=
  (rR μ a0 11 3).bind fun y59 =>
  (aI μ y59 (x1 - (1 : Int32))).bind fun y65 =>
  if y65 ≤ x5 then (
    f_Wa_spread_J85 k24 a0 x1 x2 x3 x4 x5 x6 x7 (2147483647 : Int32) μ)
  else
  (rR μ a0 11 1).bind fun y70 =>
  (aI μ y70 (x3 + x5)).bind fun y77 =>
  f_Wa_spread_J85 k24 a0 x1 x2 x3 x4 x5 x6 x7 (y77 + x2) μ
def f_Wa_spread_L24  (a0 : Nat) (x1 : Int32) (x2 : Int32) (x3 : Int32) (x4 : Int32) : Nat → Int32 → Int32 → Int32 → MM → Option (Int32 × MM)
  | 0 => fun _ _ _ _ => none
  | n + 1 => fun x5 x6 x7 μ => 
    if (300 : Int32) ≤ x7 then (
      f_Wa_spread_J179 a0 x1 x4 x5 x6 x7 μ)
    else
    (rR μ a0 11 3).bind fun y35 =>
    (aI μ y35 (x1 - (1 : Int32))).bind fun y41 =>
    if x5 < y41 then (
      f_Wa_spread_J56 (f_Wa_spread_L24 a0 x1 x2 x3 x4 n) a0 x1 x2 x3 x4 x5 x6 x7 μ)
    else
    (rR μ a0 11 3).bind fun y48 =>
    (aI μ y48 x1).bind fun y52 =>
    if y52 ≤ x6 then (
      f_Wa_spread_J179 a0 x1 x4 x5 x6 x7 μ)
    else
    f_Wa_spread_J56 (f_Wa_spread_L24 a0 x1 x2 x3 x4 n) a0 x1 x2 x3 x4 x5 x6 x7 μ
def f_Wa_spread (a0 : Nat) (x1 : Int32) (x2 : Int32) (μ : MM) : Option (Int32 × MM) :=
  (kO μ a0 11).bind fun _ =>
  f_Wa_spread_L24 a0 x1 x2 ((x1 - (1 : Int32)) * (300 : Int32)) (x1 * (300 : Int32)) FU (0 : Int32) (0 : Int32) (0 : Int32) μ
def f_Wa_explore_L80 (k27 : Int32 → MM → Option (Int32 × MM))  (a0 : Nat) (x1 : Int32) : Nat → Int32 → MM → Option (Int32 × MM)
  | 0 => fun _ _ => none
  | n + 1 => fun x2 μ => 
    if (6 : Int32) ≤ x2 then (
      k27 (x1 + (1 : Int32)) μ)
    else
    (rR μ a0 11 0).bind fun y87 =>
    (f_Sc_shift y87 x2 x1 μ).bind fun y92 =>
    (rR μ a0 11 5).bind fun y97 =>
    (uI μ y97 (((x1 * (7 : Int32)) + x2) + (1 : Int32)) y92).bind fun μ109 =>
    (rR μ109 a0 11 0).bind fun y111 =>
    (f_Sc_holds y111 x2 x1 μ109).bind fun y116 =>
    if y116 = 0 then (
      (f_Wa_explore_L80 k27 a0 x1 n) (x2 + (1 : Int32)) μ109)
    else
    (f_Wa_spread a0 x1 y92 μ109).bind fun q125 =>
    if q125.1 = 0 then (
      some ((0 : Int32), q125.2))
    else
    (f_Wa_explore_L80 k27 a0 x1 n) (x2 + (1 : Int32)) q125.2
def f_Wa_explore_L27  (a0 : Nat) : Nat → Int32 → MM → Option (Int32 × MM)
  | 0 => fun _ _ => none
  | n + 1 => fun x1 μ => 
    (rI μ a0 11 9).bind fun y29 =>
    if y29 < x1 then (
      (rI μ a0 11 9).bind fun y146 =>
      if y146 = (-1 : Int32) then (
        some ((0 : Int32), μ))
      else
      some ((1 : Int32), μ))
    else
    (rR μ a0 11 3).bind fun y36 =>
    (rR μ a0 11 3).bind fun y41 =>
    (aI μ y41 (x1 - (1 : Int32))).bind fun y47 =>
    (uI μ y36 x1 y47).bind fun μ48 =>
    (rR μ48 a0 11 1).bind fun y50 =>
    (rR μ48 a0 11 1).bind fun y61 =>
    (rR μ48 a0 11 3).bind fun y70 =>
    (aI μ48 y70 x1).bind fun y74 =>
    (cpI μ48 y50 ((x1 - (1 : Int32)) * (300 : Int32)) y61 (x1 * (300 : Int32)) y74).bind fun μ75 =>
    f_Wa_explore_L80 (f_Wa_explore_L27 a0 n) a0 x1 FU (0 : Int32) μ75
def f_Wa_explore (a0 : Nat) (μ : MM) : Option (Int32 × MM) :=
  (kO μ a0 11).bind fun _ =>
  (rR μ a0 11 0).bind fun y2 =>
  (f_Sc_lastBeat y2 μ).bind fun y5 =>
  (pI μ a0 11 9 y5).bind fun μ8 =>
  (rR μ8 a0 11 1).bind fun y12 =>
  (uI μ8 y12 (0 : Int32) (0 : Int32)).bind fun μ17 =>
  (rR μ17 a0 11 3).bind fun y19 =>
  (uI μ17 y19 (0 : Int32) (1 : Int32)).bind fun μ24 =>
  f_Wa_explore_L27 a0 FU (1 : Int32) μ24
def f_X_explored_J22  (a0 : Nat) (μ : MM) : Option (Option Nat × MM) :=
  (rR μ a0 0 8).bind fun y23 =>
  (f_Wa_explore y23 μ).bind fun q26 =>
  if q26.1 = 0 then (
    some (none, q26.2))
  else
  (rN q26.2 a0 0 8).bind fun y33 =>
  some (y33, q26.2)
def f_X_explored (a0 : Nat) (μ : MM) : Option (Option Nat × MM) :=
  (kO μ a0 0).bind fun _ =>
  (rN μ a0 0 8).bind fun y1 =>
  y1.elim (
    (nO μ 11).bind fun μ8 =>
    (rR μ8 a0 0 0).bind fun y13 =>
    (f_Wa_init (nc μ) y13 μ8).bind fun μ16 =>
    (pR μ16 a0 0 8 (nc μ)).bind fun μ19 =>
    f_X_explored_J22 a0 μ19) (fun z4 =>
    f_X_explored_J22 a0 μ)
def f_Wa_find_L2  (a0 : Nat) (x1 : Int32) (x2 : Int32) (μ : MM) : Nat → Int32 → Option (Int32)
  | 0 => fun _ => none
  | n + 1 => fun x3 => 
    if x1 < 0 then (
      some (-1 : Int32))
    else
    if (24 : Int32) ≤ x1 then (
      some (-1 : Int32))
    else
    (rR μ a0 11 3).bind fun y14 =>
    (aI μ y14 x1).bind fun y18 =>
    if y18 ≤ x3 then (
      some (-1 : Int32))
    else
    (rR μ a0 11 1).bind fun y23 =>
    (aI μ y23 ((x1 * (300 : Int32)) + x3)).bind fun y33 =>
    if y33 = x2 then (
      some ((x1 * (300 : Int32)) + x3))
    else
    (f_Wa_find_L2 a0 x1 x2 μ n) (x3 + (1 : Int32))
def f_Wa_find (a0 : Nat) (x1 : Int32) (x2 : Int32) (μ : MM) : Option (Int32) :=
  (kO μ a0 11).bind fun _ =>
  f_Wa_find_L2 a0 x1 x2 μ FU (0 : Int32)
def f_Wa_price_J106 (k2 : Int32 → MM → Option (MM)) (k12 : Int32 → MM → Option (MM))  (a0 : Nat) (x1 : Int32) (x2 : Int32) (x3 : Int32) (x5 : Int32) (μ : MM) : Option (MM) :=
  (rR μ a0 11 6).bind fun y107 =>
  (uI μ y107 ((x2 * (7 : Int32)) + x3) x5).bind fun μ118 =>
  k12 (x3 + (1 : Int32)) μ118
def f_Wa_price_J104 (k2 : Int32 → MM → Option (MM)) (k12 : Int32 → MM → Option (MM))  (a0 : Nat) (x1 : Int32) (x2 : Int32) (x3 : Int32) (s0 : Int32) (μ : MM) : Option (MM) :=
  f_Wa_price_J106 k2 k12 a0 x1 x2 x3 s0 μ
def f_Wa_price_J71 (k2 : Int32 → MM → Option (MM)) (k12 : Int32 → MM → Option (MM))  (a0 : Nat) (x1 : Int32) (x2 : Int32) (x3 : Int32) (s0 : Int32) (μ : MM) : Option (MM) :=
  if x1 = 0 then (
    (rR μ a0 11 0).bind fun y83 =>
    (rR μ a0 11 5).bind fun y88 =>
    (aI μ y88 ((x2 * (7 : Int32)) + x3)).bind fun y97 =>
    (f_Fr_mills y97).bind fun y98 =>
    (f_Sc_foulnessBy y83 x2 y98 μ).bind fun y101 =>
    f_Wa_price_J104 k2 k12 a0 x1 x2 x3 y101 μ)
  else
  f_Wa_price_J104 k2 k12 a0 x1 x2 x3 s0 μ
def f_Wa_price_J52 (k2 : Int32 → MM → Option (MM)) (k12 : Int32 → MM → Option (MM))  (a0 : Nat) (x1 : Int32) (x2 : Int32) (x3 : Int32) (x4 : Int32) (μ : MM) : Option (MM) :=
  (rR μ a0 11 0).bind fun y55 =>
  (rR μ y55 8 4).bind fun y58 =>
  (aI μ y58 x2).bind fun y62 =>
  if x4 = y62 then (
    f_Wa_price_J71 k2 k12 a0 x1 x2 x3 (0 : Int32) μ)
  else
  f_Wa_price_J71 k2 k12 a0 x1 x2 x3 (1 : Int32) μ
def f_Wa_price_J29 (k2 : Int32 → MM → Option (MM)) (k12 : Int32 → MM → Option (MM))  (a0 : Nat) (x1 : Int32) (x2 : Int32) (x3 : Int32) (s0 : Int32) (μ : MM) : Option (MM) :=
  if x3 = 0 then (
    f_Wa_price_J52 k2 k12 a0 x1 x2 x3 s0 μ)
  else
  (rR μ a0 11 0).bind fun y40 =>
  (f_Sc_holds y40 s0 x2 μ).bind fun y46 =>
  if y46 = 0 then (
    f_Wa_price_J106 k2 k12 a0 x1 x2 x3 (2147483647 : Int32) μ)
  else
  f_Wa_price_J52 k2 k12 a0 x1 x2 x3 s0 μ
def f_Wa_price_L12 (k2 : Int32 → MM → Option (MM))  (a0 : Nat) (x1 : Int32) (x2 : Int32) : Nat → Int32 → MM → Option (MM)
  | 0 => fun _ _ => none
  | n + 1 => fun x3 μ => 
    if (7 : Int32) ≤ x3 then (
      k2 (x2 + (1 : Int32)) μ)
    else
    if x3 = 0 then (
      f_Wa_price_J29 k2 (f_Wa_price_L12 k2 a0 x1 x2 n) a0 x1 x2 x3 (-1 : Int32) μ)
    else
    f_Wa_price_J29 k2 (f_Wa_price_L12 k2 a0 x1 x2 n) a0 x1 x2 x3 (x3 - (1 : Int32)) μ
def f_Wa_price_L2  (a0 : Nat) (x1 : Int32) : Nat → Int32 → MM → Option (MM)
  | 0 => fun _ _ => none
  | n + 1 => fun x2 μ => 
    (rI μ a0 11 9).bind fun y4 =>
    if y4 < x2 then (
      some μ)
    else
    f_Wa_price_L12 (f_Wa_price_L2 a0 x1 n) a0 x1 x2 FU (0 : Int32) μ
def f_Wa_price (a0 : Nat) (x1 : Int32) (μ : MM) : Option (MM) :=
  (kO μ a0 11).bind fun _ =>
  f_Wa_price_L2 a0 x1 FU (1 : Int32) μ
def f_Wa_relax_J143 (k19 : Int32 → Int32 → MM → Option (MM))  (a0 : Nat) (x1 : Int32) (x2 : Int32) (x3 : Int32) (x4 : Int32) (x5 : Int32) (x6 : Int32) (x8 : Int32) (x9 : Int32) (x10 : Int32) (s0 : Int32) (μ : MM) : Option (MM) :=
  (rR μ a0 11 1).bind fun y146 =>
  (aI μ y146 x9).bind fun y151 =>
  if y151 = x8 then (
    (rR μ a0 11 2).bind fun y158 =>
    (aI μ y158 x10).bind fun y163 =>
    if y163 = (2147483647 : Int32) then (
      k19 x5 (x6 + (1 : Int32)) μ)
    else
    (rR μ a0 11 2).bind fun y170 =>
    (rR μ a0 11 2).bind fun y176 =>
    (aI μ y176 s0).bind fun y181 =>
    (rR μ a0 11 2).bind fun y183 =>
    (aI μ y183 x10).bind fun y188 =>
    (f_Mt_min y181 (y188 + x4)).bind fun y192 =>
    (uI μ y170 s0 y192).bind fun μ195 =>
    k19 x5 (x6 + (1 : Int32)) μ195)
  else
  k19 x5 (x6 + (1 : Int32)) μ
def f_Wa_relax_J130 (k19 : Int32 → Int32 → MM → Option (MM))  (a0 : Nat) (x1 : Int32) (x2 : Int32) (x3 : Int32) (x4 : Int32) (x5 : Int32) (x6 : Int32) (x7 : Int32) (x8 : Int32) (x9 : Int32) (s0 : Int32) (μ : MM) : Option (MM) :=
  if x3 = 0 then (
    f_Wa_relax_J143 k19 a0 x1 x2 x3 x4 x5 x6 x8 x9 s0 x7 μ)
  else
  f_Wa_relax_J143 k19 a0 x1 x2 x3 x4 x5 x6 x8 x9 s0 x9 μ
def f_Wa_relax_J109 (k19 : Int32 → Int32 → MM → Option (MM))  (a0 : Nat) (x1 : Int32) (x2 : Int32) (x3 : Int32) (x4 : Int32) (x5 : Int32) (x6 : Int32) (x7 : Int32) (x8 : Int32) (μ : MM) : Option (MM) :=
  if x3 = 0 then (
    f_Wa_relax_J130 k19 a0 x1 x2 x3 x4 x5 x6 x7 x8 ((x1 * (300 : Int32)) + x5) ((x1 * (300 : Int32)) + x5) μ)
  else
  f_Wa_relax_J130 k19 a0 x1 x2 x3 x4 x5 x6 x7 x8 ((x1 * (300 : Int32)) + x5) x7 μ
def f_Wa_relax_L72 (k19 : Int32 → Int32 → MM → Option (MM))  (a0 : Nat) (x1 : Int32) (x2 : Int32) (x3 : Int32) (x4 : Int32) (x6 : Int32) (x7 : Int32) (x8 : Int32) (μ : MM) : Nat → Int32 → Option (MM)
  | 0 => fun _ => none
  | n + 1 => fun x5 => 
    (rR μ a0 11 3).bind fun y75 =>
    (aI μ y75 x1).bind fun y79 =>
    if (y79 - (1 : Int32)) ≤ x5 then (
      f_Wa_relax_J109 k19 a0 x1 x2 x3 x4 x5 x6 x7 x8 μ)
    else
    (rR μ a0 11 1).bind fun y86 =>
    (aI μ y86 ((x1 * (300 : Int32)) + x5)).bind fun y97 =>
    if x8 ≤ y97 then (
      f_Wa_relax_J109 k19 a0 x1 x2 x3 x4 x5 x6 x7 x8 μ)
    else
    (f_Wa_relax_L72 k19 a0 x1 x2 x3 x4 x6 x7 x8 μ n) (x5 + (1 : Int32))
def f_Wa_relax_L19  (a0 : Nat) (x1 : Int32) (x2 : Int32) (x3 : Int32) (x4 : Int32) : Nat → Int32 → Int32 → MM → Option (MM)
  | 0 => fun _ _ _ => none
  | n + 1 => fun x5 x6 μ => 
    (rR μ a0 11 3).bind fun y22 =>
    (aI μ y22 (x1 - (1 : Int32))).bind fun y28 =>
    if y28 ≤ x6 then (
      some μ)
    else
    if x4 = (2147483647 : Int32) then (
      some μ)
    else
    (rR μ a0 11 1).bind fun y52 =>
    (aI μ y52 (((x1 - (1 : Int32)) * (300 : Int32)) + x6)).bind fun y57 =>
    (rR μ a0 11 5).bind fun y59 =>
    (aI μ y59 ((x1 * (7 : Int32)) + x2)).bind fun y68 =>
    f_Wa_relax_L72 (f_Wa_relax_L19 a0 x1 x2 x3 x4 n) a0 x1 x2 x3 x4 x6 (((x1 - (1 : Int32)) * (300 : Int32)) + x6) (y57 + y68) μ FU x5
def f_Wa_relax (a0 : Nat) (x1 : Int32) (x2 : Int32) (x3 : Int32) (μ : MM) : Option (MM) :=
  (kO μ a0 11).bind fun _ =>
  (rR μ a0 11 6).bind fun y1 =>
  (aI μ y1 ((x1 * (7 : Int32)) + x2)).bind fun y10 =>
  f_Wa_relax_L19 a0 x1 x2 x3 y10 FU (0 : Int32) (0 : Int32) μ
def f_Wa_follow_J153 (k12 : Int32 → Int32 → MM → Option (Int32 × MM))  (a0 : Nat) (x2 : Int32) (x3 : Int32) (μ : MM) : Option (Int32 × MM) :=
  if x3 = (-1 : Int32) then (
    some ((0 : Int32), μ))
  else
  k12 x3 (x2 + (1 : Int32)) μ
def f_Wa_follow_J146 (k12 : Int32 → Int32 → MM → Option (Int32 × MM)) (k25 : Int32 → Int32 → MM → Option (Int32 × MM))  (a0 : Nat) (x1 : Int32) (x2 : Int32) (x3 : Int32) (x4 : Int32) (s0 : Nat) (s1 : Int32) (s2 : Int32) (μ : MM) : Option (Int32 × MM) :=
  (uI μ s0 s1 s2).bind fun μ146 =>
  k25 x3 (x4 + (1 : Int32)) μ146
def f_Wa_follow_J86 (k12 : Int32 → Int32 → MM → Option (Int32 × MM)) (k25 : Int32 → Int32 → MM → Option (Int32 × MM))  (a0 : Nat) (x1 : Int32) (x2 : Int32) (x3 : Int32) (x4 : Int32) (x5 : Int32) (s0 : Int32) (μ : MM) : Option (Int32 × MM) :=
  if s0 = (-1 : Int32) then (
    k25 x3 (x4 + (1 : Int32)) μ)
  else
  (rR μ a0 11 2).bind fun y95 =>
  (aI μ y95 s0).bind fun y100 =>
  if y100 = (2147483647 : Int32) then (
    k25 x3 (x4 + (1 : Int32)) μ)
  else
  (rR μ a0 11 2).bind fun y107 =>
  (aI μ y107 x1).bind fun y111 =>
  (rR μ a0 11 2).bind fun y115 =>
  (aI μ y115 s0).bind fun y120 =>
  if y111 = (x5 + y120) then (
    (rR μ a0 11 7).bind fun y129 =>
    if x4 = 0 then (
      f_Wa_follow_J146 k12 k25 a0 x1 x2 s0 x4 y129 x2 (-1 : Int32) μ)
    else
    f_Wa_follow_J146 k12 k25 a0 x1 x2 s0 x4 y129 x2 (x4 - (1 : Int32)) μ)
  else
  k25 x3 (x4 + (1 : Int32)) μ
def f_Wa_follow_L25 (k12 : Int32 → Int32 → MM → Option (Int32 × MM))  (a0 : Nat) (x1 : Int32) (x2 : Int32) : Nat → Int32 → Int32 → MM → Option (Int32 × MM)
  | 0 => fun _ _ _ => none
  | n + 1 => fun x3 x4 μ => 
    if (7 : Int32) ≤ x4 then (
      f_Wa_follow_J153 k12 a0 x2 x3 μ)
    else
    if x3 = (-1 : Int32) then (
      (rR μ a0 11 6).bind fun y38 =>
      (aI μ y38 ((x2 * (7 : Int32)) + x4)).bind fun y48 =>
      if y48 = (2147483647 : Int32) then (
        f_Wa_follow_J86 k12 (f_Wa_follow_L25 k12 a0 x1 x2 n) a0 x1 x2 x3 x4 y48 (-1 : Int32) μ)
      else
      (rR μ a0 11 1).bind fun y65 =>
      (aI μ y65 x1).bind fun y69 =>
      (rR μ a0 11 5).bind fun y71 =>
      (aI μ y71 ((x2 * (7 : Int32)) + x4)).bind fun y81 =>
      (f_Wa_find a0 x2 (y69 + y81) μ).bind fun y83 =>
      f_Wa_follow_J86 k12 (f_Wa_follow_L25 k12 a0 x1 x2 n) a0 x1 x2 x3 x4 y48 y83 μ)
    else
    f_Wa_follow_J153 k12 a0 x2 x3 μ
def f_Wa_follow_L12  (a0 : Nat) : Nat → Int32 → Int32 → MM → Option (Int32 × MM)
  | 0 => fun _ _ _ => none
  | n + 1 => fun x1 x2 μ => 
    (rI μ a0 11 9).bind fun y14 =>
    if y14 < x2 then (
      some ((1 : Int32), μ))
    else
    f_Wa_follow_L25 (f_Wa_follow_L12 a0 n) a0 x1 x2 FU (-1 : Int32) (0 : Int32) μ
def f_Wa_follow (a0 : Nat) (μ : MM) : Option (Int32 × MM) :=
  (kO μ a0 11).bind fun _ =>
  (rR μ a0 11 7).bind fun y3 =>
  (f_Ar_fill_AI y3 (-1 : Int32) μ).bind fun μ7 =>
  f_Wa_follow_L12 a0 FU (0 : Int32) (1 : Int32) μ7
def f_Wa_leastRow_L51 (k43 : Int32 → MM → Option (Int32 × MM))  (a0 : Nat) (x3 : Int32) : Nat → Int32 → MM → Option (Int32 × MM)
  | 0 => fun _ _ => none
  | n + 1 => fun x4 μ => 
    if (7 : Int32) ≤ x4 then (
      k43 (x3 + (-1 : Int32)) μ)
    else
    (f_Wa_relax a0 x3 x4 (0 : Int32) μ).bind fun μ63 =>
    (f_Wa_leastRow_L51 k43 a0 x3 n) (x4 + (1 : Int32)) μ63
def f_Wa_leastRow_L43  (a0 : Nat) : Nat → Int32 → MM → Option (Int32 × MM)
  | 0 => fun _ _ => none
  | n + 1 => fun x3 μ => 
    if x3 < (1 : Int32) then (
      (rR μ a0 11 2).bind fun y80 =>
      (aI μ y80 (0 : Int32)).bind fun y84 =>
      (pI μ a0 11 8 y84).bind fun μ85 =>
      (rI μ85 a0 11 8).bind fun y89 =>
      if y89 = (2147483647 : Int32) then (
        some ((0 : Int32), μ85))
      else
      (f_Wa_follow a0 μ85).bind fun q98 =>
      if q98.1 = 0 then (
        some ((0 : Int32), q98.2))
      else
      some ((1 : Int32), q98.2))
    else
    f_Wa_leastRow_L51 (f_Wa_leastRow_L43 a0 n) a0 x3 FU (0 : Int32) μ
def f_Wa_leastRow (a0 : Nat) (x1 : Int32) (μ : MM) : Option (Int32 × MM) :=
  (kO μ a0 11).bind fun _ =>
  (rI μ a0 11 9).bind fun y2 =>
  (f_Wa_find a0 y2 (0 : Int32) μ).bind fun y6 =>
  if y6 = (-1 : Int32) then (
    some ((0 : Int32), μ))
  else
  (f_Wa_price a0 x1 μ).bind fun μ19 =>
  (rR μ19 a0 11 2).bind fun y23 =>
  (f_Ar_fill_AI y23 (2147483647 : Int32) μ19).bind fun μ28 =>
  (rR μ28 a0 11 2).bind fun y32 =>
  (uI μ28 y32 y6 (0 : Int32)).bind fun μ37 =>
  (rI μ37 a0 11 9).bind fun y39 =>
  f_Wa_leastRow_L43 a0 FU y39 μ37
def f_Wa_told_J20  (a0 : Nat) (μ : MM) : Option (Int32) :=
  (rI μ a0 11 8).bind fun y21 =>
  some y21
def f_Wa_told (a0 : Nat) (x1 : Int32) (μ : MM) : Option (Int32) :=
  (kO μ a0 11).bind fun _ =>
  if x1 < (1 : Int32) then (
    f_Wa_told_J20 a0 μ)
  else
  if (24 : Int32) ≤ x1 then (
    f_Wa_told_J20 a0 μ)
  else
  (rR μ a0 11 7).bind fun y12 =>
  (aI μ y12 x1).bind fun y16 =>
  some y16
def f_X_way (a0 : Nat) (x1 : Int32) (μ : MM) : Option (Int32 × MM) :=
  (kO μ a0 0).bind fun _ =>
  (f_X_asksRow a0 x1 μ).bind fun y2 =>
  if y2 = 0 then (
    some ((-1000000000 : Int32), μ))
  else
  (f_X_explored a0 μ).bind fun q12 =>
  q12.1.elim (
    some ((-2 : Int32), q12.2)) (fun z17 =>
    (f_Wa_leastRow z17 (0 : Int32) q12.2).bind fun q22 =>
    if q22.1 = 0 then (
      some ((-2 : Int32), q22.2))
    else
    (f_Wa_told z17 x1 q22.2).bind fun y30 =>
    some (y30, q22.2))
def f_M_placeOf_L3  (a0 : Nat) (x1 : Int32) (x2 : Int32) (x3 : Int32) (x4 : Int32) (μ : MM) : Nat → Int32 → Option (Int32 × MM)
  | 0 => fun _ => none
  | n + 1 => fun x5 => 
    (rR μ a0 1 11).bind fun y6 =>
    (aI μ y6 x1).bind fun y10 =>
    if y10 ≤ x5 then (
      (rR μ a0 1 11).bind fun y68 =>
      (aI μ y68 x1).bind fun y72 =>
      if y72 = (300 : Int32) then (
        some ((-1 : Int32), μ))
      else
      (rR μ a0 1 11).bind fun y87 =>
      (aI μ y87 x1).bind fun y91 =>
      (rR μ a0 1 12).bind fun y96 =>
      (uI μ y96 (((300 : Int32) * x1) + y91) x2).bind fun μ102 =>
      (rR μ102 a0 1 13).bind fun y104 =>
      (uI μ102 y104 (((300 : Int32) * x1) + y91) x3).bind fun μ110 =>
      (rR μ110 a0 1 14).bind fun y112 =>
      (uI μ110 y112 (((300 : Int32) * x1) + y91) x4).bind fun μ119 =>
      (rR μ119 a0 1 11).bind fun y121 =>
      (aI μ119 y121 x1).bind fun y126 =>
      (uI μ119 y121 x1 (y126 + (1 : Int32))).bind fun μ129 =>
      (rR μ129 a0 1 11).bind fun y131 =>
      (aI μ129 y131 x1).bind fun y135 =>
      some ((y135 - (1 : Int32)), μ129))
    else
    (rR μ a0 1 12).bind fun y25 =>
    (aI μ y25 (((300 : Int32) * x1) + x5)).bind fun y30 =>
    if y30 = x2 then (
      (rR μ a0 1 13).bind fun y36 =>
      (aI μ y36 (((300 : Int32) * x1) + x5)).bind fun y41 =>
      if y41 = x3 then (
        (rR μ a0 1 14).bind fun y47 =>
        (aI μ y47 (((300 : Int32) * x1) + x5)).bind fun y52 =>
        if y52 = x4 then (
          some (x5, μ))
        else
        (f_M_placeOf_L3 a0 x1 x2 x3 x4 μ n) (x5 + (1 : Int32)))
      else
      (f_M_placeOf_L3 a0 x1 x2 x3 x4 μ n) (x5 + (1 : Int32)))
    else
    (f_M_placeOf_L3 a0 x1 x2 x3 x4 μ n) (x5 + (1 : Int32))
def f_M_placeOf (a0 : Nat) (x1 : Int32) (x2 : Int32) (x3 : Int32) (x4 : Int32) (μ : MM) : Option (Int32 × MM) :=
  (kO μ a0 1).bind fun _ =>
  f_M_placeOf_L3 a0 x1 x2 x3 x4 μ FU (0 : Int32)
def f_M_mayLink (a0 : Nat) (x1 : Int32) (x2 : Int32) (μ : MM) : Option (Int32) :=
  (kO μ a0 1).bind fun _ =>
  if x2 = (-1 : Int32) then (
    some (1 : Int32))
  else
  (f_M_isHeld a0 x2 x1 μ).bind fun y8 =>
  if y8 = 0 then (
    some (0 : Int32))
  else
  some (1 : Int32)
def f_M_nextOf (a0 : Nat) (x1 : Int32) (x2 : Int32) (x3 : Int32) (μ : MM) : Option (Int32 × MM) :=
  (kO μ a0 1).bind fun _ =>
  (rR μ a0 1 12).bind fun y14 =>
  (aI μ y14 (((300 : Int32) * (x1 - (1 : Int32))) + x2)).bind fun y19 =>
  (rR μ a0 1 3).bind fun y22 =>
  (f_M_leap a0 y22 x3 x1 μ).bind fun y27 =>
  (rR μ a0 1 13).bind fun y32 =>
  (aI μ y32 (((300 : Int32) * (x1 - (1 : Int32))) + x2)).bind fun y37 =>
  (rR μ a0 1 4).bind fun y40 =>
  (f_M_leap a0 y40 x3 x1 μ).bind fun y45 =>
  (rR μ a0 1 14).bind fun y50 =>
  (aI μ y50 (((300 : Int32) * (x1 - (1 : Int32))) + x2)).bind fun y55 =>
  (rR μ a0 1 5).bind fun y58 =>
  (f_M_leap a0 y58 x3 x1 μ).bind fun y63 =>
  (f_M_placeOf a0 x1 (y19 + y27) (y37 + y45) (y55 + y63) μ).bind fun q67 =>
  some (q67.1, q67.2)
def f_M_lays_L55 (k31 : Int32 → MM → Option (Int32 × MM)) (k39 : Int32 → MM → Option (Int32 × MM))  (a0 : Nat) (x1 : Int32) (x2 : Int32) (x3 : Int32) (x4 : Int32) : Nat → Int32 → MM → Option (Int32 × MM)
  | 0 => fun _ _ => none
  | n + 1 => fun x5 μ => 
    if (6 : Int32) ≤ x5 then (
      k39 (x4 + (1 : Int32)) μ)
    else
    (f_M_mayLink a0 x3 x5 μ).bind fun y66 =>
    if y66 = 0 then (
      (f_M_lays_L55 k31 k39 a0 x1 x2 x3 x4 n) (x5 + (1 : Int32)) μ)
    else
    (f_M_nextOf a0 x3 x4 x5 μ).bind fun q78 =>
    if q78.1 = (-1 : Int32) then (
      some ((0 : Int32), q78.2))
    else
    (f_M_lays_L55 k31 k39 a0 x1 x2 x3 x4 n) (x5 + (1 : Int32)) q78.2
def f_M_lays_L39 (k31 : Int32 → MM → Option (Int32 × MM))  (a0 : Nat) (x1 : Int32) (x2 : Int32) (x3 : Int32) : Nat → Int32 → MM → Option (Int32 × MM)
  | 0 => fun _ _ => none
  | n + 1 => fun x4 μ => 
    (rR μ a0 1 11).bind fun y42 =>
    (aI μ y42 (x3 - (1 : Int32))).bind fun y48 =>
    if y48 ≤ x4 then (
      k31 (x3 + (1 : Int32)) μ)
    else
    f_M_lays_L55 k31 (f_M_lays_L39 k31 a0 x1 x2 x3 n) a0 x1 x2 x3 x4 FU (-1 : Int32) μ
def f_M_lays_L31  (a0 : Nat) (x1 : Int32) (x2 : Int32) : Nat → Int32 → MM → Option (Int32 × MM)
  | 0 => fun _ _ => none
  | n + 1 => fun x3 μ => 
    if x1 < x3 then (
      some ((1 : Int32), μ))
    else
    f_M_lays_L39 (f_M_lays_L31 a0 x1 x2 n) a0 x1 x2 x3 FU x2 μ
def f_M_lays_L2  (a0 : Nat) (x1 : Int32) : Nat → Int32 → MM → Option (Int32 × MM)
  | 0 => fun _ _ => none
  | n + 1 => fun x2 μ => 
    if x1 < x2 then (
      (f_M_placeOf a0 (0 : Int32) (0 : Int32) (0 : Int32) (0 : Int32) μ).bind fun q25 =>
      f_M_lays_L31 a0 x1 q25.1 FU (1 : Int32) q25.2)
    else
    (rR μ a0 1 11).bind fun y8 =>
    (uI μ y8 x2 (0 : Int32)).bind fun μ13 =>
    (f_M_lays_L2 a0 x1 n) (x2 + (1 : Int32)) μ13
def f_M_lays (a0 : Nat) (x1 : Int32) (μ : MM) : Option (Int32 × MM) :=
  (kO μ a0 1).bind fun _ =>
  f_M_lays_L2 a0 x1 FU (0 : Int32) μ
def f_M_costBy (a0 : Nat) (x1 : Int32) (x2 : Int32) (x3 : Int32) (μ : MM) : Option (Int64) :=
  (kO μ a0 1).bind fun _ =>
  if x3 = 0 then (
    (f_M_foulBy a0 x1 x2 μ).bind fun y25 =>
    some y25)
  else
  (rR μ a0 1 7).bind fun y6 =>
  (aI μ y6 x1).bind fun y10 =>
  if x2 = y10 then (
    some (0 : Int64))
  else
  some (1 : Int64)
def f_M_finds_L318 (k309 : Int32 → Int32 → MM → Option (Int32 × MM))  (a0 : Nat) (x1 : Int32) (x2 : Int32) (x3 : Int32) (x4 : Int32) : Nat → Int32 → MM → Option (Int32 × MM)
  | 0 => fun _ _ => none
  | n + 1 => fun x5 μ => 
    (f_M_mayLink a0 x4 x5 μ).bind fun y323 =>
    if y323 = 0 then (
      (f_M_finds_L318 k309 a0 x1 x2 x3 x4 n) (x5 + (1 : Int32)) μ)
    else
    (f_M_costBy a0 x4 x5 x2 μ).bind fun y335 =>
    (rR μ a0 1 15).bind fun y339 =>
    (f_M_nextOf a0 x4 x3 x5 μ).bind fun q354 =>
    (aL q354.2 y339 (((300 : Int32) * x4) + q354.1)).bind fun y358 =>
    (rR q354.2 a0 1 15).bind fun y361 =>
    (aL q354.2 y361 (((300 : Int32) * (x4 - (1 : Int32))) + x3)).bind fun y374 =>
    if (lg_cmp (y335 + y358) y374) = 0 then (
      (rR q354.2 a0 1 16).bind fun y386 =>
      (uI q354.2 y386 x4 x5).bind fun μ393 =>
      (f_M_nextOf a0 x4 x3 x5 μ393).bind fun q400 =>
      k309 q400.1 (x4 + (1 : Int32)) q400.2)
    else
    (f_M_finds_L318 k309 a0 x1 x2 x3 x4 n) (x5 + (1 : Int32)) q354.2
def f_M_finds_L309  (a0 : Nat) (x1 : Int32) (x2 : Int32) : Nat → Int32 → Int32 → MM → Option (Int32 × MM)
  | 0 => fun _ _ _ => none
  | n + 1 => fun x3 x4 μ => 
    if x1 < x4 then (
      some ((1 : Int32), μ))
    else
    f_M_finds_L318 (f_M_finds_L309 a0 x1 x2 n) a0 x1 x2 x3 x4 FU (-1 : Int32) μ
def f_M_finds_L285  (a0 : Nat) (x1 : Int32) (x2 : Int32) (x3 : Int32) : Nat → Int32 → MM → Option (Int32 × MM)
  | 0 => fun _ _ => none
  | n + 1 => fun x4 μ => 
    if (24 : Int32) ≤ x4 then (
      f_M_finds_L309 a0 x1 x2 FU x3 (1 : Int32) μ)
    else
    (rR μ a0 1 16).bind fun y293 =>
    (uI μ y293 x4 (-1 : Int32)).bind fun μ299 =>
    (f_M_finds_L285 a0 x1 x2 x3 n) (x4 + (1 : Int32)) μ299
def f_M_finds_L163 (k83 : Int32 → MM → Option (Int32 × MM)) (k130 : Int32 → MM → Option (Int32 × MM))  (a0 : Nat) (x1 : Int32) (x2 : Int32) (x3 : Int32) (x4 : Int32) (x5 : Int64) : Nat → Int32 → MM → Option (Int32 × MM)
  | 0 => fun _ _ => none
  | n + 1 => fun x7 μ => 
    (rR μ a0 1 11).bind fun y166 =>
    (aI μ y166 (x3 - (1 : Int32))).bind fun y172 =>
    if y172 ≤ x7 then (
      k130 (x4 + (1 : Int32)) μ)
    else
    (rR μ a0 1 15).bind fun y179 =>
    (f_M_nextOf a0 x3 x7 x4 μ).bind fun q193 =>
    (aL q193.2 y179 (((300 : Int32) * x3) + q193.1)).bind fun y197 =>
    (rR q193.2 a0 1 15).bind fun y204 =>
    (aL q193.2 y204 (((300 : Int32) * (x3 - (1 : Int32))) + x7)).bind fun y217 =>
    if 0 ≤ (lg_cmp (x5 + y197) y217) then (
      (f_M_finds_L163 k83 k130 a0 x1 x2 x3 x4 x5 n) (x7 + (1 : Int32)) q193.2)
    else
    (rR q193.2 a0 1 15).bind fun y223 =>
    (uL q193.2 y223 (((300 : Int32) * (x3 - (1 : Int32))) + x7) (x5 + y197)).bind fun μ238 =>
    (f_M_finds_L163 k83 k130 a0 x1 x2 x3 x4 x5 n) (x7 + (1 : Int32)) μ238
def f_M_finds_L130 (k83 : Int32 → MM → Option (Int32 × MM))  (a0 : Nat) (x1 : Int32) (x2 : Int32) (x3 : Int32) : Nat → Int32 → MM → Option (Int32 × MM)
  | 0 => fun _ _ => none
  | n + 1 => fun x4 μ => 
    if (6 : Int32) ≤ x4 then (
      k83 (x3 + (-1 : Int32)) μ)
    else
    (f_M_mayLink a0 x3 x4 μ).bind fun y141 =>
    if y141 = 0 then (
      (f_M_finds_L130 k83 a0 x1 x2 x3 n) (x4 + (1 : Int32)) μ)
    else
    (f_M_costBy a0 x3 x4 x2 μ).bind fun y155 =>
    f_M_finds_L163 k83 (f_M_finds_L130 k83 a0 x1 x2 x3 n) a0 x1 x2 x3 x4 y155 FU (0 : Int32) μ
def f_M_finds_L90 (k83 : Int32 → MM → Option (Int32 × MM))  (a0 : Nat) (x1 : Int32) (x2 : Int32) (x3 : Int32) : Nat → Int32 → MM → Option (Int32 × MM)
  | 0 => fun _ _ => none
  | n + 1 => fun x4 μ => 
    (rR μ a0 1 11).bind fun y93 =>
    (aI μ y93 (x3 - (1 : Int32))).bind fun y99 =>
    if y99 ≤ x4 then (
      f_M_finds_L130 k83 a0 x1 x2 x3 FU (-1 : Int32) μ)
    else
    (rR μ a0 1 15).bind fun y104 =>
    (uL μ y104 (((300 : Int32) * (x3 - (1 : Int32))) + x4) (1000000000000000 : Int64)).bind fun μ120 =>
    (f_M_finds_L90 k83 a0 x1 x2 x3 n) (x4 + (1 : Int32)) μ120
def f_M_finds_L83  (a0 : Nat) (x1 : Int32) (x2 : Int32) : Nat → Int32 → MM → Option (Int32 × MM)
  | 0 => fun _ _ => none
  | n + 1 => fun x3 μ => 
    if x3 ≤ 0 then (
      (rR μ a0 1 15).bind fun y259 =>
      (aL μ y259 (0 : Int32)).bind fun y263 =>
      (pL μ a0 1 17 y263).bind fun μ264 =>
      (rL μ264 a0 1 17).bind fun y268 =>
      if (lg_cmp y268 (1000000000000000 : Int64)) < 0 then (
        f_M_finds_L285 a0 x1 x2 (0 : Int32) FU (0 : Int32) μ264)
      else
      some ((0 : Int32), μ264))
    else
    f_M_finds_L90 (f_M_finds_L83 a0 x1 x2 n) a0 x1 x2 x3 FU (0 : Int32) μ
def f_M_finds_J74 (k12 : Int32 → MM → Option (Int32 × MM))  (a0 : Nat) (x1 : Int32) (x2 : Int32) (x3 : Int32) (s0 : Nat) (s1 : Int32) (s2 : Int64) (μ : MM) : Option (Int32 × MM) :=
  (uL μ s0 s1 s2).bind fun μ74 =>
  k12 (x3 + (1 : Int32)) μ74
def f_M_finds_J71 (k12 : Int32 → MM → Option (Int32 × MM))  (a0 : Nat) (x1 : Int32) (x2 : Int32) (x3 : Int32) (s0 : Nat) (s1 : Int32) (μ : MM) : Option (Int32 × MM) :=
  f_M_finds_J74 k12 a0 x1 x2 x3 s0 s1 (1000000000000000 : Int64) μ
def f_M_finds_L12  (a0 : Nat) (x1 : Int32) (x2 : Int32) : Nat → Int32 → MM → Option (Int32 × MM)
  | 0 => fun _ _ => none
  | n + 1 => fun x3 μ => 
    (rR μ a0 1 11).bind fun y14 =>
    (aI μ y14 x1).bind fun y18 =>
    if y18 ≤ x3 then (
      f_M_finds_L83 a0 x1 x2 FU x1 μ)
    else
    (rR μ a0 1 15).bind fun y32 =>
    (rR μ a0 1 12).bind fun y38 =>
    (aI μ y38 (((300 : Int32) * x1) + x3)).bind fun y43 =>
    if y43 = 0 then (
      (rR μ a0 1 13).bind fun y48 =>
      (aI μ y48 (((300 : Int32) * x1) + x3)).bind fun y53 =>
      if y53 = 0 then (
        (rR μ a0 1 14).bind fun y58 =>
        (aI μ y58 (((300 : Int32) * x1) + x3)).bind fun y63 =>
        if y63 = 0 then (
          f_M_finds_J74 (f_M_finds_L12 a0 x1 x2 n) a0 x1 x2 x3 y32 (((300 : Int32) * x1) + x3) (0 : Int64) μ)
        else
        f_M_finds_J71 (f_M_finds_L12 a0 x1 x2 n) a0 x1 x2 x3 y32 (((300 : Int32) * x1) + x3) μ)
      else
      f_M_finds_J71 (f_M_finds_L12 a0 x1 x2 n) a0 x1 x2 x3 y32 (((300 : Int32) * x1) + x3) μ)
    else
    f_M_finds_J71 (f_M_finds_L12 a0 x1 x2 n) a0 x1 x2 x3 y32 (((300 : Int32) * x1) + x3) μ
def f_M_finds (a0 : Nat) (x1 : Int32) (x2 : Int32) (μ : MM) : Option (Int32 × MM) :=
  (kO μ a0 1).bind fun _ =>
  (f_M_lays a0 x1 μ).bind fun q2 =>
  if q2.1 = 0 then (
    some ((0 : Int32), q2.2))
  else
  f_M_finds_L12 a0 x1 x2 FU (0 : Int32) q2.2
def f_M_rowOf_J30  (a0 : Nat) (x1 : Int32) (x2 : Int32) (x3 : Int32) (μ : MM) : Option (Int32 × MM) :=
  (f_M_finds a0 x3 x2 μ).bind fun q33 =>
  if q33.1 = 0 then (
    some ((-2 : Int32), q33.2))
  else
  if x1 = (-1 : Int32) then (
    (rL q33.2 a0 1 17).bind fun y48 =>
    some (y48.toInt32, q33.2))
  else
  (rR q33.2 a0 1 16).bind fun y56 =>
  (aI q33.2 y56 x1).bind fun y60 =>
  some (y60, q33.2)
def f_M_rowOf (a0 : Nat) (x1 : Int32) (x2 : Int32) (μ : MM) : Option (Int32 × MM) :=
  (kO μ a0 1).bind fun _ =>
  (f_M_lastBeat a0 μ).bind fun y1 =>
  if y1 = (-1 : Int32) then (
    some ((-1000000000 : Int32), μ))
  else
  if x1 = (-1 : Int32) then (
    f_M_rowOf_J30 a0 x1 x2 y1 μ)
  else
  (f_M_lies x1.toInt64 (1 : Int64) (23 : Int64)).bind fun y21 =>
  if y21 = 0 then (
    some ((-1000000000 : Int32), μ))
  else
  f_M_rowOf_J30 a0 x1 x2 y1 μ
def f_M_way (a0 : Nat) (x1 : Int32) (μ : MM) : Option (Int32 × MM) :=
  (kO μ a0 1).bind fun _ =>
  (f_M_rowOf a0 x1 (0 : Int32) μ).bind fun q3 =>
  some (q3.1, q3.2)
def f_X_change (a0 : Nat) (x1 : Int32) (μ : MM) : Option (Int32 × MM) :=
  (kO μ a0 0).bind fun _ =>
  (f_X_asksRow a0 x1 μ).bind fun y2 =>
  if y2 = 0 then (
    some ((-1000000000 : Int32), μ))
  else
  (f_X_explored a0 μ).bind fun q12 =>
  q12.1.elim (
    some ((-2 : Int32), q12.2)) (fun z17 =>
    (f_Wa_leastRow z17 (1 : Int32) q12.2).bind fun q22 =>
    if q22.1 = 0 then (
      some ((-2 : Int32), q22.2))
    else
    (f_Wa_told z17 x1 q22.2).bind fun y30 =>
    some (y30, q22.2))
def f_M_change (a0 : Nat) (x1 : Int32) (μ : MM) : Option (Int32 × MM) :=
  (kO μ a0 1).bind fun _ =>
  (f_M_rowOf a0 x1 (1 : Int32) μ).bind fun q3 =>
  some (q3.1, q3.2)
def f_Wa_nearer (x0 : Int32) (x1 : Int32) : Option (Int32) :=
  (f_Mt_abs_I x0).bind fun y1 =>
  (f_Mt_abs_I x1).bind fun y6 =>
  if y6 < y1 then (
    some x1)
  else
  if y6 = y1 then (
    if x0 ≤ x1 then (
      some x0)
    else
    some x1)
  else
  some x0
def f_Wa_nearest_L63  (a0 : Nat) (x1 : Int32) (μ : MM) : Nat → Int32 → Int32 → Option (Int32 × MM)
  | 0 => fun _ _ => none
  | n + 1 => fun x2 x3 => 
    (rI μ a0 11 9).bind fun y64 =>
    if y64 < 0 then (
      some (x2, μ))
    else
    (rR μ a0 11 3).bind fun y72 =>
    (rI μ a0 11 9).bind fun y76 =>
    (aI μ y72 y76).bind fun y79 =>
    if y79 ≤ x3 then (
      some (x2, μ))
    else
    (rR μ a0 11 2).bind fun y84 =>
    (rI μ a0 11 9).bind fun y88 =>
    (aI μ y84 ((y88 * (300 : Int32)) + x3)).bind fun y97 =>
    if x1 < y97 then (
      (f_Wa_nearest_L63 a0 x1 μ n) x2 (x3 + (1 : Int32)))
    else
    (rR μ a0 11 1).bind fun y104 =>
    (rI μ a0 11 9).bind fun y108 =>
    (aI μ y104 ((y108 * (300 : Int32)) + x3)).bind fun y117 =>
    (f_Fr_mills y117).bind fun y118 =>
    (f_Wa_nearer x2 y118).bind fun y121 =>
    (f_Wa_nearest_L63 a0 x1 μ n) y121 (x3 + (1 : Int32))
def f_Wa_nearest_L33 (k23 : Int32 → MM → Option (Int32 × MM))  (a0 : Nat) (x1 : Int32) (x2 : Int32) : Nat → Int32 → MM → Option (Int32 × MM)
  | 0 => fun _ _ => none
  | n + 1 => fun x3 μ => 
    if (7 : Int32) ≤ x3 then (
      k23 (x2 + (1 : Int32)) μ)
    else
    (f_Wa_relax a0 x2 x3 (1 : Int32) μ).bind fun μ43 =>
    (f_Wa_nearest_L33 k23 a0 x1 x2 n) (x3 + (1 : Int32)) μ43
def f_Wa_nearest_L23  (a0 : Nat) (x1 : Int32) : Nat → Int32 → MM → Option (Int32 × MM)
  | 0 => fun _ _ => none
  | n + 1 => fun x2 μ => 
    (rI μ a0 11 9).bind fun y25 =>
    if y25 < x2 then (
      f_Wa_nearest_L63 a0 x1 μ FU (-1000000000 : Int32) (0 : Int32))
    else
    f_Wa_nearest_L33 (f_Wa_nearest_L23 a0 x1 n) a0 x1 x2 FU (0 : Int32) μ
def f_Wa_nearest (a0 : Nat) (x1 : Int32) (μ : MM) : Option (Int32 × MM) :=
  (kO μ a0 11).bind fun _ =>
  (f_Wa_price a0 (0 : Int32) μ).bind fun μ2 =>
  (rR μ2 a0 11 2).bind fun y6 =>
  (f_Ar_fill_AI y6 (2147483647 : Int32) μ2).bind fun μ11 =>
  (rR μ11 a0 11 2).bind fun y15 =>
  (uI μ11 y15 (0 : Int32) (0 : Int32)).bind fun μ20 =>
  f_Wa_nearest_L23 a0 x1 FU (1 : Int32) μ20
def f_X_bounded (a0 : Nat) (x1 : Int32) (μ : MM) : Option (Int32 × MM) :=
  (kO μ a0 0).bind fun _ =>
  if x1 < 0 then (
    some ((-1000000000 : Int32), μ))
  else
  if (100000000 : Int32) < x1 then (
    some ((-1000000000 : Int32), μ))
  else
  (rR μ a0 0 0).bind fun y11 =>
  (f_Sc_lastBeat y11 μ).bind fun y14 =>
  if y14 = (-1 : Int32) then (
    some ((-1000000000 : Int32), μ))
  else
  (f_X_explored a0 μ).bind fun q25 =>
  q25.1.elim (
    some ((-1000000000 : Int32), q25.2)) (fun z30 =>
    (f_Wa_nearest z30 x1 q25.2).bind fun q35 =>
    some (q35.1, q35.2))
def f_M_bounded_L228  (a0 : Nat) (x1 : Int32) (x2 : Int32) (μ : MM) : Nat → Int32 → Int32 → Option (Int32 × MM)
  | 0 => fun _ _ => none
  | n + 1 => fun x3 x4 => 
    (rR μ a0 1 11).bind fun y231 =>
    (aI μ y231 x2).bind fun y235 =>
    if y235 ≤ x4 then (
      some (x3, μ))
    else
    (rR μ a0 1 15).bind fun y250 =>
    (aL μ y250 (((300 : Int32) * x2) + x4)).bind fun y255 =>
    if (lg_cmp y255 x1.toInt64) ≤ 0 then (
      (rR μ a0 1 12).bind fun y266 =>
      (aI μ y266 (((300 : Int32) * x2) + x4)).bind fun y271 =>
      (rR μ a0 1 13).bind fun y273 =>
      (aI μ y273 (((300 : Int32) * x2) + x4)).bind fun y278 =>
      (rR μ a0 1 14).bind fun y280 =>
      (aI μ y280 (((300 : Int32) * x2) + x4)).bind fun y285 =>
      (f_M_mills y271 y278 y285).bind fun y286 =>
      if x3 = (-1000000000 : Int32) then (
        (f_M_bounded_L228 a0 x1 x2 μ n) y286 (x4 + (1 : Int32)))
      else
      (f_M_plain y286.toInt64).bind fun y300 =>
      (f_M_plain x3.toInt64).bind fun y305 =>
      if (lg_cmp y300 y305) < 0 then (
        (f_M_bounded_L228 a0 x1 x2 μ n) y286 (x4 + (1 : Int32)))
      else
      (f_M_plain y286.toInt64).bind fun y315 =>
      (f_M_plain x3.toInt64).bind fun y320 =>
      if (lg_cmp y315 y320) = 0 then (
        if x3 ≤ y286 then (
          (f_M_bounded_L228 a0 x1 x2 μ n) x3 (x4 + (1 : Int32)))
        else
        (f_M_bounded_L228 a0 x1 x2 μ n) y286 (x4 + (1 : Int32)))
      else
      (f_M_bounded_L228 a0 x1 x2 μ n) x3 (x4 + (1 : Int32)))
    else
    (f_M_bounded_L228 a0 x1 x2 μ n) x3 (x4 + (1 : Int32))
def f_M_bounded_L132 (k92 : Int32 → MM → Option (Int32 × MM)) (k100 : Int32 → MM → Option (Int32 × MM))  (a0 : Nat) (x1 : Int32) (x2 : Int32) (x3 : Int32) (x4 : Int32) (x5 : Int64) : Nat → Int32 → MM → Option (Int32 × MM)
  | 0 => fun _ _ => none
  | n + 1 => fun x7 μ => 
    (rR μ a0 1 11).bind fun y135 =>
    (aI μ y135 (x3 - (1 : Int32))).bind fun y141 =>
    if y141 ≤ x7 then (
      k100 (x4 + (1 : Int32)) μ)
    else
    (f_M_nextOf a0 x3 x7 x4 μ).bind fun q156 =>
    (rR q156.2 a0 1 15).bind fun y165 =>
    (aL q156.2 y165 (((300 : Int32) * (x3 - (1 : Int32))) + x7)).bind fun y178 =>
    (rR q156.2 a0 1 15).bind fun y185 =>
    (aL q156.2 y185 (((300 : Int32) * x3) + q156.1)).bind fun y190 =>
    if 0 ≤ (lg_cmp (x5 + y178) y190) then (
      (f_M_bounded_L132 k92 k100 a0 x1 x2 x3 x4 x5 n) (x7 + (1 : Int32)) q156.2)
    else
    (rR q156.2 a0 1 15).bind fun y196 =>
    (uL q156.2 y196 (((300 : Int32) * x3) + q156.1) (x5 + y178)).bind fun μ203 =>
    (f_M_bounded_L132 k92 k100 a0 x1 x2 x3 x4 x5 n) (x7 + (1 : Int32)) μ203
def f_M_bounded_L100 (k92 : Int32 → MM → Option (Int32 × MM))  (a0 : Nat) (x1 : Int32) (x2 : Int32) (x3 : Int32) : Nat → Int32 → MM → Option (Int32 × MM)
  | 0 => fun _ _ => none
  | n + 1 => fun x4 μ => 
    if (6 : Int32) ≤ x4 then (
      k92 (x3 + (1 : Int32)) μ)
    else
    (f_M_mayLink a0 x3 x4 μ).bind fun y111 =>
    if y111 = 0 then (
      (f_M_bounded_L100 k92 a0 x1 x2 x3 n) (x4 + (1 : Int32)) μ)
    else
    (f_M_foulBy a0 x3 x4 μ).bind fun y124 =>
    f_M_bounded_L132 k92 (f_M_bounded_L100 k92 a0 x1 x2 x3 n) a0 x1 x2 x3 x4 y124 FU (0 : Int32) μ
def f_M_bounded_L92  (a0 : Nat) (x1 : Int32) (x2 : Int32) : Nat → Int32 → MM → Option (Int32 × MM)
  | 0 => fun _ _ => none
  | n + 1 => fun x3 μ => 
    if x2 < x3 then (
      f_M_bounded_L228 a0 x1 x2 μ FU (-1000000000 : Int32) (0 : Int32))
    else
    f_M_bounded_L100 (f_M_bounded_L92 a0 x1 x2 n) a0 x1 x2 x3 FU (-1 : Int32) μ
def f_M_bounded_J77 (k35 : Int32 → MM → Option (Int32 × MM)) (k43 : Int32 → MM → Option (Int32 × MM))  (a0 : Nat) (x1 : Int32) (x2 : Int32) (x3 : Int32) (x4 : Int32) (s0 : Nat) (s1 : Int32) (s2 : Int64) (μ : MM) : Option (Int32 × MM) :=
  (uL μ s0 s1 s2).bind fun μ77 =>
  k43 (x4 + (1 : Int32)) μ77
def f_M_bounded_L43 (k35 : Int32 → MM → Option (Int32 × MM))  (a0 : Nat) (x1 : Int32) (x2 : Int32) (x3 : Int32) : Nat → Int32 → MM → Option (Int32 × MM)
  | 0 => fun _ _ => none
  | n + 1 => fun x4 μ => 
    (rR μ a0 1 11).bind fun y46 =>
    (aI μ y46 x3).bind fun y50 =>
    if y50 ≤ x4 then (
      k35 (x3 + (1 : Int32)) μ)
    else
    (rR μ a0 1 15).bind fun y55 =>
    if x3 = 0 then (
      f_M_bounded_J77 k35 (f_M_bounded_L43 k35 a0 x1 x2 x3 n) a0 x1 x2 x3 x4 y55 (((300 : Int32) * x3) + x4) (0 : Int64) μ)
    else
    f_M_bounded_J77 k35 (f_M_bounded_L43 k35 a0 x1 x2 x3 n) a0 x1 x2 x3 x4 y55 (((300 : Int32) * x3) + x4) (1000000000000000 : Int64) μ
def f_M_bounded_L35  (a0 : Nat) (x1 : Int32) (x2 : Int32) : Nat → Int32 → MM → Option (Int32 × MM)
  | 0 => fun _ _ => none
  | n + 1 => fun x3 μ => 
    if x2 < x3 then (
      f_M_bounded_L92 a0 x1 x2 FU (1 : Int32) μ)
    else
    f_M_bounded_L43 (f_M_bounded_L35 a0 x1 x2 n) a0 x1 x2 x3 FU (0 : Int32) μ
def f_M_bounded (a0 : Nat) (x1 : Int32) (μ : MM) : Option (Int32 × MM) :=
  (kO μ a0 1).bind fun _ =>
  (f_M_lastBeat a0 μ).bind fun y1 =>
  if y1 = (-1 : Int32) then (
    some ((-1000000000 : Int32), μ))
  else
  (f_M_lies x1.toInt64 (0 : Int64) (100000000 : Int64)).bind fun y16 =>
  if y16 = 0 then (
    some ((-1000000000 : Int32), μ))
  else
  (f_M_lays a0 y1 μ).bind fun q24 =>
  if q24.1 = 0 then (
    some ((-1000000000 : Int32), q24.2))
  else
  f_M_bounded_L35 a0 x1 y1 FU (0 : Int32) q24.2
def f_X_singer_J25  (a0 : Nat) (x1 : Int32) (x2 : Int32) (x3 : Int32) (x4 : Int32) (s0 : Int32) (μ : MM) : Option (Int32 × MM) :=
  if s0 = 0 then (
    some ((-1 : Int32), μ))
  else
  if x3 < (1 : Int32) then (
    some ((-1 : Int32), μ))
  else
  if (9 : Int32) < x3 then (
    some ((-1 : Int32), μ))
  else
  if x4 < 0 then (
    some ((-1 : Int32), μ))
  else
  if (1 : Int32) < x4 then (
    some ((-1 : Int32), μ))
  else
  (rR μ a0 0 1).bind fun y55 =>
  (rI μ y55 2 9).bind fun y58 =>
  if y58 < (8 : Int32) then (
    (rR μ a0 0 1).bind fun y69 =>
    (rI μ y69 2 9).bind fun y72 =>
    (rR μ a0 0 1).bind fun y78 =>
    (rR μ y78 2 1).bind fun y81 =>
    (uI μ y81 y72 x1).bind fun μ87 =>
    (rR μ87 a0 0 1).bind fun y89 =>
    (rR μ87 y89 2 2).bind fun y92 =>
    (uI μ87 y92 y72 x2).bind fun μ98 =>
    (rR μ98 a0 0 1).bind fun y100 =>
    (rR μ98 y100 2 3).bind fun y103 =>
    (uI μ98 y103 y72 x3).bind fun μ109 =>
    (rR μ109 a0 0 1).bind fun y111 =>
    (rR μ109 y111 2 4).bind fun y114 =>
    (uI μ109 y114 y72 x4).bind fun μ121 =>
    (rR μ121 a0 0 1).bind fun y123 =>
    (rI μ121 y123 2 9).bind fun y127 =>
    (pI μ121 y123 2 9 (y127 + (1 : Int32))).bind fun μ132 =>
    (f_X_changed a0 μ132).bind fun q136 =>
    some (y72, q136.2))
  else
  some ((-1 : Int32), μ)
def f_X_singer_J24  (a0 : Nat) (x1 : Int32) (x2 : Int32) (x3 : Int32) (x4 : Int32) (μ : MM) : Option (Int32 × MM) :=
  f_X_singer_J25 a0 x1 x2 x3 x4 (0 : Int32) μ
def f_X_singer (a0 : Nat) (x1 : Int32) (x2 : Int32) (x3 : Int32) (x4 : Int32) (μ : MM) : Option (Int32 × MM) :=
  (kO μ a0 0).bind fun _ =>
  if x1 < 0 then (
    f_X_singer_J24 a0 x1 x2 x3 x4 μ)
  else
  if (6 : Int32) ≤ x1 then (
    f_X_singer_J24 a0 x1 x2 x3 x4 μ)
  else
  if x2 < 0 then (
    f_X_singer_J24 a0 x1 x2 x3 x4 μ)
  else
  if (16 : Int32) ≤ x2 then (
    f_X_singer_J24 a0 x1 x2 x3 x4 μ)
  else
  f_X_singer_J25 a0 x1 x2 x3 x4 (1 : Int32) μ
def f_M_singer (a0 : Nat) (x1 : Int32) (x2 : Int32) (x3 : Int32) (x4 : Int32) (μ : MM) : Option (Int32 × MM) :=
  (kO μ a0 1).bind fun _ =>
  (rI μ a0 1 18).bind fun y1 =>
  if y1 = (8 : Int32) then (
    some ((-1 : Int32), μ))
  else
  (f_M_isVoice x1).bind fun y10 =>
  if y10 = 0 then (
    some ((-1 : Int32), μ))
  else
  (f_M_lies x2.toInt64 (0 : Int64) (15 : Int64)).bind fun y22 =>
  if y22 = 0 then (
    some ((-1 : Int32), μ))
  else
  (f_M_lies x3.toInt64 (1 : Int64) (9 : Int64)).bind fun y34 =>
  if y34 = 0 then (
    some ((-1 : Int32), μ))
  else
  (f_M_lies x4.toInt64 (0 : Int64) (1 : Int64)).bind fun y45 =>
  if y45 = 0 then (
    some ((-1 : Int32), μ))
  else
  (rR μ a0 1 22).bind fun y54 =>
  (rI μ a0 1 18).bind fun y58 =>
  (uI μ y54 y58 x1).bind fun μ62 =>
  (rR μ62 a0 1 23).bind fun y64 =>
  (rI μ62 a0 1 18).bind fun y68 =>
  (uI μ62 y64 y68 x2).bind fun μ72 =>
  (rR μ72 a0 1 24).bind fun y74 =>
  (rI μ72 a0 1 18).bind fun y78 =>
  (uI μ72 y74 y78 x3).bind fun μ82 =>
  (rR μ82 a0 1 25).bind fun y84 =>
  (rI μ82 a0 1 18).bind fun y88 =>
  (uI μ82 y84 y88 x4).bind fun μ93 =>
  (rI μ93 a0 1 18).bind fun y96 =>
  (pI μ93 a0 1 18 (y96 + (1 : Int32))).bind fun μ101 =>
  (rI μ101 a0 1 18).bind fun y105 =>
  some ((y105 - (1 : Int32)), μ101)
def f_Ch_has (a0 : Nat) (x1 : Int32) (μ : MM) : Option (Int32) :=
  (kO μ a0 2).bind fun _ =>
  if x1 < 0 then (
    some (0 : Int32))
  else
  (rI μ a0 2 9).bind fun y6 =>
  if y6 ≤ x1 then (
    some (0 : Int32))
  else
  if (8 : Int32) ≤ x1 then (
    some (0 : Int32))
  else
  some (1 : Int32)
def f_X_place (a0 : Nat) (x1 : Int32) (x2 : Int32) (μ : MM) : Option (Int32 × MM) :=
  (kO μ a0 0).bind fun _ =>
  (rR μ a0 0 1).bind fun y1 =>
  (f_Ch_has y1 x1 μ).bind fun y5 =>
  if y5 = 0 then (
    some ((0 : Int32), μ))
  else
  if x2 < 0 then (
    some ((0 : Int32), μ))
  else
  if x2 < (16 : Int32) then (
    (rR μ a0 0 1).bind fun y24 =>
    (rR μ y24 2 2).bind fun y27 =>
    (uI μ y27 x1 x2).bind fun μ32 =>
    (f_X_changed a0 μ32).bind fun q34 =>
    (rz q34.1).bind fun y37 =>
    some (y37, q34.2))
  else
  some ((0 : Int32), μ)
def f_M_isSinger (a0 : Nat) (x1 : Int32) (μ : MM) : Option (Int32) :=
  (kO μ a0 1).bind fun _ =>
  (rI μ a0 1 18).bind fun y4 =>
  (f_M_lies x1.toInt64 (0 : Int64) ((y4 - (1 : Int32)).toInt64)).bind fun y10 =>
  (rz y10).bind fun y13 =>
  some y13
def f_M_place (a0 : Nat) (x1 : Int32) (x2 : Int32) (μ : MM) : Option (Int32 × MM) :=
  (kO μ a0 1).bind fun _ =>
  (f_M_isSinger a0 x1 μ).bind fun y2 =>
  if y2 = 0 then (
    some ((0 : Int32), μ))
  else
  (f_M_lies x2.toInt64 (0 : Int64) (15 : Int64)).bind fun y14 =>
  if y14 = 0 then (
    some ((0 : Int32), μ))
  else
  (rR μ a0 1 23).bind fun y23 =>
  (uI μ y23 x1 x2).bind fun μ28 =>
  some ((1 : Int32), μ28)
def f_X_table (a0 : Nat) (x1 : Int32) (x2 : Int32) (μ : MM) : Option (Int32 × MM) :=
  (kO μ a0 0).bind fun _ =>
  if x1 < 0 then (
    some ((0 : Int32), μ))
  else
  if (12 : Int32) ≤ x1 then (
    some ((0 : Int32), μ))
  else
  if x2 < (-60000 : Int32) then (
    some ((0 : Int32), μ))
  else
  if x2 ≤ (60000 : Int32) then (
    (rR μ a0 0 1).bind fun y25 =>
    (rR μ y25 2 7).bind fun y28 =>
    (uI μ y28 x1 x2).bind fun μ33 =>
    (f_X_changed a0 μ33).bind fun q35 =>
    (rz q35.1).bind fun y38 =>
    some (y38, q35.2))
  else
  some ((0 : Int32), μ)
def f_M_table (a0 : Nat) (x1 : Int32) (x2 : Int32) (μ : MM) : Option (Int32 × MM) :=
  (kO μ a0 1).bind fun _ =>
  (f_M_lies x1.toInt64 (0 : Int64) (11 : Int64)).bind fun y6 =>
  if y6 = 0 then (
    some ((0 : Int32), μ))
  else
  (f_M_lies x2.toInt64 (-60000 : Int64) (60000 : Int64)).bind fun y20 =>
  if y20 = 0 then (
    some ((0 : Int32), μ))
  else
  (rR μ a0 1 26).bind fun y29 =>
  (uI μ y29 x1 x2).bind fun μ34 =>
  some ((1 : Int32), μ34)
def f_X_seed (a0 : Nat) (x1 : Int32) (μ : MM) : Option (Int32 × MM) :=
  (kO μ a0 0).bind fun _ =>
  if x1 < 0 then (
    some ((0 : Int32), μ))
  else
  if x1 ≤ (65535 : Int32) then (
    (rR μ a0 0 1).bind fun y13 =>
    (pI μ y13 2 10 x1).bind fun μ17 =>
    (f_X_changed a0 μ17).bind fun q21 =>
    (rz q21.1).bind fun y24 =>
    some (y24, q21.2))
  else
  some ((0 : Int32), μ)
def f_M_seed (a0 : Nat) (x1 : Int32) (μ : MM) : Option (Int32 × MM) :=
  (kO μ a0 1).bind fun _ =>
  (f_M_lies x1.toInt64 (0 : Int64) (65535 : Int64)).bind fun y6 =>
  if y6 = 0 then (
    some ((0 : Int32), μ))
  else
  (pI μ a0 1 19 x1).bind fun μ16 =>
  some ((1 : Int32), μ16)
def f_X_blown (a0 : Nat) (x1 : Int32) (μ : MM) : Option (Int32 × MM) :=
  (kO μ a0 0).bind fun _ =>
  if x1 < (-200000 : Int32) then (
    some ((0 : Int32), μ))
  else
  if x1 ≤ (200000 : Int32) then (
    (rR μ a0 0 1).bind fun y15 =>
    (pI μ y15 2 11 x1).bind fun μ19 =>
    (f_X_changed a0 μ19).bind fun q23 =>
    (rz q23.1).bind fun y26 =>
    some (y26, q23.2))
  else
  some ((0 : Int32), μ)
def f_M_blown (a0 : Nat) (x1 : Int32) (μ : MM) : Option (Int32 × MM) :=
  (kO μ a0 1).bind fun _ =>
  (f_M_lies x1.toInt64 (-200000 : Int64) (200000 : Int64)).bind fun y8 =>
  if y8 = 0 then (
    some ((0 : Int32), μ))
  else
  (pI μ a0 1 20 x1).bind fun μ18 =>
  some ((1 : Int32), μ18)
def f_X_given (a0 : Nat) (x1 : Int32) (μ : MM) : Option (Int32 × MM) :=
  (kO μ a0 0).bind fun _ =>
  if x1 < 0 then (
    some ((0 : Int32), μ))
  else
  if x1 < (16777216 : Int32) then (
    (rR μ a0 0 1).bind fun y13 =>
    (pI μ y13 2 12 x1).bind fun μ17 =>
    (f_X_changed a0 μ17).bind fun q21 =>
    (rz q21.1).bind fun y24 =>
    some (y24, q21.2))
  else
  some ((0 : Int32), μ)
def f_M_given (a0 : Nat) (x1 : Int32) (μ : MM) : Option (Int32 × MM) :=
  (kO μ a0 1).bind fun _ =>
  (f_M_lies x1.toInt64 (0 : Int64) (16777215 : Int64)).bind fun y6 =>
  if y6 = 0 then (
    some ((0 : Int32), μ))
  else
  (pI μ a0 1 21 x1).bind fun μ16 =>
  some ((1 : Int32), μ16)
def f_Rl_hasRoom (a0 : Nat) (μ : MM) : Option (Int32) :=
  (kO μ a0 7).bind fun _ =>
  (rI μ a0 7 1).bind fun y1 =>
  if (200 : Int32) < y1 then (
    some (0 : Int32))
  else
  some (1 : Int32)
def f_Rl_add_L3  (a0 : Nat) (x1 : Int32) : Nat → Int32 → MM → Option (MM)
  | 0 => fun _ _ => none
  | n + 1 => fun x2 μ => 
    if x2 < 0 then (
      some μ)
    else
    (rI μ a0 7 1).bind fun y8 =>
    if (220 : Int32) ≤ y8 then (
      some μ)
    else
    (rR μ a0 7 0).bind fun y18 =>
    (rI μ a0 7 1).bind fun y22 =>
    (uI μ y18 y22 ((ishr x1 x2) &&& (255 : Int32))).bind fun μ32 =>
    (rI μ32 a0 7 1).bind fun y35 =>
    (pI μ32 a0 7 1 (y35 + (1 : Int32))).bind fun μ40 =>
    (f_Rl_add_L3 a0 x1 n) (x2 + (-8 : Int32)) μ40
def f_Rl_add (a0 : Nat) (x1 : Int32) (μ : MM) : Option (MM) :=
  (kO μ a0 7).bind fun _ =>
  f_Rl_add_L3 a0 x1 FU (24 : Int32) μ
def f_X_feed (a0 : Nat) (x1 : Int32) (x2 : Int32) (x3 : Int32) (x4 : Int32) (x5 : Int32) (μ : MM) : Option (Int32 × MM) :=
  (kO μ a0 0).bind fun _ =>
  (rR μ a0 0 6).bind fun y1 =>
  (f_Rl_hasRoom y1 μ).bind fun y4 =>
  if y4 = 0 then (
    some ((-1 : Int32), μ))
  else
  (rR μ a0 0 6).bind fun y13 =>
  (f_Rl_add y13 x1 μ).bind fun μ17 =>
  (rR μ17 a0 0 6).bind fun y21 =>
  (f_Rl_add y21 x2 μ17).bind fun μ25 =>
  (rR μ25 a0 0 6).bind fun y29 =>
  (f_Rl_add y29 x3 μ25).bind fun μ33 =>
  (rR μ33 a0 0 6).bind fun y37 =>
  (f_Rl_add y37 x4 μ33).bind fun μ42 =>
  (rR μ42 a0 0 6).bind fun y46 =>
  (f_Rl_add y46 x5 μ42).bind fun μ51 =>
  (rR μ51 a0 0 6).bind fun y55 =>
  (rI μ51 y55 7 1).bind fun y58 =>
  some (y58, μ51)
def f_M_push_L3  (a0 : Nat) (x1 : Int32) : Nat → Int32 → MM → Option (MM)
  | 0 => fun _ _ => none
  | n + 1 => fun x2 μ => 
    if x2 < 0 then (
      some μ)
    else
    (rR μ a0 1 0).bind fun y8 =>
    (rI μ a0 1 1).bind fun y12 =>
    (uB μ y8 y12 ((ishr x1 x2).toInt8.toInt32)).bind fun μ19 =>
    (rI μ19 a0 1 1).bind fun y22 =>
    (pI μ19 a0 1 1 (y22 + (1 : Int32))).bind fun μ27 =>
    (f_M_push_L3 a0 x1 n) (x2 + (-8 : Int32)) μ27
def f_M_push (a0 : Nat) (x1 : Int32) (μ : MM) : Option (MM) :=
  (kO μ a0 1).bind fun _ =>
  f_M_push_L3 a0 x1 FU (24 : Int32) μ
def f_M_feed (a0 : Nat) (x1 : Int32) (x2 : Int32) (x3 : Int32) (x4 : Int32) (x5 : Int32) (μ : MM) : Option (Int32 × MM) :=
  (kO μ a0 1).bind fun _ =>
  (rI μ a0 1 1).bind fun y1 =>
  if (y1 + (20 : Int32)) ≤ (220 : Int32) then (
    (f_M_push a0 x1 μ).bind fun μ17 =>
    (f_M_push a0 x2 μ17).bind fun μ22 =>
    (f_M_push a0 x3 μ22).bind fun μ27 =>
    (f_M_push a0 x4 μ27).bind fun μ33 =>
    (f_M_push a0 x5 μ33).bind fun μ39 =>
    (rI μ39 a0 1 1).bind fun y43 =>
    some (y43, μ39))
  else
  some ((-1 : Int32), μ)
def f_Pr_clear (a0 : Nat) (μ : MM) : Option (MM) :=
  (kO μ a0 5).bind fun _ =>
  (pI μ a0 5 6 (0 : Int32)).bind fun μ2 =>
  (pI μ2 a0 5 7 (0 : Int32)).bind fun μ7 =>
  some μ7
def f_Re_here (a0 : Nat) (μ : MM) : Option (Int32) :=
  (kO μ a0 6).bind fun _ =>
  (rI μ a0 6 4).bind fun y1 =>
  if y1 = 0 then (
    (rI μ a0 6 3).bind fun y8 =>
    (rI μ a0 6 2).bind fun y12 =>
    if y12 ≤ y8 then (
      some (-1 : Int32))
    else
    (rR μ a0 6 0).bind fun y19 =>
    (rI μ a0 6 3).bind fun y23 =>
    (aI μ y19 y23).bind fun y26 =>
    some y26)
  else
  some (-1 : Int32)
def f_Str_isLatin1 (a0 : Nat) : Option (Int32) :=
  (if a0 = LIM ∨ a0 = LIM + 1 then some () else none).bind fun _ =>
  if (1 : Int32) = 0 then (
    some (0 : Int32))
  else
  (sC a0).bind fun y7 =>
  if y7 = 0 then (
    some (1 : Int32))
  else
  some (0 : Int32)
def f_SL_canEncode (x0 : Int32) : Option (Int32) :=
  if x0 < 0 then (
    some (0 : Int32))
  else
  if (255 : Int32) < x0 then (
    some (0 : Int32))
  else
  some (1 : Int32)
def f_Mt_max_II (x0 : Int32) (x1 : Int32) : Option (Int32) :=
  if x0 < x1 then (
    some x1)
  else
  some x0
def f_SL_indexOfChar_L7  (a0 : Nat) (x3 : Int32) (x4 : Int32) : Nat → Int32 → Option (Int32)
  | 0 => fun _ => none
  | n + 1 => fun x5 => 
    if x3 ≤ x5 then (
      some (-1 : Int32))
    else
    (sB a0 x5).bind fun y16 =>
    if y16 = x4 then (
      some x5)
    else
    (f_SL_indexOfChar_L7 a0 x3 x4 n) (x5 + (1 : Int32))
def f_SL_indexOfChar (a0 : Nat) (x1 : Int32) (x2 : Int32) (x3 : Int32) : Option (Int32) :=
  f_SL_indexOfChar_L7 a0 x3 x1.toInt8.toInt32 FU x2
def f_SL_indexOf (a0 : Nat) (x1 : Int32) (x2 : Int32) (x3 : Int32) : Option (Int32) :=
  (f_SL_canEncode x1).bind fun y1 =>
  if y1 = 0 then (
    some (-1 : Int32))
  else
  (f_Mt_max_II x2 (0 : Int32)).bind fun y11 =>
  (sN a0).bind fun y17 =>
  (f_Mt_min x3 y17).bind fun y18 =>
  if y11 < y18 then (
    (f_SL_indexOfChar a0 x1 y11 y18).bind fun y33 =>
    some y33)
  else
  some (-1 : Int32)
def f_Str_indexOf_II (a0 : Nat) (x1 : Int32) (x2 : Int32) : Option (Int32) :=
  (if a0 = LIM ∨ a0 = LIM + 1 then some () else none).bind fun _ =>
  (f_Str_isLatin1 a0).bind fun y1 =>
  if y1 = 0 then (
    (sV a0).bind fun y24 =>
    (f_Str_length a0).bind fun y30 =>
    none)
  else
  (sV a0).bind fun y8 =>
  (f_Str_length a0).bind fun y14 =>
  (f_SL_indexOf y8 x1 x2 y14).bind fun y17 =>
  some y17
def f_Str_indexOf_I (a0 : Nat) (x1 : Int32) : Option (Int32) :=
  (if a0 = LIM ∨ a0 = LIM + 1 then some () else none).bind fun _ =>
  (f_Str_indexOf_II a0 x1 (0 : Int32)).bind fun y3 =>
  some y3
def f_Re_indexIn (a0 : Nat) (x1 : Int32) : Option (Int32) :=
  if x1 = (-1 : Int32) then (
    some (-1 : Int32))
  else
  (f_Str_indexOf_I a0 (i2c x1)).bind fun y12 =>
  some y12
def f_Re_fail_J25  (s0 : Nat) (s1 : Int32) (μ : MM) : Option (MM) :=
  (pI μ s0 6 4 s1).bind fun μ25 =>
  some μ25
def f_Re_fail (a0 : Nat) (x1 : Int32) (μ : MM) : Option (MM) :=
  (kO μ a0 6).bind fun _ =>
  (rI μ a0 6 4).bind fun y2 =>
  if y2 = 0 then (
    (rI μ a0 6 3).bind fun y14 =>
    f_Re_fail_J25 a0 (((1000 : Int32) * x1) + y14) μ)
  else
  (rI μ a0 6 4).bind fun y22 =>
  f_Re_fail_J25 a0 y22 μ
def f_Pr_open (a0 : Nat) (x1 : Int32) (μ : MM) : Option (MM) :=
  (kO μ a0 5).bind fun _ =>
  (rI μ a0 5 7).bind fun y1 =>
  if (14 : Int32) ≤ y1 then (
    some μ)
  else
  (rR μ a0 5 3).bind fun y10 =>
  (rI μ a0 5 7).bind fun y14 =>
  (uI μ y10 y14 x1).bind fun μ18 =>
  (rR μ18 a0 5 4).bind fun y20 =>
  (rI μ18 a0 5 7).bind fun y24 =>
  (rI μ18 a0 5 6).bind fun y28 =>
  (uI μ18 y20 y24 y28).bind fun μ31 =>
  some μ31
def f_Pr_add_J42  (a0 : Nat) (μ : MM) : Option (Int32 × MM) :=
  (rI μ a0 5 6).bind fun y43 =>
  some ((y43 - (1 : Int32)), μ)
def f_Pr_add (a0 : Nat) (x1 : Int32) (x2 : Int32) (μ : MM) : Option (Int32 × MM) :=
  (kO μ a0 5).bind fun _ =>
  (rI μ a0 5 6).bind fun y1 =>
  (rR μ a0 5 0).bind fun y5 =>
  (aN μ y5).bind fun y8 =>
  if y8 ≤ y1 then (
    f_Pr_add_J42 a0 μ)
  else
  (rR μ a0 5 0).bind fun y13 =>
  (rI μ a0 5 6).bind fun y17 =>
  (uI μ y13 y17 x1).bind fun μ21 =>
  (rR μ21 a0 5 1).bind fun y23 =>
  (rI μ21 a0 5 6).bind fun y27 =>
  (uI μ21 y23 y27 x2).bind fun μ31 =>
  (rI μ31 a0 5 6).bind fun y34 =>
  (pI μ31 a0 5 6 (y34 + (1 : Int32))).bind fun μ39 =>
  f_Pr_add_J42 a0 μ39
def f_Pr_land (a0 : Nat) (x1 : Int32) (μ : MM) : Option (MM) :=
  (kO μ a0 5).bind fun _ =>
  if x1 < 0 then (
    some μ)
  else
  (rI μ a0 5 6).bind fun y6 =>
  if y6 ≤ x1 then (
    some μ)
  else
  (rR μ a0 5 1).bind fun y13 =>
  (rI μ a0 5 6).bind fun y18 =>
  (uI μ y13 x1 y18).bind fun μ21 =>
  some μ21
def f_Re_comparison_J31  (a0 : Nat) (x1 : Int32) (μ : MM) : Option (Int32 × MM) :=
  (rI μ a0 6 3).bind fun y33 =>
  (pI μ a0 6 3 (y33 + (1 : Int32))).bind fun μ38 =>
  if x1 = (60 : Int32) then (
    some ((7 : Int32), μ38))
  else
  if x1 = (62 : Int32) then (
    some ((8 : Int32), μ38))
  else
  some ((9 : Int32), μ38)
def f_Re_comparison (a0 : Nat) (μ : MM) : Option (Int32 × MM) :=
  (kO μ a0 6).bind fun _ =>
  (f_Re_here a0 μ).bind fun y1 =>
  if y1 = (60 : Int32) then (
    f_Re_comparison_J31 a0 y1 μ)
  else
  if y1 = (62 : Int32) then (
    f_Re_comparison_J31 a0 y1 μ)
  else
  if y1 = (61 : Int32) then (
    f_Re_comparison_J31 a0 y1 μ)
  else
  (f_Re_fail a0 (1 : Int32) μ).bind fun μ25 =>
  some ((9 : Int32), μ25)
def f_Re_take (a0 : Nat) (x1 : Int32) (μ : MM) : Option (MM) :=
  (kO μ a0 6).bind fun _ =>
  (f_Re_here a0 μ).bind fun y1 =>
  if y1 = x1 then (
    (rI μ a0 6 3).bind fun y10 =>
    (pI μ a0 6 3 (y10 + (1 : Int32))).bind fun μ15 =>
    some μ15)
  else
  (f_Re_fail a0 (1 : Int32) μ).bind fun μ23 =>
  some μ23
def f_Re_isDigit (x0 : Int32) : Option (Int32) :=
  if x0 < (48 : Int32) then (
    some (0 : Int32))
  else
  if (57 : Int32) < x0 then (
    some (0 : Int32))
  else
  some (1 : Int32)
def f_Re_number_J63  (a0 : Nat) (x1 : Int32) (μ : MM) : Option (MM) :=
  (rR μ a0 6 1).bind fun y64 =>
  (f_Pr_add y64 (0 : Int32) x1 μ).bind fun q69 =>
  some q69.2
def f_Re_number_J48  (a0 : Nat) (x1 : Int32) (μ : MM) : Option (MM) :=
  (f_Re_here a0 μ).bind fun y49 =>
  (f_Re_isDigit y49).bind fun y52 =>
  if y52 = 0 then (
    f_Re_number_J63 a0 x1 μ)
  else
  (f_Re_fail a0 (2 : Int32) μ).bind fun μ60 =>
  f_Re_number_J63 a0 x1 μ60
def f_Re_number_L4  (a0 : Nat) : Nat → Int32 → Int32 → MM → Option (MM)
  | 0 => fun _ _ _ => none
  | n + 1 => fun x1 x2 μ => 
    if (5 : Int32) ≤ x2 then (
      f_Re_number_J48 a0 x1 μ)
    else
    (f_Re_here a0 μ).bind fun y10 =>
    (f_Re_isDigit y10).bind fun y13 =>
    if y13 = 0 then (
      f_Re_number_J48 a0 x1 μ)
    else
    (f_Re_here a0 μ).bind fun y24 =>
    (rI μ a0 6 3).bind fun y34 =>
    (pI μ a0 6 3 (y34 + (1 : Int32))).bind fun μ39 =>
    (f_Re_number_L4 a0 n) ((((10 : Int32) * x1) + y24) - (48 : Int32)) (x2 + (1 : Int32)) μ39
def f_Re_number (a0 : Nat) (μ : MM) : Option (MM) :=
  (kO μ a0 6).bind fun _ =>
  f_Re_number_L4 a0 FU (0 : Int32) (0 : Int32) μ
def f_Re_either_L7 (rc : Nat → Nat → Int32 → MM → Option MM)  (a0 : Nat) (x1 : Int32) : Nat → Int32 → MM → Option (MM)
  | 0 => fun _ _ => none
  | n + 1 => fun x2 μ => 
    if (200 : Int32) ≤ x2 then (
      some μ)
    else
    (f_Re_here a0 μ).bind fun y15 =>
    if y15 = (124 : Int32) then (
      (rI μ a0 6 3).bind fun y25 =>
      (pI μ a0 6 3 (y25 + (1 : Int32))).bind fun μ30 =>
      (rR μ30 a0 6 1).bind fun y34 =>
      (f_Pr_add y34 (12 : Int32) (0 : Int32) μ30).bind fun q40 =>
      (rc 1 a0 x1 q40.2).bind fun μ46 =>
      (rR μ46 a0 6 1).bind fun y50 =>
      (f_Pr_land y50 q40.1 μ46).bind fun μ54 =>
      (f_Re_either_L7 rc a0 x1 n) (x2 + (1 : Int32)) μ54)
    else
    some μ
def f_Re_either (rc : Nat → Nat → Int32 → MM → Option MM) (a0 : Nat) (x1 : Int32) (μ : MM) : Option (MM) :=
  (kO μ a0 6).bind fun _ =>
  (rc 1 a0 x1 μ).bind fun μ2 =>
  f_Re_either_L7 rc a0 x1 FU (0 : Int32) μ2
def f_Re_all_L7 (rc : Nat → Nat → Int32 → MM → Option MM)  (a0 : Nat) (x1 : Int32) : Nat → Int32 → MM → Option (MM)
  | 0 => fun _ _ => none
  | n + 1 => fun x2 μ => 
    if (200 : Int32) ≤ x2 then (
      some μ)
    else
    (f_Re_here a0 μ).bind fun y15 =>
    if y15 = (38 : Int32) then (
      (rI μ a0 6 3).bind fun y25 =>
      (pI μ a0 6 3 (y25 + (1 : Int32))).bind fun μ30 =>
      (rR μ30 a0 6 1).bind fun y34 =>
      (f_Pr_add y34 (11 : Int32) (0 : Int32) μ30).bind fun q40 =>
      (rc 2 a0 x1 q40.2).bind fun μ46 =>
      (rR μ46 a0 6 1).bind fun y50 =>
      (f_Pr_land y50 q40.1 μ46).bind fun μ54 =>
      (f_Re_all_L7 rc a0 x1 n) (x2 + (1 : Int32)) μ54)
    else
    some μ
def f_Re_all (rc : Nat → Nat → Int32 → MM → Option MM) (a0 : Nat) (x1 : Int32) (μ : MM) : Option (MM) :=
  (kO μ a0 6).bind fun _ =>
  (rc 2 a0 x1 μ).bind fun μ2 =>
  f_Re_all_L7 rc a0 x1 FU (0 : Int32) μ2
def f_Re_piece_J45 (rc : Nat → Nat → Int32 → MM → Option MM)  (a0 : Nat) (x1 : Int32) (x2 : Int32) (μ : MM) : Option (MM) :=
  if x1 < (6 : Int32) then (
    if x2 = (33 : Int32) then (
      (rI μ a0 6 3).bind fun y67 =>
      (pI μ a0 6 3 (y67 + (1 : Int32))).bind fun μ72 =>
      (rc 2 a0 (x1 + (1 : Int32)) μ72).bind fun μ79 =>
      (rR μ79 a0 6 1).bind fun y83 =>
      (f_Pr_add y83 (10 : Int32) (0 : Int32) μ79).bind fun q89 =>
      some q89.2)
    else
    (rI μ a0 6 3).bind fun y98 =>
    (pI μ a0 6 3 (y98 + (1 : Int32))).bind fun μ103 =>
    (rc 0 a0 (x1 + (1 : Int32)) μ103).bind fun μ110 =>
    (f_Re_take a0 (41 : Int32) μ110).bind fun μ116 =>
    some μ116)
  else
  (f_Re_fail a0 (5 : Int32) μ).bind fun μ53 =>
  some μ53
def f_Re_piece (rc : Nat → Nat → Int32 → MM → Option MM) (a0 : Nat) (x1 : Int32) (μ : MM) : Option (MM) :=
  (kO μ a0 6).bind fun _ =>
  (f_Re_here a0 μ).bind fun y1 =>
  if y1 = (33 : Int32) then (
    f_Re_piece_J45 rc a0 x1 y1 μ)
  else
  if y1 = (40 : Int32) then (
    f_Re_piece_J45 rc a0 x1 y1 μ)
  else
  (rc 3 a0 x1 μ).bind fun μ19 =>
  (f_Re_comparison a0 μ19).bind fun q23 =>
  (rc 3 a0 x1 q23.2).bind fun μ29 =>
  (rR μ29 a0 6 1).bind fun y33 =>
  (f_Pr_add y33 q23.1 (0 : Int32) μ29).bind fun q38 =>
  some q38.2
def f_Re_sum_J46 (rc : Nat → Nat → Int32 → MM → Option MM) (k7 : Int32 → MM → Option (MM))  (a0 : Nat) (x1 : Int32) (x2 : Int32) (s0 : Int32) (μ : MM) : Option (MM) :=
  (rI μ a0 6 3).bind fun y49 =>
  (pI μ a0 6 3 (y49 + (1 : Int32))).bind fun μ54 =>
  (rc 4 a0 x1 μ54).bind fun μ59 =>
  (rR μ59 a0 6 1).bind fun y63 =>
  (f_Pr_add y63 s0 (0 : Int32) μ59).bind fun q68 =>
  k7 (x2 + (1 : Int32)) q68.2
def f_Re_sum_J32 (rc : Nat → Nat → Int32 → MM → Option MM) (k7 : Int32 → MM → Option (MM))  (a0 : Nat) (x1 : Int32) (x2 : Int32) (μ : MM) : Option (MM) :=
  (f_Re_here a0 μ).bind fun y33 =>
  if y33 = (43 : Int32) then (
    f_Re_sum_J46 rc k7 a0 x1 x2 (2 : Int32) μ)
  else
  f_Re_sum_J46 rc k7 a0 x1 x2 (3 : Int32) μ
def f_Re_sum_L7 (rc : Nat → Nat → Int32 → MM → Option MM)  (a0 : Nat) (x1 : Int32) : Nat → Int32 → MM → Option (MM)
  | 0 => fun _ _ => none
  | n + 1 => fun x2 μ => 
    if (200 : Int32) ≤ x2 then (
      some μ)
    else
    (f_Re_here a0 μ).bind fun y15 =>
    if y15 = (43 : Int32) then (
      f_Re_sum_J32 rc (f_Re_sum_L7 rc a0 x1 n) a0 x1 x2 μ)
    else
    (f_Re_here a0 μ).bind fun y24 =>
    if y24 = (45 : Int32) then (
      f_Re_sum_J32 rc (f_Re_sum_L7 rc a0 x1 n) a0 x1 x2 μ)
    else
    some μ
def f_Re_sum (rc : Nat → Nat → Int32 → MM → Option MM) (a0 : Nat) (x1 : Int32) (μ : MM) : Option (MM) :=
  (kO μ a0 6).bind fun _ =>
  (rc 4 a0 x1 μ).bind fun μ2 =>
  f_Re_sum_L7 rc a0 x1 FU (0 : Int32) μ2
def f_Re_product_J69 (rc : Nat → Nat → Int32 → MM → Option MM) (k7 : Int32 → MM → Option (MM))  (a0 : Nat) (x1 : Int32) (x2 : Int32) (s0 : Int32) (μ : MM) : Option (MM) :=
  (rI μ a0 6 3).bind fun y72 =>
  (pI μ a0 6 3 (y72 + (1 : Int32))).bind fun μ77 =>
  (rc 5 a0 x1 μ77).bind fun μ82 =>
  (rR μ82 a0 6 1).bind fun y86 =>
  (f_Pr_add y86 s0 (0 : Int32) μ82).bind fun q91 =>
  k7 (x2 + (1 : Int32)) q91.2
def f_Re_product_J41 (rc : Nat → Nat → Int32 → MM → Option MM) (k7 : Int32 → MM → Option (MM))  (a0 : Nat) (x1 : Int32) (x2 : Int32) (μ : MM) : Option (MM) :=
  (f_Re_here a0 μ).bind fun y42 =>
  if y42 = (42 : Int32) then (
    f_Re_product_J69 rc k7 a0 x1 x2 (4 : Int32) μ)
  else
  (f_Re_here a0 μ).bind fun y55 =>
  if y55 = (47 : Int32) then (
    f_Re_product_J69 rc k7 a0 x1 x2 (5 : Int32) μ)
  else
  f_Re_product_J69 rc k7 a0 x1 x2 (6 : Int32) μ
def f_Re_product_L7 (rc : Nat → Nat → Int32 → MM → Option MM)  (a0 : Nat) (x1 : Int32) : Nat → Int32 → MM → Option (MM)
  | 0 => fun _ _ => none
  | n + 1 => fun x2 μ => 
    if (200 : Int32) ≤ x2 then (
      some μ)
    else
    (f_Re_here a0 μ).bind fun y15 =>
    if y15 = (42 : Int32) then (
      f_Re_product_J41 rc (f_Re_product_L7 rc a0 x1 n) a0 x1 x2 μ)
    else
    (f_Re_here a0 μ).bind fun y24 =>
    if y24 = (47 : Int32) then (
      f_Re_product_J41 rc (f_Re_product_L7 rc a0 x1 n) a0 x1 x2 μ)
    else
    (f_Re_here a0 μ).bind fun y33 =>
    if y33 = (37 : Int32) then (
      f_Re_product_J41 rc (f_Re_product_L7 rc a0 x1 n) a0 x1 x2 μ)
    else
    some μ
def f_Re_product (rc : Nat → Nat → Int32 → MM → Option MM) (a0 : Nat) (x1 : Int32) (μ : MM) : Option (MM) :=
  (kO μ a0 6).bind fun _ =>
  (rc 5 a0 x1 μ).bind fun μ2 =>
  f_Re_product_L7 rc a0 x1 FU (0 : Int32) μ2
def f_Re_factor (rc : Nat → Nat → Int32 → MM → Option MM) (a0 : Nat) (x1 : Int32) (μ : MM) : Option (MM) :=
  (kO μ a0 6).bind fun _ =>
  (f_Re_here a0 μ).bind fun y1 =>
  (f_Re_indexIn (LIM + 0) y1).bind fun y8 =>
  if y8 = (-1 : Int32) then (
    (f_Re_isDigit y1).bind fun y41 =>
    if y41 = 0 then (
      if y1 = (91 : Int32) then (
        if x1 < (6 : Int32) then (
          (rI μ a0 6 3).bind fun y84 =>
          (pI μ a0 6 3 (y84 + (1 : Int32))).bind fun μ89 =>
          (rc 3 a0 (x1 + (1 : Int32)) μ89).bind fun μ96 =>
          (f_Re_take a0 (93 : Int32) μ96).bind fun μ102 =>
          some μ102)
        else
        (f_Re_fail a0 (5 : Int32) μ).bind fun μ76 =>
        some μ76)
      else
      (f_Re_fail a0 (1 : Int32) μ).bind fun μ62 =>
      some μ62)
    else
    (f_Re_number a0 μ).bind fun μ48 =>
    some μ48)
  else
  (rI μ a0 6 3).bind fun y19 =>
  (pI μ a0 6 3 (y19 + (1 : Int32))).bind fun μ24 =>
  (rR μ24 a0 6 1).bind fun y28 =>
  (f_Pr_add y28 (1 : Int32) y8 μ24).bind fun q33 =>
  some q33.2
def f_Re_rec : Nat → Nat → Nat → Int32 → MM → Option MM
  | 0 => fun _ _ _ _ => none
  | d + 1 => fun t a x μ => match t with
    | 0 => f_Re_either (f_Re_rec d) a x μ
    | 1 => f_Re_all (f_Re_rec d) a x μ
    | 2 => f_Re_piece (f_Re_rec d) a x μ
    | 3 => f_Re_sum (f_Re_rec d) a x μ
    | 4 => f_Re_product (f_Re_rec d) a x μ
    | 5 => f_Re_factor (f_Re_rec d) a x μ
    | _ => none
def f_Pr_divide (a0 : Nat) (μ : MM) : Option (MM) :=
  (kO μ a0 5).bind fun _ =>
  (rI μ a0 5 7).bind fun y1 =>
  if (14 : Int32) ≤ y1 then (
    some μ)
  else
  (rR μ a0 5 5).bind fun y10 =>
  (rI μ a0 5 7).bind fun y14 =>
  (rI μ a0 5 6).bind fun y18 =>
  (uI μ y10 y14 y18).bind fun μ21 =>
  some μ21
def f_Pr_close (a0 : Nat) (μ : MM) : Option (MM) :=
  (kO μ a0 5).bind fun _ =>
  (rI μ a0 5 7).bind fun y1 =>
  if (14 : Int32) ≤ y1 then (
    some μ)
  else
  (rI μ a0 5 7).bind fun y11 =>
  (pI μ a0 5 7 (y11 + (1 : Int32))).bind fun μ16 =>
  (rR μ16 a0 5 4).bind fun y20 =>
  (rI μ16 a0 5 7).bind fun y24 =>
  (rI μ16 a0 5 6).bind fun y28 =>
  (uI μ16 y20 y24 y28).bind fun μ31 =>
  some μ31
def f_Re_clause (a0 : Nat) (x1 : Int32) (μ : MM) : Option (MM) :=
  (kO μ a0 6).bind fun _ =>
  (f_Re_here a0 μ).bind fun y3 =>
  (f_Re_indexIn (LIM + 1) y3).bind fun y6 =>
  if y6 = (-1 : Int32) then (
    (f_Re_fail a0 (1 : Int32) μ).bind fun μ17 =>
    some μ17)
  else
  if x1 = (14 : Int32) then (
    (f_Re_fail a0 (4 : Int32) μ).bind fun μ29 =>
    some μ29)
  else
  (rI μ a0 6 3).bind fun y35 =>
  (pI μ a0 6 3 (y35 + (1 : Int32))).bind fun μ40 =>
  (rR μ40 a0 6 1).bind fun y44 =>
  (f_Pr_open y44 y6 μ40).bind fun μ48 =>
  (f_Re_rec 120 3 a0 (0 : Int32) μ48).bind fun μ53 =>
  (rR μ53 a0 6 1).bind fun y57 =>
  (f_Pr_divide y57 μ53).bind fun μ60 =>
  (f_Re_take a0 (40 : Int32) μ60).bind fun μ66 =>
  (f_Re_rec 120 0 a0 (1 : Int32) μ66).bind fun μ71 =>
  (f_Re_take a0 (41 : Int32) μ71).bind fun μ77 =>
  (rR μ77 a0 6 1).bind fun y81 =>
  (f_Pr_close y81 μ77).bind fun μ84 =>
  some μ84
def f_Re_read_J95  (a0 : Nat) (μ : MM) : Option (Int32 × MM) :=
  (rI μ a0 6 4).bind fun y96 =>
  some (y96, μ)
def f_Re_read_L54  (a0 : Nat) : Nat → Int32 → MM → Option (Int32 × MM)
  | 0 => fun _ _ => none
  | n + 1 => fun x3 μ => 
    if (14 : Int32) < x3 then (
      f_Re_read_J95 a0 μ)
    else
    (rI μ a0 6 4).bind fun y61 =>
    if y61 = 0 then (
      (rI μ a0 6 3).bind fun y68 =>
      (rI μ a0 6 2).bind fun y72 =>
      if y72 ≤ y68 then (
        f_Re_read_J95 a0 μ)
      else
      (f_Re_take a0 (59 : Int32) μ).bind fun μ81 =>
      (f_Re_clause a0 x3 μ81).bind fun μ86 =>
      (f_Re_read_L54 a0 n) (x3 + (1 : Int32)) μ86)
    else
    f_Re_read_J95 a0 μ
def f_Re_read (a0 : Nat) (a1 : Nat) (x2 : Int32) (μ : MM) : Option (Int32 × MM) :=
  (kO μ a0 6).bind fun _ =>
  (aN μ a1).bind fun y3 =>
  (f_Mt_min y3 (200 : Int32)).bind fun y7 =>
  (f_Mt_min x2 y7).bind fun y10 =>
  (pI μ a0 6 2 y10).bind fun μ13 =>
  (rR μ13 a0 6 0).bind fun y19 =>
  (rI μ13 a0 6 2).bind fun y24 =>
  (cpI μ13 a1 (0 : Int32) y19 (0 : Int32) y24).bind fun μ27 =>
  (rR μ27 a0 6 1).bind fun y31 =>
  (f_Pr_clear y31 μ27).bind fun μ34 =>
  (pI μ34 a0 6 3 (0 : Int32)).bind fun μ39 =>
  (pI μ39 a0 6 4 (0 : Int32)).bind fun μ44 =>
  (f_Re_clause a0 (0 : Int32) μ44).bind fun μ49 =>
  f_Re_read_L54 a0 FU (1 : Int32) μ49
def f_Re_exchange (a0 : Nat) (a1 : Nat) (μ : MM) : Option (Nat × MM) :=
  (kO μ a0 6).bind fun _ =>
  (rR μ a0 6 1).bind fun y1 =>
  (pR μ a0 6 1 a1).bind fun μ7 =>
  some (y1, μ7)
def f_X_text (a0 : Nat) (x1 : Int32) (μ : MM) : Option (Int32 × MM) :=
  (kO μ a0 0).bind fun _ =>
  if x1 < (1 : Int32) then (
    some ((-1 : Int32), μ))
  else
  if (200 : Int32) < x1 then (
    some ((-1 : Int32), μ))
  else
  (rR μ a0 0 6).bind fun y14 =>
  (rI μ y14 7 1).bind fun y17 =>
  if x1 ≤ y17 then (
    (rR μ a0 0 7).bind fun y26 =>
    (rR μ a0 0 6).bind fun y30 =>
    (rR μ y30 7 0).bind fun y33 =>
    (f_Re_read y26 y33 x1 μ).bind fun q37 =>
    (rR q37.2 a0 0 6).bind fun y42 =>
    (pI q37.2 y42 7 1 (0 : Int32)).bind fun μ46 =>
    if q37.1 = 0 then (
      (rR μ46 a0 0 1).bind fun y57 =>
      (rR μ46 a0 0 7).bind fun y61 =>
      (rR μ46 a0 0 1).bind fun y65 =>
      (rR μ46 y65 2 8).bind fun y68 =>
      (f_Re_exchange y61 y68 μ46).bind fun q71 =>
      (pR q71.2 y57 2 8 q71.1).bind fun μ74 =>
      (f_X_changed a0 μ74).bind fun q78 =>
      (rR q78.2 a0 0 1).bind fun y83 =>
      (rR q78.2 y83 2 8).bind fun y86 =>
      (rI q78.2 y86 5 7).bind fun y89 =>
      some (y89, q78.2))
    else
    some ((-q37.1), μ46))
  else
  some ((-1 : Int32), μ)
def f_M_isGood (a0 : Nat) (μ : MM) : Option (Int32) :=
  (kO μ a0 1).bind fun _ =>
  (rI μ a0 1 42).bind fun y1 =>
  if y1 = 0 then (
    some (1 : Int32))
  else
  some (0 : Int32)
def f_M_here (a0 : Nat) (μ : MM) : Option (Int32) :=
  (kO μ a0 1).bind fun _ =>
  (rI μ a0 1 40).bind fun y1 =>
  (rI μ a0 1 41).bind fun y5 =>
  if y5 ≤ y1 then (
    some (0 : Int32))
  else
  (rR μ a0 1 0).bind fun y12 =>
  (rI μ a0 1 40).bind fun y16 =>
  (aB μ y12 y16).bind fun y19 =>
  some (y19 &&& (255 : Int32))
def f_M_wrongs_J22  (s0 : Nat) (s1 : Int32) (μ : MM) : Option (MM) :=
  (pI μ s0 1 42 s1).bind fun μ22 =>
  some μ22
def f_M_wrongs (a0 : Nat) (x1 : Int32) (x2 : Int32) (μ : MM) : Option (MM) :=
  (kO μ a0 1).bind fun _ =>
  (rI μ a0 1 42).bind fun y2 =>
  if 0 ≤ y2 then (
    f_M_wrongs_J22 a0 (((-1000 : Int32) * x1) - x2) μ)
  else
  (rI μ a0 1 42).bind fun y9 =>
  f_M_wrongs_J22 a0 y9 μ
def f_M_puts (a0 : Nat) (x1 : Int32) (μ : MM) : Option (MM) :=
  (kO μ a0 1).bind fun _ =>
  (rR μ a0 1 49).bind fun y1 =>
  (rI μ a0 1 46).bind fun y5 =>
  (uI μ y1 y5 x1).bind fun μ9 =>
  (rI μ9 a0 1 46).bind fun y12 =>
  (pI μ9 a0 1 46 (y12 + (1 : Int32))).bind fun μ17 =>
  (rI μ17 a0 1 40).bind fun y22 =>
  (pI μ17 a0 1 40 (y22 + (1 : Int32))).bind fun μ27 =>
  some μ27
def f_M_opens_J18  (a0 : Nat) (μ : MM) : Option (MM) :=
  (rI μ a0 1 45).bind fun y20 =>
  (pI μ a0 1 45 (y20 + (1 : Int32))).bind fun μ25 =>
  (f_M_here a0 μ25).bind fun y30 =>
  (f_M_puts a0 y30 μ25).bind fun μ33 =>
  some μ33
def f_M_opens (a0 : Nat) (μ : MM) : Option (MM) :=
  (kO μ a0 1).bind fun _ =>
  (rI μ a0 1 45).bind fun y1 =>
  if y1 = (6 : Int32) then (
    (rI μ a0 1 40).bind fun y12 =>
    (f_M_wrongs a0 (5 : Int32) y12 μ).bind fun μ15 =>
    f_M_opens_J18 a0 μ15)
  else
  f_M_opens_J18 a0 μ
def f_M_seesDigit (a0 : Nat) (μ : MM) : Option (Int32) :=
  (kO μ a0 1).bind fun _ =>
  (f_M_here a0 μ).bind fun y1 =>
  (f_M_lies y1.toInt64 (48 : Int64) (57 : Int64)).bind fun y11 =>
  (rz y11).bind fun y14 =>
  some y14
def f_M_reads_J40 (k7 : Int32 → MM → Option (Int32 × MM))  (a0 : Nat) (x1 : Int32) (x2 : Int32) (μ : MM) : Option (Int32 × MM) :=
  (f_M_here a0 μ).bind fun y45 =>
  (rI μ a0 1 40).bind fun y55 =>
  (pI μ a0 1 40 (y55 + (1 : Int32))).bind fun μ60 =>
  k7 ((((10 : Int32) * x2) + y45) - (48 : Int32)) μ60
def f_M_reads_L7  (a0 : Nat) (x1 : Int32) : Nat → Int32 → MM → Option (Int32 × MM)
  | 0 => fun _ _ => none
  | n + 1 => fun x2 μ => 
    (f_M_isGood a0 μ).bind fun y8 =>
    if y8 = 0 then (
      some (x2, μ))
    else
    (f_M_seesDigit a0 μ).bind fun y15 =>
    if y15 = 0 then (
      some (x2, μ))
    else
    (rI μ a0 1 40).bind fun y22 =>
    if y22 = (x1 + (5 : Int32)) then (
      (rI μ a0 1 40).bind fun y34 =>
      (f_M_wrongs a0 (2 : Int32) y34 μ).bind fun μ37 =>
      f_M_reads_J40 (f_M_reads_L7 a0 x1 n) a0 x1 x2 μ37)
    else
    f_M_reads_J40 (f_M_reads_L7 a0 x1 n) a0 x1 x2 μ
def f_M_reads (a0 : Nat) (μ : MM) : Option (Int32 × MM) :=
  (kO μ a0 1).bind fun _ =>
  (rI μ a0 1 40).bind fun y1 =>
  f_M_reads_L7 a0 y1 FU (0 : Int32) μ
def f_M_emit (a0 : Nat) (x1 : Int32) (x2 : Int32) (μ : MM) : Option (MM) :=
  (kO μ a0 1).bind fun _ =>
  (f_M_isGood a0 μ).bind fun y1 =>
  if y1 = 0 then (
    some μ)
  else
  (rR μ a0 1 38).bind fun y9 =>
  (rI μ a0 1 44).bind fun y13 =>
  (uI μ y9 y13 x1).bind fun μ17 =>
  (rR μ17 a0 1 39).bind fun y19 =>
  (rI μ17 a0 1 44).bind fun y23 =>
  (uI μ17 y19 y23 x2).bind fun μ27 =>
  (rI μ27 a0 1 44).bind fun y30 =>
  (pI μ27 a0 1 44 (y30 + (1 : Int32))).bind fun μ35 =>
  some μ35
def f_M_isValue (x0 : Int32) : Option (Int32) :=
  if x0 = (98 : Int32) then (
    some (1 : Int32))
  else
  if x0 = (118 : Int32) then (
    some (1 : Int32))
  else
  if x0 = (105 : Int32) then (
    some (1 : Int32))
  else
  if x0 = (107 : Int32) then (
    some (1 : Int32))
  else
  if x0 = (102 : Int32) then (
    some (1 : Int32))
  else
  if x0 = (104 : Int32) then (
    some (1 : Int32))
  else
  if x0 = (106 : Int32) then (
    some (1 : Int32))
  else
  if x0 = (117 : Int32) then (
    some (1 : Int32))
  else
  if x0 = (114 : Int32) then (
    some (1 : Int32))
  else
  if x0 = (110 : Int32) then (
    some (1 : Int32))
  else
  if x0 = (111 : Int32) then (
    some (1 : Int32))
  else
  if x0 = (120 : Int32) then (
    some (1 : Int32))
  else
  some (0 : Int32)
def f_M_factor_J23  (a0 : Nat) (μ : MM) : Option (MM) :=
  (f_M_isGood a0 μ).bind fun y24 =>
  if y24 = 0 then (
    some μ)
  else
  (f_M_seesDigit a0 μ).bind fun y32 =>
  if y32 = 0 then (
    (f_M_here a0 μ).bind fun y51 =>
    (f_M_isValue y51).bind fun y54 =>
    if y54 = 0 then (
      (rI μ a0 1 40).bind fun y85 =>
      (f_M_wrongs a0 (1 : Int32) y85 μ).bind fun μ88 =>
      some μ88)
    else
    (f_M_here a0 μ).bind fun y63 =>
    (f_M_emit a0 (1 : Int32) y63 μ).bind fun μ66 =>
    (rI μ66 a0 1 40).bind fun y71 =>
    (pI μ66 a0 1 40 (y71 + (1 : Int32))).bind fun μ76 =>
    some μ76)
  else
  (f_M_reads a0 μ).bind fun q41 =>
  (f_M_emit a0 (0 : Int32) q41.1 q41.2).bind fun μ44 =>
  some μ44
def f_M_factor_L0  (a0 : Nat) : Nat → MM → Option (MM)
  | 0 => fun _ => none
  | n + 1 => fun μ => 
    (f_M_isGood a0 μ).bind fun y1 =>
    if y1 = 0 then (
      f_M_factor_J23 a0 μ)
    else
    (f_M_here a0 μ).bind fun y8 =>
    if y8 = (91 : Int32) then (
      (f_M_opens a0 μ).bind fun μ17 =>
      (f_M_factor_L0 a0 n) μ17)
    else
    f_M_factor_J23 a0 μ
def f_M_factor (a0 : Nat) (μ : MM) : Option (MM) :=
  (kO μ a0 1).bind fun _ =>
  f_M_factor_L0 a0 FU μ
def f_M_isTimes (x0 : Int32) : Option (Int32) :=
  if x0 = (42 : Int32) then (
    some (1 : Int32))
  else
  if x0 = (47 : Int32) then (
    some (1 : Int32))
  else
  if x0 = (37 : Int32) then (
    some (1 : Int32))
  else
  some (0 : Int32)
def f_M_isPlus (x0 : Int32) : Option (Int32) :=
  if x0 = (43 : Int32) then (
    some (1 : Int32))
  else
  if x0 = (45 : Int32) then (
    some (1 : Int32))
  else
  some (0 : Int32)
def f_M_top (a0 : Nat) (μ : MM) : Option (Int32) :=
  (kO μ a0 1).bind fun _ =>
  (rI μ a0 1 46).bind fun y1 =>
  if y1 ≤ 0 then (
    some (0 : Int32))
  else
  (rR μ a0 1 49).bind fun y8 =>
  (rI μ a0 1 46).bind fun y12 =>
  (aI μ y8 (y12 - (1 : Int32))).bind fun y17 =>
  some y17
def f_M_sums_J24 (k0 : MM → Option (MM))  (a0 : Nat) (x1 : Int32) (μ : MM) : Option (MM) :=
  (f_M_top a0 μ).bind fun y26 =>
  (f_M_emit a0 y26 (0 : Int32) μ).bind fun μ30 =>
  (rI μ30 a0 1 46).bind fun y35 =>
  (pI μ30 a0 1 46 (y35 - (1 : Int32))).bind fun μ40 =>
  k0 μ40
def f_M_sums_L0  (a0 : Nat) (x1 : Int32) : Nat → MM → Option (MM)
  | 0 => fun _ => none
  | n + 1 => fun μ => 
    (f_M_top a0 μ).bind fun y1 =>
    (f_M_isTimes y1).bind fun y4 =>
    if y4 = 0 then (
      if x1 = 0 then (
        some μ)
      else
      (f_M_top a0 μ).bind fun y15 =>
      (f_M_isPlus y15).bind fun y18 =>
      if y18 = 0 then (
        some μ)
      else
      f_M_sums_J24 (f_M_sums_L0 a0 x1 n) a0 x1 μ)
    else
    f_M_sums_J24 (f_M_sums_L0 a0 x1 n) a0 x1 μ
def f_M_sums (a0 : Nat) (x1 : Int32) (μ : MM) : Option (MM) :=
  (kO μ a0 1).bind fun _ =>
  f_M_sums_L0 a0 x1 FU μ
def f_M_stays_J19  (a0 : Nat) (x1 : Int32) (μ : MM) : Option (Int32 × MM) :=
  (f_M_isPlus x1).bind fun y21 =>
  (f_M_sums a0 y21 μ).bind fun μ24 =>
  (f_M_puts a0 x1 μ24).bind fun μ29 =>
  some ((1 : Int32), μ29)
def f_M_stays (a0 : Nat) (μ : MM) : Option (Int32 × MM) :=
  (kO μ a0 1).bind fun _ =>
  (f_M_here a0 μ).bind fun y1 =>
  (f_M_isTimes y1).bind fun y6 =>
  if y6 = 0 then (
    (f_M_isPlus y1).bind fun y13 =>
    if y13 = 0 then (
      (f_M_sums a0 (1 : Int32) μ).bind fun μ36 =>
      if y1 = (93 : Int32) then (
        (f_M_top a0 μ36).bind fun y48 =>
        if y48 = (91 : Int32) then (
          (rI μ36 a0 1 46).bind fun y69 =>
          (pI μ36 a0 1 46 (y69 - (1 : Int32))).bind fun μ74 =>
          (rI μ74 a0 1 45).bind fun y79 =>
          (pI μ74 a0 1 45 (y79 - (1 : Int32))).bind fun μ84 =>
          (rI μ84 a0 1 40).bind fun y89 =>
          (pI μ84 a0 1 40 (y89 + (1 : Int32))).bind fun μ94 =>
          (pZ μ94 a0 1 48 (1 : Int32)).bind fun μ99 =>
          some ((1 : Int32), μ99))
        else
        (rI μ36 a0 1 40).bind fun y59 =>
        (f_M_wrongs a0 (1 : Int32) y59 μ36).bind fun μ62 =>
        some ((0 : Int32), μ62))
      else
      some ((0 : Int32), μ36))
    else
    f_M_stays_J19 a0 y1 μ)
  else
  f_M_stays_J19 a0 y1 μ
def f_M_value_J57  (a0 : Nat) (μ : MM) : Option (MM) :=
  (f_M_isGood a0 μ).bind fun y58 =>
  if y58 = 0 then (
    some μ)
  else
  (f_M_top a0 μ).bind fun y65 =>
  if y65 = (91 : Int32) then (
    (rI μ a0 1 40).bind fun y76 =>
    (f_M_wrongs a0 (1 : Int32) y76 μ).bind fun μ79 =>
    some μ79)
  else
  some μ
def f_M_value_J29 (k7 : Int32 → MM → Option (MM))  (a0 : Nat) (μ : MM) : Option (MM) :=
  (pZ μ a0 1 48 (0 : Int32)).bind fun μ31 =>
  (f_M_isGood a0 μ31).bind fun y35 =>
  if y35 = 0 then (
    k7 (0 : Int32) μ31)
  else
  (f_M_stays a0 μ31).bind fun q42 =>
  if q42.1 = 0 then (
    k7 (0 : Int32) q42.2)
  else
  k7 (1 : Int32) q42.2
def f_M_value_L7  (a0 : Nat) : Nat → Int32 → MM → Option (MM)
  | 0 => fun _ _ => none
  | n + 1 => fun x1 μ => 
    if x1 = 0 then (
      f_M_value_J57 a0 μ)
    else
    (f_M_isGood a0 μ).bind fun y12 =>
    if y12 = 0 then (
      f_M_value_J57 a0 μ)
    else
    (rI μ a0 1 48).bind fun y19 =>
    if y19 = 0 then (
      (f_M_factor a0 μ).bind fun μ26 =>
      f_M_value_J29 (f_M_value_L7 a0 n) a0 μ26)
    else
    f_M_value_J29 (f_M_value_L7 a0 n) a0 μ
def f_M_value (a0 : Nat) (μ : MM) : Option (MM) :=
  (kO μ a0 1).bind fun _ =>
  (pZ μ a0 1 48 (0 : Int32)).bind fun μ4 =>
  f_M_value_L7 a0 FU (1 : Int32) μ4
def f_M_isSign (x0 : Int32) : Option (Int32) :=
  if x0 = (60 : Int32) then (
    some (1 : Int32))
  else
  if x0 = (62 : Int32) then (
    some (1 : Int32))
  else
  if x0 = (61 : Int32) then (
    some (1 : Int32))
  else
  some (0 : Int32)
def f_M_ends_L0  (a0 : Nat) : Nat → MM → Option (MM)
  | 0 => fun _ => none
  | n + 1 => fun μ => 
    (f_M_top a0 μ).bind fun y1 =>
    if y1 = (33 : Int32) then (
      (f_M_emit a0 (2 : Int32) (0 : Int32) μ).bind fun μ12 =>
      (rI μ12 a0 1 46).bind fun y17 =>
      (pI μ12 a0 1 46 (y17 - (1 : Int32))).bind fun μ22 =>
      (rI μ22 a0 1 45).bind fun y27 =>
      (pI μ22 a0 1 45 (y27 - (1 : Int32))).bind fun μ32 =>
      (f_M_ends_L0 a0 n) μ32)
    else
    some μ
def f_M_ends (a0 : Nat) (μ : MM) : Option (MM) :=
  (kO μ a0 1).bind fun _ =>
  f_M_ends_L0 a0 FU μ
def f_M_pieceOfC_J43  (a0 : Nat) (μ : MM) : Option (MM) :=
  (f_M_isGood a0 μ).bind fun y44 =>
  if y44 = 0 then (
    some μ)
  else
  (f_M_here a0 μ).bind fun y52 =>
  (f_M_isSign y52).bind fun y57 =>
  if y57 = 0 then (
    (rI μ a0 1 40).bind fun y66 =>
    (f_M_wrongs a0 (1 : Int32) y66 μ).bind fun μ69 =>
    some μ69)
  else
  (f_M_puts a0 y52 μ).bind fun μ75 =>
  (f_M_value a0 μ75).bind fun μ79 =>
  (f_M_isGood a0 μ79).bind fun y83 =>
  if y83 = 0 then (
    some μ79)
  else
  (f_M_top a0 μ79).bind fun y92 =>
  (f_M_emit a0 y92 (0 : Int32) μ79).bind fun μ96 =>
  (rI μ96 a0 1 46).bind fun y101 =>
  (pI μ96 a0 1 46 (y101 - (1 : Int32))).bind fun μ106 =>
  (f_M_ends a0 μ106).bind fun μ110 =>
  some μ110
def f_M_pieceOfC_J32  (a0 : Nat) (μ : MM) : Option (MM) :=
  (f_M_isGood a0 μ).bind fun y33 =>
  if y33 = 0 then (
    f_M_pieceOfC_J43 a0 μ)
  else
  (f_M_value a0 μ).bind fun μ40 =>
  f_M_pieceOfC_J43 a0 μ40
def f_M_pieceOfC_J25 (k0 : MM → Option (MM))  (a0 : Nat) (μ : MM) : Option (MM) :=
  (f_M_opens a0 μ).bind fun μ26 =>
  k0 μ26
def f_M_pieceOfC_L0  (a0 : Nat) : Nat → MM → Option (MM)
  | 0 => fun _ => none
  | n + 1 => fun μ => 
    (f_M_isGood a0 μ).bind fun y1 =>
    if y1 = 0 then (
      f_M_pieceOfC_J32 a0 μ)
    else
    (f_M_here a0 μ).bind fun y8 =>
    if y8 = (33 : Int32) then (
      f_M_pieceOfC_J25 (f_M_pieceOfC_L0 a0 n) a0 μ)
    else
    (f_M_here a0 μ).bind fun y17 =>
    if y17 = (40 : Int32) then (
      f_M_pieceOfC_J25 (f_M_pieceOfC_L0 a0 n) a0 μ)
    else
    f_M_pieceOfC_J32 a0 μ
def f_M_pieceOfC (a0 : Nat) (μ : MM) : Option (MM) :=
  (kO μ a0 1).bind fun _ =>
  f_M_pieceOfC_L0 a0 FU μ
def f_M_joins_J22 (k0 : MM → Option (MM))  (a0 : Nat) (x1 : Int32) (μ : MM) : Option (MM) :=
  (f_M_top a0 μ).bind fun y24 =>
  (f_M_emit a0 y24 (0 : Int32) μ).bind fun μ28 =>
  (rI μ28 a0 1 46).bind fun y33 =>
  (pI μ28 a0 1 46 (y33 - (1 : Int32))).bind fun μ38 =>
  k0 μ38
def f_M_joins_L0  (a0 : Nat) (x1 : Int32) : Nat → MM → Option (MM)
  | 0 => fun _ => none
  | n + 1 => fun μ => 
    (f_M_top a0 μ).bind fun y1 =>
    if y1 = (38 : Int32) then (
      f_M_joins_J22 (f_M_joins_L0 a0 x1 n) a0 x1 μ)
    else
    if x1 = 0 then (
      some μ)
    else
    (f_M_top a0 μ).bind fun y14 =>
    if y14 = (124 : Int32) then (
      f_M_joins_J22 (f_M_joins_L0 a0 x1 n) a0 x1 μ)
    else
    some μ
def f_M_joins (a0 : Nat) (x1 : Int32) (μ : MM) : Option (MM) :=
  (kO μ a0 1).bind fun _ =>
  f_M_joins_L0 a0 x1 FU μ
def f_M_goesBehind_J29  (a0 : Nat) (x1 : Int32) (s0 : Nat) (s1 : Int32) (μ : MM) : Option (Int32 × MM) :=
  (f_M_joins s0 s1 μ).bind fun μ29 =>
  (f_M_puts a0 x1 μ29).bind fun μ34 =>
  some ((1 : Int32), μ34)
def f_M_goesBehind_J17  (a0 : Nat) (x1 : Int32) (μ : MM) : Option (Int32 × MM) :=
  if x1 = (124 : Int32) then (
    f_M_goesBehind_J29 a0 x1 a0 (1 : Int32) μ)
  else
  f_M_goesBehind_J29 a0 x1 a0 (0 : Int32) μ
def f_M_goesBehind_J104  (a0 : Nat) (s0 : Nat) (s1 : Int32) (μ : MM) : Option (Int32 × MM) :=
  (pZ μ s0 1 47 s1).bind fun μ104 =>
  (rI μ104 a0 1 47).bind fun y108 =>
  if y108 = 0 then (
    (f_M_ends a0 μ104).bind fun μ115 =>
    some ((0 : Int32), μ115))
  else
  some ((0 : Int32), μ104)
def f_M_goesBehind (a0 : Nat) (μ : MM) : Option (Int32 × MM) :=
  (kO μ a0 1).bind fun _ =>
  (f_M_here a0 μ).bind fun y1 =>
  if y1 = (38 : Int32) then (
    f_M_goesBehind_J17 a0 y1 μ)
  else
  if y1 = (124 : Int32) then (
    f_M_goesBehind_J17 a0 y1 μ)
  else
  if y1 = (41 : Int32) then (
    (f_M_joins a0 (1 : Int32) μ).bind fun μ58 =>
    (rI μ58 a0 1 46).bind fun y63 =>
    (pI μ58 a0 1 46 (y63 - (1 : Int32))).bind fun μ68 =>
    (rI μ68 a0 1 45).bind fun y73 =>
    (pI μ68 a0 1 45 (y73 - (1 : Int32))).bind fun μ78 =>
    (rI μ78 a0 1 40).bind fun y83 =>
    (pI μ78 a0 1 40 (y83 + (1 : Int32))).bind fun μ88 =>
    (rI μ88 a0 1 46).bind fun y93 =>
    if y93 = 0 then (
      f_M_goesBehind_J104 a0 a0 (1 : Int32) μ88)
    else
    f_M_goesBehind_J104 a0 a0 (0 : Int32) μ88)
  else
  (rI μ a0 1 40).bind fun y48 =>
  (f_M_wrongs a0 (1 : Int32) y48 μ).bind fun μ51 =>
  some ((0 : Int32), μ51)
def f_M_condition_J59 (k37 : Int32 → MM → Option (MM))  (a0 : Nat) (x1 : Int32) (μ : MM) : Option (MM) :=
  (f_M_isGood a0 μ).bind fun y60 =>
  if y60 = 0 then (
    k37 x1 μ)
  else
  (f_M_goesBehind a0 μ).bind fun q67 =>
  k37 q67.1 q67.2
def f_M_condition_L37  (a0 : Nat) : Nat → Int32 → MM → Option (MM)
  | 0 => fun _ _ => none
  | n + 1 => fun x1 μ => 
    (f_M_isGood a0 μ).bind fun y38 =>
    if y38 = 0 then (
      some μ)
    else
    (rI μ a0 1 47).bind fun y45 =>
    if y45 = 0 then (
      if x1 = 0 then (
        f_M_condition_J59 (f_M_condition_L37 a0 n) a0 x1 μ)
      else
      (f_M_pieceOfC a0 μ).bind fun μ56 =>
      f_M_condition_J59 (f_M_condition_L37 a0 n) a0 x1 μ56)
    else
    some μ
def f_M_condition_J23  (a0 : Nat) (μ : MM) : Option (MM) :=
  (f_M_isGood a0 μ).bind fun y24 =>
  if y24 = 0 then (
    some μ)
  else
  (f_M_opens a0 μ).bind fun μ32 =>
  f_M_condition_L37 a0 FU (1 : Int32) μ32
def f_M_condition (a0 : Nat) (μ : MM) : Option (MM) :=
  (kO μ a0 1).bind fun _ =>
  (pZ μ a0 1 47 (0 : Int32)).bind fun μ2 =>
  (f_M_here a0 μ2).bind fun y6 =>
  if y6 = (40 : Int32) then (
    f_M_condition_J23 a0 μ2)
  else
  (rI μ2 a0 1 40).bind fun y17 =>
  (f_M_wrongs a0 (1 : Int32) y17 μ2).bind fun μ20 =>
  f_M_condition_J23 a0 μ20
def f_M_clause_J144  (a0 : Nat) (μ : MM) : Option (MM) :=
  (rR μ a0 1 37).bind fun y145 =>
  (rI μ a0 1 43).bind fun y149 =>
  (rI μ a0 1 44).bind fun y153 =>
  (uI μ y145 y149 y153).bind fun μ156 =>
  (rI μ156 a0 1 43).bind fun y159 =>
  (pI μ156 a0 1 43 (y159 + (1 : Int32))).bind fun μ164 =>
  some μ164
def f_M_clause_J65  (a0 : Nat) (x1 : Int32) (μ : MM) : Option (MM) :=
  (f_M_isGood a0 μ).bind fun y66 =>
  if y66 = 0 then (
    some μ)
  else
  (rR μ a0 1 34).bind fun y74 =>
  (rI μ a0 1 43).bind fun y78 =>
  (uI μ y74 y78 x1).bind fun μ82 =>
  (rR μ82 a0 1 35).bind fun y84 =>
  (rI μ82 a0 1 43).bind fun y88 =>
  (rI μ82 a0 1 44).bind fun y92 =>
  (uI μ82 y84 y88 y92).bind fun μ95 =>
  (rI μ95 a0 1 40).bind fun y98 =>
  (pI μ95 a0 1 40 (y98 + (1 : Int32))).bind fun μ103 =>
  (pI μ103 a0 1 46 (0 : Int32)).bind fun μ108 =>
  (pI μ108 a0 1 45 (0 : Int32)).bind fun μ113 =>
  (f_M_value a0 μ113).bind fun μ117 =>
  (rR μ117 a0 1 36).bind fun y121 =>
  (rI μ117 a0 1 43).bind fun y125 =>
  (rI μ117 a0 1 44).bind fun y129 =>
  (uI μ117 y121 y125 y129).bind fun μ132 =>
  (f_M_isGood a0 μ132).bind fun y134 =>
  if y134 = 0 then (
    f_M_clause_J144 a0 μ132)
  else
  (f_M_condition a0 μ132).bind fun μ141 =>
  f_M_clause_J144 a0 μ141
def f_M_clause_J47  (a0 : Nat) (x1 : Int32) (μ : MM) : Option (MM) :=
  (rI μ a0 1 43).bind fun y48 =>
  if y48 = (14 : Int32) then (
    (rI μ a0 1 40).bind fun y59 =>
    (f_M_wrongs a0 (4 : Int32) y59 μ).bind fun μ62 =>
    f_M_clause_J65 a0 x1 μ62)
  else
  f_M_clause_J65 a0 x1 μ
def f_M_clause (a0 : Nat) (μ : MM) : Option (MM) :=
  (kO μ a0 1).bind fun _ =>
  (f_M_here a0 μ).bind fun y1 =>
  if y1 = (112 : Int32) then (
    f_M_clause_J47 a0 y1 μ)
  else
  if y1 = (115 : Int32) then (
    f_M_clause_J47 a0 y1 μ)
  else
  if y1 = (116 : Int32) then (
    f_M_clause_J47 a0 y1 μ)
  else
  if y1 = (107 : Int32) then (
    f_M_clause_J47 a0 y1 μ)
  else
  if y1 = (100 : Int32) then (
    f_M_clause_J47 a0 y1 μ)
  else
  (rI μ a0 1 40).bind fun y38 =>
  (f_M_wrongs a0 (1 : Int32) y38 μ).bind fun μ41 =>
  f_M_clause_J65 a0 y1 μ41
def f_M_text_L206  (a0 : Nat) : Nat → Int32 → MM → Option (Int32 × MM)
  | 0 => fun _ _ => none
  | n + 1 => fun x3 μ => 
    (rI μ a0 1 44).bind fun y208 =>
    if y208 ≤ x3 then (
      (rI μ a0 1 43).bind fun y246 =>
      (pI μ a0 1 27 y246).bind fun μ249 =>
      (rI μ249 a0 1 27).bind fun y253 =>
      some (y253, μ249))
    else
    (rR μ a0 1 32).bind fun y215 =>
    (rR μ a0 1 38).bind fun y220 =>
    (aI μ y220 x3).bind fun y224 =>
    (uI μ y215 x3 y224).bind fun μ225 =>
    (rR μ225 a0 1 33).bind fun y227 =>
    (rR μ225 a0 1 39).bind fun y232 =>
    (aI μ225 y232 x3).bind fun y236 =>
    (uI μ225 y227 x3 y236).bind fun μ237 =>
    (f_M_text_L206 a0 n) (x3 + (1 : Int32)) μ237
def f_M_text_L142  (a0 : Nat) : Nat → Int32 → MM → Option (Int32 × MM)
  | 0 => fun _ _ => none
  | n + 1 => fun x3 μ => 
    (rI μ a0 1 43).bind fun y144 =>
    if y144 ≤ x3 then (
      f_M_text_L206 a0 FU (0 : Int32) μ)
    else
    (rR μ a0 1 28).bind fun y151 =>
    (rR μ a0 1 34).bind fun y156 =>
    (aI μ y156 x3).bind fun y160 =>
    (uI μ y151 x3 y160).bind fun μ161 =>
    (rR μ161 a0 1 29).bind fun y163 =>
    (rR μ161 a0 1 35).bind fun y168 =>
    (aI μ161 y168 x3).bind fun y172 =>
    (uI μ161 y163 x3 y172).bind fun μ173 =>
    (rR μ173 a0 1 30).bind fun y175 =>
    (rR μ173 a0 1 36).bind fun y180 =>
    (aI μ173 y180 x3).bind fun y184 =>
    (uI μ173 y175 x3 y184).bind fun μ185 =>
    (rR μ185 a0 1 31).bind fun y187 =>
    (rR μ185 a0 1 37).bind fun y192 =>
    (aI μ185 y192 x3).bind fun y196 =>
    (uI μ185 y187 x3 y196).bind fun μ197 =>
    (f_M_text_L142 a0 n) (x3 + (1 : Int32)) μ197
def f_M_text_J128  (a0 : Nat) (μ : MM) : Option (Int32 × MM) :=
  (rI μ a0 1 42).bind fun y129 =>
  if 0 ≤ y129 then (
    f_M_text_L142 a0 FU (0 : Int32) μ)
  else
  (rI μ a0 1 42).bind fun y136 =>
  some (y136, μ)
def f_M_text_J115 (k54 : Int32 → MM → Option (Int32 × MM))  (a0 : Nat) (x2 : Int32) (μ : MM) : Option (Int32 × MM) :=
  (rI μ a0 1 40).bind fun y117 =>
  (pI μ a0 1 40 (y117 + (1 : Int32))).bind fun μ122 =>
  k54 x2 μ122
def f_M_text_J92 (k54 : Int32 → MM → Option (Int32 × MM))  (a0 : Nat) (s0 : Int32) (μ : MM) : Option (Int32 × MM) :=
  if s0 = 0 then (
    k54 s0 μ)
  else
  (f_M_here a0 μ).bind fun y98 =>
  if y98 = (59 : Int32) then (
    f_M_text_J115 k54 a0 s0 μ)
  else
  (rI μ a0 1 40).bind fun y109 =>
  (f_M_wrongs a0 (1 : Int32) y109 μ).bind fun μ112 =>
  f_M_text_J115 k54 a0 s0 μ112
def f_M_text_J91 (k54 : Int32 → MM → Option (Int32 × MM))  (a0 : Nat) (μ : MM) : Option (Int32 × MM) :=
  f_M_text_J92 k54 a0 (0 : Int32) μ
def f_M_text_L54  (a0 : Nat) : Nat → Int32 → MM → Option (Int32 × MM)
  | 0 => fun _ _ => none
  | n + 1 => fun x2 μ => 
    if x2 = 0 then (
      f_M_text_J128 a0 μ)
    else
    (f_M_isGood a0 μ).bind fun y59 =>
    if y59 = 0 then (
      f_M_text_J128 a0 μ)
    else
    (f_M_clause a0 μ).bind fun μ66 =>
    (f_M_isGood a0 μ66).bind fun y70 =>
    if y70 = 0 then (
      f_M_text_J91 (f_M_text_L54 a0 n) a0 μ66)
    else
    (rI μ66 a0 1 40).bind fun y77 =>
    (rI μ66 a0 1 41).bind fun y81 =>
    if y81 ≤ y77 then (
      f_M_text_J91 (f_M_text_L54 a0 n) a0 μ66)
    else
    f_M_text_J92 (f_M_text_L54 a0 n) a0 (1 : Int32) μ66
def f_M_text (a0 : Nat) (x1 : Int32) (μ : MM) : Option (Int32 × MM) :=
  (kO μ a0 1).bind fun _ =>
  (f_M_lies x1.toInt64 (1 : Int64) (200 : Int64)).bind fun y6 =>
  if y6 = 0 then (
    some ((-1 : Int32), μ))
  else
  (rI μ a0 1 1).bind fun y14 =>
  if x1 ≤ y14 then (
    (pI μ a0 1 1 (0 : Int32)).bind fun μ24 =>
    (pI μ24 a0 1 40 (0 : Int32)).bind fun μ29 =>
    (pI μ29 a0 1 41 x1).bind fun μ34 =>
    (pI μ34 a0 1 42 (0 : Int32)).bind fun μ39 =>
    (pI μ39 a0 1 43 (0 : Int32)).bind fun μ44 =>
    (pI μ44 a0 1 44 (0 : Int32)).bind fun μ49 =>
    f_M_text_L54 a0 FU (1 : Int32) μ49)
  else
  some ((-1 : Int32), μ)
def f_Ch_sings (a0 : Nat) (x1 : Int32) (x2 : Int32) (μ : MM) : Option (Int32) :=
  (kO μ a0 2).bind fun _ =>
  (f_Ch_has a0 x1 μ).bind fun y2 =>
  if y2 = 0 then (
    some (0 : Int32))
  else
  (rR μ a0 2 0).bind fun y9 =>
  (rR μ a0 2 1).bind fun y13 =>
  (aI μ y13 x1).bind fun y17 =>
  (f_Sc_sounds y9 y17 x2 μ).bind fun y19 =>
  if y19 = 0 then (
    some (0 : Int32))
  else
  some (1 : Int32)
def f_Ch_howMany_L4  (a0 : Nat) (x1 : Int32) (μ : MM) : Nat → Int32 → Int32 → Option (Int32)
  | 0 => fun _ _ => none
  | n + 1 => fun x2 x3 => 
    (rI μ a0 2 9).bind fun y6 =>
    if y6 ≤ x3 then (
      some x2)
    else
    (f_Ch_sings a0 x3 x1 μ).bind fun y16 =>
    if y16 = 0 then (
      (f_Ch_howMany_L4 a0 x1 μ n) (x2 + (0 : Int32)) (x3 + (1 : Int32)))
    else
    (f_Ch_howMany_L4 a0 x1 μ n) (x2 + (1 : Int32)) (x3 + (1 : Int32))
def f_Ch_howMany (a0 : Nat) (x1 : Int32) (μ : MM) : Option (Int32) :=
  (kO μ a0 2).bind fun _ =>
  f_Ch_howMany_L4 a0 x1 μ FU (0 : Int32) (0 : Int32)
def f_Ch_lastNote_L4  (a0 : Nat) (x1 : Int32) (μ : MM) : Nat → Int32 → Option (Int32)
  | 0 => fun _ => none
  | n + 1 => fun x3 => 
    if x3 < 0 then (
      some (-1 : Int32))
    else
    (f_Ch_sings a0 x1 x3 μ).bind fun y11 =>
    if y11 = 0 then (
      (f_Ch_lastNote_L4 a0 x1 μ n) (x3 + (-1 : Int32)))
    else
    some x3
def f_Ch_lastNote (a0 : Nat) (x1 : Int32) (x2 : Int32) (μ : MM) : Option (Int32) :=
  (kO μ a0 2).bind fun _ =>
  f_Ch_lastNote_L4 a0 x1 μ FU (x2 - (1 : Int32))
def f_Mt_floorMod (x0 : Int32) (x1 : Int32) : Option (Int32) :=
  (gd x1).bind fun u2 =>
  if 0 ≤ (x0 ^^^ x1) then (
    some (irem x0 x1))
  else
  if (irem x0 x1) = 0 then (
    some (irem x0 x1))
  else
  some ((irem x0 x1) + x1)
def f_Ch_tableOf (a0 : Nat) (x1 : Int32) (x2 : Int32) (μ : MM) : Option (Int32) :=
  (kO μ a0 2).bind fun _ =>
  (rR μ a0 2 7).bind fun y5 =>
  (f_Mt_floorMod (x1 - x2) (12 : Int32)).bind fun y13 =>
  (aI μ y5 y13).bind fun y16 =>
  some (((100000 : Int32) * x1) + y16)
def f_Si_tableOf (a0 : Nat) (x1 : Int32) (x2 : Int32) (μ : MM) : Option (Int64) :=
  (kO μ a0 9).bind fun _ =>
  (rR μ a0 9 1).bind fun y1 =>
  (rR μ a0 9 0).bind fun y5 =>
  (rR μ y5 8 0).bind fun y8 =>
  (rR μ a0 9 1).bind fun y12 =>
  (rR μ y12 2 1).bind fun y15 =>
  (aI μ y15 x1).bind fun y19 =>
  (f_Sc_cell y19 x2).bind fun y21 =>
  (aI μ y8 y21).bind fun y24 =>
  (rI μ a0 9 10).bind fun y26 =>
  (f_Ch_tableOf y1 y24 y26 μ).bind fun y29 =>
  some y29.toInt64
def f_Si_giveAgain_L2  (a0 : Nat) (x1 : Int32) : Nat → Int32 → MM → Option (MM)
  | 0 => fun _ _ => none
  | n + 1 => fun x2 μ => 
    (rR μ a0 9 1).bind fun y4 =>
    (rI μ y4 2 9).bind fun y7 =>
    if y7 ≤ x2 then (
      some μ)
    else
    (rR μ a0 9 1).bind fun y14 =>
    (f_Ch_lastNote y14 x2 x1 μ).bind fun y19 =>
    if y19 = (-1 : Int32) then (
      (f_Si_giveAgain_L2 a0 x1 n) (x2 + (1 : Int32)) μ)
    else
    (rR μ a0 9 3).bind fun y29 =>
    (f_Si_tableOf a0 x2 y19 μ).bind fun y36 =>
    (uL μ y29 x2 y36).bind fun μ39 =>
    (f_Si_giveAgain_L2 a0 x1 n) (x2 + (1 : Int32)) μ39
def f_Si_giveAgain (a0 : Nat) (x1 : Int32) (μ : MM) : Option (MM) :=
  (kO μ a0 9).bind fun _ =>
  f_Si_giveAgain_L2 a0 x1 FU (0 : Int32) μ
def f_Si_isKnowing (a0 : Nat) (x1 : Int32) (μ : MM) : Option (Int32) :=
  (kO μ a0 9).bind fun _ =>
  (rR μ a0 9 1).bind fun y1 =>
  (rR μ y1 2 4).bind fun y4 =>
  (aI μ y4 x1).bind fun y8 =>
  if y8 = (1 : Int32) then (
    (rI μ a0 9 11).bind fun y14 =>
    if y14 = 0 then (
      some (1 : Int32))
    else
    some (0 : Int32))
  else
  some (0 : Int32)
def f_Mt_floorDiv (x0 : Int64) (x2 : Int64) : Option (Int64) :=
  (gdl x2).bind fun u2 =>
  if 0 ≤ (lg_cmp (x0 ^^^ x2) (0 : Int64)) then (
    some (x0 / x2))
  else
  if (lg_cmp ((x0 / x2) * x2) x0) = 0 then (
    some (x0 / x2))
  else
  some ((x0 / x2) - (1 : Int64))
def f_Si_tellLetters_J231  (a0 : Nat) (s0 : Nat) (s1 : Int32) (s2 : Int32) (μ : MM) : Option (MM) :=
  (uI μ s0 s1 s2).bind fun μ231 =>
  (rR μ231 a0 9 4).bind fun y233 =>
  (rI μ231 a0 9 13).bind fun y239 =>
  (uI μ231 y233 (11 : Int32) (irem y239 (100 : Int32))).bind fun μ245 =>
  some μ245
def f_Si_tellLetters_J184  (a0 : Nat) (x1 : Int32) (x3 : Int32) (s0 : Nat) (s1 : Int32) (s2 : Int32) (μ : MM) : Option (MM) :=
  (uI μ s0 s1 s2).bind fun μ184 =>
  (rR μ184 a0 9 4).bind fun y186 =>
  (rI μ184 a0 9 14).bind fun y192 =>
  (uI μ184 y186 (9 : Int32) y192).bind fun μ195 =>
  (rR μ195 a0 9 4).bind fun y197 =>
  if x3 = (-1 : Int32) then (
    f_Si_tellLetters_J231 a0 y197 (10 : Int32) (0 : Int32) μ195)
  else
  (f_Si_tableOf a0 x1 x3 μ195).bind fun y214 =>
  (rR μ195 a0 9 3).bind fun y218 =>
  (aL μ195 y218 x1).bind fun y222 =>
  (f_Mt_floorDiv (y214 - y222) (1000 : Int64)).bind fun y227 =>
  f_Si_tellLetters_J231 a0 y197 (10 : Int32) y227.toInt32 μ195
def f_Si_tellLetters_J159  (a0 : Nat) (x1 : Int32) (x2 : Int32) (x3 : Int32) (x4 : Int32) (s0 : Nat) (s1 : Int32) (s2 : Int32) (μ : MM) : Option (MM) :=
  (uI μ s0 s1 s2).bind fun μ159 =>
  (rR μ159 a0 9 4).bind fun y161 =>
  (rR μ159 a0 9 0).bind fun y167 =>
  (f_Sc_breathes y167 x4 x2 μ159).bind fun y173 =>
  if y173 = 0 then (
    f_Si_tellLetters_J184 a0 x1 x3 y161 (8 : Int32) (0 : Int32) μ159)
  else
  f_Si_tellLetters_J184 a0 x1 x3 y161 (8 : Int32) (1 : Int32) μ159
def f_Si_tellLetters_J130  (a0 : Nat) (x1 : Int32) (x2 : Int32) (x3 : Int32) (x4 : Int32) (x5 : Int32) (s0 : Nat) (s1 : Int32) (s2 : Int32) (μ : MM) : Option (MM) :=
  (uI μ s0 s1 s2).bind fun μ130 =>
  (rR μ130 a0 9 4).bind fun y132 =>
  (f_Mt_abs_I x5).bind fun y139 =>
  (uI μ130 y132 (6 : Int32) y139).bind fun μ142 =>
  (rR μ142 a0 9 4).bind fun y144 =>
  if x5 ≤ 0 then (
    f_Si_tellLetters_J159 a0 x1 x2 x3 x4 y144 (7 : Int32) (0 : Int32) μ142)
  else
  f_Si_tellLetters_J159 a0 x1 x2 x3 x4 y144 (7 : Int32) (1 : Int32) μ142
def f_Si_tellLetters_J91  (a0 : Nat) (x1 : Int32) (x2 : Int32) (x3 : Int32) (x4 : Int32) (x5 : Int32) (s0 : Nat) (s1 : Int32) (s2 : Int32) (μ : MM) : Option (MM) :=
  (uI μ s0 s1 s2).bind fun μ91 =>
  (rR μ91 a0 9 4).bind fun y93 =>
  (rR μ91 a0 9 1).bind fun y98 =>
  (rR μ91 y98 2 3).bind fun y101 =>
  (aI μ91 y101 x1).bind fun y105 =>
  (uI μ91 y93 (4 : Int32) y105).bind fun μ106 =>
  (rR μ106 a0 9 4).bind fun y108 =>
  (rR μ106 a0 9 0).bind fun y113 =>
  (f_Sc_holds y113 x4 x2 μ106).bind fun y119 =>
  if y119 = 0 then (
    f_Si_tellLetters_J130 a0 x1 x2 x3 x4 x5 y108 (5 : Int32) (0 : Int32) μ106)
  else
  f_Si_tellLetters_J130 a0 x1 x2 x3 x4 x5 y108 (5 : Int32) (1 : Int32) μ106
def f_Si_tellLetters_J49  (a0 : Nat) (x1 : Int32) (x2 : Int32) (x3 : Int32) (x4 : Int32) (s0 : Int32) (μ : MM) : Option (MM) :=
  (rR μ a0 9 4).bind fun y52 =>
  (uI μ y52 (0 : Int32) x2).bind fun μ57 =>
  (rR μ57 a0 9 4).bind fun y59 =>
  (uI μ57 y59 (1 : Int32) x4).bind fun μ65 =>
  (rR μ65 a0 9 4).bind fun y67 =>
  (uI μ65 y67 (2 : Int32) x1).bind fun μ72 =>
  (rR μ72 a0 9 4).bind fun y74 =>
  (f_Si_isKnowing a0 x1 μ72).bind fun y80 =>
  if y80 = 0 then (
    f_Si_tellLetters_J91 a0 x1 x2 x3 x4 s0 y74 (3 : Int32) (0 : Int32) μ72)
  else
  f_Si_tellLetters_J91 a0 x1 x2 x3 x4 s0 y74 (3 : Int32) (1 : Int32) μ72
def f_Si_tellLetters (a0 : Nat) (x1 : Int32) (x2 : Int32) (x3 : Int32) (μ : MM) : Option (MM) :=
  (kO μ a0 9).bind fun _ =>
  (rR μ a0 9 1).bind fun y1 =>
  (rR μ y1 2 1).bind fun y4 =>
  (aI μ y4 x1).bind fun y8 =>
  if x3 = (-1 : Int32) then (
    f_Si_tellLetters_J49 a0 x1 x2 x3 y8 (0 : Int32) μ)
  else
  (rR μ a0 9 0).bind fun y21 =>
  (rR μ y21 8 0).bind fun y24 =>
  (f_Sc_cell y8 x2).bind fun y30 =>
  (aI μ y24 y30).bind fun y33 =>
  (rR μ a0 9 0).bind fun y35 =>
  (rR μ y35 8 0).bind fun y38 =>
  (f_Sc_cell y8 x3).bind fun y44 =>
  (aI μ y38 y44).bind fun y47 =>
  f_Si_tellLetters_J49 a0 x1 x2 x3 y8 (y33 - y47) μ
def f_Pr_reckoned (x0 : Int32) (x1 : Int32) (x2 : Int32) : Option (Int32) :=
  if x0 = (2 : Int32) then (
    some (x1 + x2))
  else
  if x0 = (3 : Int32) then (
    some (x1 - x2))
  else
  if x0 = (4 : Int32) then (
    some (x1 * x2))
  else
  if x0 = (5 : Int32) then (
    if x2 = 0 then (
      some (0 : Int32))
    else
    (gd x2).bind fun u66 =>
    some (x1 / x2))
  else
  if x0 = (6 : Int32) then (
    if x2 = 0 then (
      some (0 : Int32))
    else
    (gd x2).bind fun u78 =>
    some (irem x1 x2))
  else
  if x0 = (7 : Int32) then (
    if x2 ≤ x1 then (
      some (0 : Int32))
    else
    some (1 : Int32))
  else
  if x0 = (8 : Int32) then (
    if x1 ≤ x2 then (
      some (0 : Int32))
    else
    some (1 : Int32))
  else
  if x1 = x2 then (
    some (1 : Int32))
  else
  some (0 : Int32)
def f_Pr_reckon_J269  (x4 : Int32) (μ : MM) : Option (Int32 × MM) :=
  if x4 = 0 then (
    some ((1 : Int32), μ))
  else
  some ((0 : Int32), μ)
def f_Pr_reckon_J100 (k6 : Int32 → Int32 → MM → Option (Int32 × MM))  (a0 : Nat) (x2 : Int32) (a3 : Nat) (x4 : Int32) (x5 : Int32) (s0 : Nat) (s1 : Int32) (s2 : Int32) (μ : MM) : Option (Int32 × MM) :=
  (uI μ s0 s1 s2).bind fun μ100 =>
  k6 x4 (x5 + (1 : Int32)) μ100
def f_Pr_reckon_J80 (k6 : Int32 → Int32 → MM → Option (Int32 × MM))  (a0 : Nat) (x2 : Int32) (a3 : Nat) (x4 : Int32) (x5 : Int32) (x6 : Int32) (x7 : Int32) (μ : MM) : Option (Int32 × MM) :=
  (rR μ a0 5 2).bind fun y81 =>
  if x6 = 0 then (
    f_Pr_reckon_J100 k6 a0 x2 a3 x4 x5 y81 x4 x7 μ)
  else
  (aI μ a3 x7).bind fun y99 =>
  f_Pr_reckon_J100 k6 a0 x2 a3 x4 x5 y81 x4 y99 μ
def f_Pr_reckon_J50 (k6 : Int32 → Int32 → MM → Option (Int32 × MM))  (a0 : Nat) (x2 : Int32) (a3 : Nat) (x4 : Int32) (x5 : Int32) (x6 : Int32) (x7 : Int32) (μ : MM) : Option (Int32 × MM) :=
  if (64 : Int32) ≤ (x4 + (1 : Int32)) then (
    some ((0 : Int32), μ))
  else
  if x6 = (1 : Int32) then (
    if x7 < 0 then (
      some ((0 : Int32), μ))
    else
    (aN μ a3).bind fun y74 =>
    if x7 < y74 then (
      f_Pr_reckon_J80 k6 a0 x2 a3 (x4 + (1 : Int32)) x5 x6 x7 μ)
    else
    some ((0 : Int32), μ))
  else
  f_Pr_reckon_J80 k6 a0 x2 a3 (x4 + (1 : Int32)) x5 x6 x7 μ
def f_Pr_reckon_J178 (k6 : Int32 → Int32 → MM → Option (Int32 × MM))  (a0 : Nat) (x2 : Int32) (a3 : Nat) (x4 : Int32) (x5 : Int32) (x7 : Int32) (s0 : Int32) (s1 : Int32) (μ : MM) : Option (Int32 × MM) :=
  if s0 = s1 then (
    (f_Mt_max_II x5 (x7 - (1 : Int32))).bind fun y187 =>
    k6 x4 (y187 + (1 : Int32)) μ)
  else
  k6 (x4 + (-1 : Int32)) (x5 + (1 : Int32)) μ
def f_Pr_reckon_J166 (k6 : Int32 → Int32 → MM → Option (Int32 × MM))  (a0 : Nat) (x2 : Int32) (a3 : Nat) (x4 : Int32) (x5 : Int32) (x6 : Int32) (x7 : Int32) (s0 : Int32) (μ : MM) : Option (Int32 × MM) :=
  if x6 = (11 : Int32) then (
    f_Pr_reckon_J178 k6 a0 x2 a3 x4 x5 x7 s0 (1 : Int32) μ)
  else
  f_Pr_reckon_J178 k6 a0 x2 a3 x4 x5 x7 s0 (0 : Int32) μ
def f_Pr_reckon_J151 (k6 : Int32 → Int32 → MM → Option (Int32 × MM))  (a0 : Nat) (x2 : Int32) (a3 : Nat) (x4 : Int32) (x5 : Int32) (x6 : Int32) (x7 : Int32) (μ : MM) : Option (Int32 × MM) :=
  (rR μ a0 5 2).bind fun y152 =>
  (aI μ y152 x4).bind fun y157 =>
  if y157 = 0 then (
    f_Pr_reckon_J166 k6 a0 x2 a3 x4 x5 x6 x7 (1 : Int32) μ)
  else
  f_Pr_reckon_J166 k6 a0 x2 a3 x4 x5 x6 x7 (0 : Int32) μ
def f_Pr_reckon_J232 (k6 : Int32 → Int32 → MM → Option (Int32 × MM))  (a0 : Nat) (x2 : Int32) (a3 : Nat) (x4 : Int32) (x5 : Int32) (x6 : Int32) (μ : MM) : Option (Int32 × MM) :=
  (rR μ a0 5 2).bind fun y236 =>
  (rR μ a0 5 2).bind fun y244 =>
  (aI μ y244 (x4 + (-1 : Int32))).bind fun y249 =>
  (rR μ a0 5 2).bind fun y251 =>
  (aI μ y251 ((x4 + (-1 : Int32)) + (1 : Int32))).bind fun y258 =>
  (f_Pr_reckoned x6 y249 y258).bind fun y259 =>
  (uI μ y236 (x4 + (-1 : Int32)) y259).bind fun μ262 =>
  k6 (x4 + (-1 : Int32)) (x5 + (1 : Int32)) μ262
def f_Pr_reckon_L6  (a0 : Nat) (x2 : Int32) (a3 : Nat) : Nat → Int32 → Int32 → MM → Option (Int32 × MM)
  | 0 => fun _ _ _ => none
  | n + 1 => fun x4 x5 μ => 
    if x2 ≤ x5 then (
      f_Pr_reckon_J269 x4 μ)
    else
    (rI μ a0 5 6).bind fun y15 =>
    if y15 ≤ x5 then (
      f_Pr_reckon_J269 x4 μ)
    else
    (rR μ a0 5 0).bind fun y22 =>
    (aI μ y22 x5).bind fun y27 =>
    (rR μ a0 5 1).bind fun y31 =>
    (aI μ y31 x5).bind fun y36 =>
    if y27 = 0 then (
      f_Pr_reckon_J50 (f_Pr_reckon_L6 a0 x2 a3 n) a0 x2 a3 x4 x5 y27 y36 μ)
    else
    if y27 = (1 : Int32) then (
      f_Pr_reckon_J50 (f_Pr_reckon_L6 a0 x2 a3 n) a0 x2 a3 x4 x5 y27 y36 μ)
    else
    if 0 ≤ x4 then (
      if y27 = (10 : Int32) then (
        (rR μ a0 5 2).bind fun y119 =>
        (rR μ a0 5 2).bind fun y126 =>
        (aI μ y126 x4).bind fun y131 =>
        (uI μ y119 x4 ((1 : Int32) - y131)).bind fun μ133 =>
        (f_Pr_reckon_L6 a0 x2 a3 n) x4 (x5 + (1 : Int32)) μ133)
      else
      if y27 = (11 : Int32) then (
        f_Pr_reckon_J151 (f_Pr_reckon_L6 a0 x2 a3 n) a0 x2 a3 x4 x5 y27 y36 μ)
      else
      if y27 = (12 : Int32) then (
        f_Pr_reckon_J151 (f_Pr_reckon_L6 a0 x2 a3 n) a0 x2 a3 x4 x5 y27 y36 μ)
      else
      if x4 < (1 : Int32) then (
        some ((0 : Int32), μ))
      else
      (rR μ a0 5 2).bind fun y208 =>
      (aI μ y208 x4).bind fun y213 =>
      if y213 = 0 then (
        if y27 = (5 : Int32) then (
          some ((0 : Int32), μ))
        else
        if y27 = (6 : Int32) then (
          some ((0 : Int32), μ))
        else
        f_Pr_reckon_J232 (f_Pr_reckon_L6 a0 x2 a3 n) a0 x2 a3 x4 x5 y27 μ)
      else
      f_Pr_reckon_J232 (f_Pr_reckon_L6 a0 x2 a3 n) a0 x2 a3 x4 x5 y27 μ)
    else
    some ((0 : Int32), μ)
def f_Pr_reckon (a0 : Nat) (x1 : Int32) (x2 : Int32) (a3 : Nat) (μ : MM) : Option (Int32 × MM) :=
  (kO μ a0 5).bind fun _ =>
  f_Pr_reckon_L6 a0 x2 a3 FU (-1 : Int32) x1 μ
def f_Pr_within_J26  (x1 : Int32) (x2 : Int32) (s0 : Int32) : Option (Int32) :=
  if x2 ≤ x1 then (
    if x1 ≤ s0 then (
      some x1)
    else
    some s0)
  else
  some x2
def f_Pr_within_J12  (x0 : Int32) (x1 : Int32) (s0 : Int32) : Option (Int32) :=
  if x0 = (4 : Int32) then (
    f_Pr_within_J26 x1 s0 (20000 : Int32))
  else
  f_Pr_within_J26 x1 s0 (100 : Int32)
def f_Pr_within (x0 : Int32) (x1 : Int32) : Option (Int32) :=
  if x0 = (4 : Int32) then (
    f_Pr_within_J12 x0 x1 (-20000 : Int32))
  else
  f_Pr_within_J12 x0 x1 (0 : Int32)
def f_Pr_weigh_J141 (k10 : Int32 → Int32 → MM → Option (MM))  (a0 : Nat) (a1 : Nat) (a2 : Nat) (x3 : Int32) (x4 : Int32) (s0 : Nat) (s1 : Int32) (s2 : Int32) (μ : MM) : Option (MM) :=
  (uI μ s0 s1 s2).bind fun μ141 =>
  k10 x3 (x4 + (1 : Int32)) μ141
def f_Pr_weigh_J54 (k10 : Int32 → Int32 → MM → Option (MM))  (a0 : Nat) (a1 : Nat) (a2 : Nat) (x3 : Int32) (x4 : Int32) (x5 : Int32) (s0 : Int32) (μ : MM) : Option (MM) :=
  if s0 = 0 then (
    k10 x3 (x4 + (1 : Int32)) μ)
  else
  (rR μ a0 5 5).bind fun y63 =>
  (aI μ y63 x4).bind fun y68 =>
  (rR μ a0 5 4).bind fun y70 =>
  (aI μ y70 (x4 + (1 : Int32))).bind fun y77 =>
  (f_Pr_reckon a0 y68 y77 a1 μ).bind fun q79 =>
  if q79.1 = 0 then (
    k10 x3 (x4 + (1 : Int32)) q79.2)
  else
  (rR q79.2 a0 5 2).bind fun y86 =>
  (aI q79.2 y86 (0 : Int32)).bind fun y90 =>
  if y90 = 0 then (
    k10 x3 (x4 + (1 : Int32)) q79.2)
  else
  (rR q79.2 a0 5 4).bind fun y106 =>
  (aI q79.2 y106 x4).bind fun y111 =>
  (rR q79.2 a0 5 5).bind fun y113 =>
  (aI q79.2 y113 x4).bind fun y118 =>
  (f_Pr_reckon a0 y111 y118 a1 q79.2).bind fun q120 =>
  if q120.1 = 0 then (
    f_Pr_weigh_J141 k10 a0 a1 a2 (x3 ||| (ishl (1 : Int32) x5)) x4 a2 x5 (0 : Int32) q120.2)
  else
  (rR q120.2 a0 5 2).bind fun y129 =>
  (aI q120.2 y129 (0 : Int32)).bind fun y133 =>
  (f_Pr_within x5 y133).bind fun y134 =>
  f_Pr_weigh_J141 k10 a0 a1 a2 (x3 ||| (ishl (1 : Int32) x5)) x4 a2 x5 y134 q120.2
def f_Pr_weigh_J53 (k10 : Int32 → Int32 → MM → Option (MM))  (a0 : Nat) (a1 : Nat) (a2 : Nat) (x3 : Int32) (x4 : Int32) (x5 : Int32) (μ : MM) : Option (MM) :=
  f_Pr_weigh_J54 k10 a0 a1 a2 x3 x4 x5 (0 : Int32) μ
def f_Pr_weigh_L10  (a0 : Nat) (a1 : Nat) (a2 : Nat) : Nat → Int32 → Int32 → MM → Option (MM)
  | 0 => fun _ _ _ => none
  | n + 1 => fun x3 x4 μ => 
    (rI μ a0 5 7).bind fun y13 =>
    if y13 ≤ x4 then (
      some μ)
    else
    (rR μ a0 5 3).bind fun y20 =>
    (aI μ y20 x4).bind fun y25 =>
    if y25 < 0 then (
      f_Pr_weigh_J53 (f_Pr_weigh_L10 a0 a1 a2 n) a0 a1 a2 x3 x4 y25 μ)
    else
    (aN μ a2).bind fun y36 =>
    if y36 ≤ y25 then (
      f_Pr_weigh_J53 (f_Pr_weigh_L10 a0 a1 a2 n) a0 a1 a2 x3 x4 y25 μ)
    else
    if ((ishr x3 y25) &&& (1 : Int32)) = 0 then (
      f_Pr_weigh_J54 (f_Pr_weigh_L10 a0 a1 a2 n) a0 a1 a2 x3 x4 y25 (1 : Int32) μ)
    else
    f_Pr_weigh_J53 (f_Pr_weigh_L10 a0 a1 a2 n) a0 a1 a2 x3 x4 y25 μ
def f_Pr_weigh (a0 : Nat) (a1 : Nat) (a2 : Nat) (μ : MM) : Option (MM) :=
  (kO μ a0 5).bind fun _ =>
  (f_Ar_fill_AI a2 (0 : Int32) μ).bind fun μ4 =>
  f_Pr_weigh_L10 a0 a1 a2 FU (0 : Int32) (0 : Int32) μ4
def f_Ch_heard (x0 : Int32) (x1 : Int32) (x2 : Int32) : Option (Int32) :=
  (f_Mt_abs_I (x1 - x2)).bind fun y5 =>
  if ((8 : Int32) - y5) ≤ 0 then (
    some (0 : Int32))
  else
  some (x0 * ((8 : Int32) - y5))
def f_Si_millsOf (a0 : Nat) (x1 : Int32) (x2 : Int32) (μ : MM) : Option (Int64) :=
  (kO μ a0 9).bind fun _ =>
  (rR μ a0 9 0).bind fun y1 =>
  (rR μ y1 8 2).bind fun y4 =>
  (rR μ a0 9 1).bind fun y8 =>
  (rR μ y8 2 1).bind fun y11 =>
  (aI μ y11 x1).bind fun y15 =>
  (f_Sc_cell y15 x2).bind fun y17 =>
  (aI μ y4 y17).bind fun y20 =>
  some y20.toInt64
def f_Si_givenIn (a0 : Nat) (x1 : Int32) (μ : MM) : Option (Int32) :=
  (kO μ a0 9).bind fun _ =>
  (rI μ a0 9 9).bind fun y1 =>
  if (y1 &&& ((ishl (2 : Int32) x1) - (1 : Int32))) = 0 then (
    (rR μ a0 9 1).bind fun y16 =>
    (rI μ y16 2 11).bind fun y19 =>
    some y19)
  else
  some (0 : Int32)
def f_Si_aim_J238  (a0 : Nat) (x1 : Int32) (x2 : Int32) (s0 : Nat) (s1 : Int32) (s2 : Int64) (μ : MM) : Option (MM) :=
  (uL μ s0 s1 s2).bind fun μ238 =>
  (rR μ238 a0 9 7).bind fun y240 =>
  (uB μ238 y240 (2 : Int32) (1 : Int32)).bind fun μ245 =>
  (rR μ245 a0 9 6).bind fun y247 =>
  (f_Si_tableOf a0 x1 x2 μ245).bind fun y254 =>
  (f_Si_givenIn a0 x2 μ245).bind fun y259 =>
  (uL μ245 y247 (2 : Int32) (y254 + y259.toInt64)).bind fun μ264 =>
  (rR μ264 a0 9 7).bind fun y266 =>
  (f_Si_isKnowing a0 x1 μ264).bind fun y272 =>
  (uB μ264 y266 (3 : Int32) y272).bind fun μ275 =>
  (rR μ275 a0 9 6).bind fun y277 =>
  (f_Si_tableOf a0 x1 x2 μ275).bind fun y284 =>
  (uL μ275 y277 (3 : Int32) y284).bind fun μ287 =>
  some μ287
def f_Si_aim_J196  (a0 : Nat) (x1 : Int32) (x2 : Int32) (x3 : Int32) (x4 : Int64) (s0 : Int32) (μ : MM) : Option (MM) :=
  (rR μ a0 9 6).bind fun y199 =>
  if x3 = (-1 : Int32) then (
    f_Si_aim_J238 a0 x1 x2 y199 (1 : Int32) (0 : Int64) μ)
  else
  if s0 = 0 then (
    (f_Si_millsOf a0 x1 x2 μ).bind fun y227 =>
    (f_Si_millsOf a0 x1 x3 μ).bind fun y234 =>
    f_Si_aim_J238 a0 x1 x2 y199 (1 : Int32) ((x4 + y227) - y234) μ)
  else
  f_Si_aim_J238 a0 x1 x2 y199 (1 : Int32) x4 μ
def f_Si_aim_J195  (a0 : Nat) (x1 : Int32) (x2 : Int32) (x3 : Int32) (x4 : Int64) (μ : MM) : Option (MM) :=
  f_Si_aim_J196 a0 x1 x2 x3 x4 (0 : Int32) μ
def f_Si_aim_J163  (a0 : Nat) (x1 : Int32) (x2 : Int32) (x3 : Int32) (x4 : Int64) (s0 : Nat) (s1 : Int32) (s2 : Int32) (μ : MM) : Option (MM) :=
  (uB μ s0 s1 s2).bind fun μ163 =>
  if x3 = (x2 - (1 : Int32)) then (
    (rR μ163 a0 9 0).bind fun y172 =>
    (rR μ163 a0 9 1).bind fun y176 =>
    (rR μ163 y176 2 1).bind fun y179 =>
    (aI μ163 y179 x1).bind fun y183 =>
    (f_Sc_holds y172 y183 x2 μ163).bind fun y185 =>
    if y185 = 0 then (
      f_Si_aim_J195 a0 x1 x2 x3 x4 μ163)
    else
    f_Si_aim_J196 a0 x1 x2 x3 x4 (1 : Int32) μ163)
  else
  f_Si_aim_J195 a0 x1 x2 x3 x4 μ163
def f_Si_aim_J147  (a0 : Nat) (x1 : Int32) (x2 : Int32) (x3 : Int32) (x4 : Int64) (s0 : Nat) (s1 : Int32) (s2 : Int64) (μ : MM) : Option (MM) :=
  (uL μ s0 s1 s2).bind fun μ147 =>
  (rR μ147 a0 9 7).bind fun y149 =>
  if x3 = (-1 : Int32) then (
    f_Si_aim_J163 a0 x1 x2 x3 x4 y149 (1 : Int32) (0 : Int32) μ147)
  else
  f_Si_aim_J163 a0 x1 x2 x3 x4 y149 (1 : Int32) (1 : Int32) μ147
def f_Si_aim_J123  (a0 : Nat) (x1 : Int32) (x2 : Int32) (x3 : Int32) (x4 : Int64) (x6 : Int64) (x8 : Int64) (s0 : Nat) (s1 : Int32) (s2 : Int32) (μ : MM) : Option (MM) :=
  (uB μ s0 s1 s2).bind fun μ123 =>
  (rR μ123 a0 9 6).bind fun y125 =>
  if (lg_cmp x6 (0 : Int64)) ≤ 0 then (
    f_Si_aim_J147 a0 x1 x2 x3 x4 y125 (0 : Int32) (0 : Int64) μ123)
  else
  (f_Mt_floorDiv x8 x6).bind fun y140 =>
  f_Si_aim_J147 a0 x1 x2 x3 x4 y125 (0 : Int32) y140 μ123
def f_Si_aim_L9  (a0 : Nat) (x1 : Int32) (x2 : Int32) (x3 : Int32) (x4 : Int64) (μ : MM) : Nat → Int64 → Int64 → Int32 → Option (MM)
  | 0 => fun _ _ _ => none
  | n + 1 => fun x6 x8 x10 => 
    if x1 ≤ x10 then (
      (rR μ a0 9 7).bind fun y107 =>
      if (lg_cmp x6 (0 : Int64)) ≤ 0 then (
        f_Si_aim_J123 a0 x1 x2 x3 x4 x6 x8 y107 (0 : Int32) (0 : Int32) μ)
      else
      f_Si_aim_J123 a0 x1 x2 x3 x4 x6 x8 y107 (0 : Int32) (1 : Int32) μ)
    else
    (rR μ a0 9 1).bind fun y16 =>
    (f_Ch_sings y16 x10 x2 μ).bind fun y22 =>
    if y22 = 0 then (
      (f_Si_aim_L9 a0 x1 x2 x3 x4 μ n) x6 x8 (x10 + (1 : Int32)))
    else
    (rR μ a0 9 1).bind fun y29 =>
    (rR μ y29 2 3).bind fun y32 =>
    (aI μ y32 x10).bind fun y37 =>
    (rR μ a0 9 8).bind fun y39 =>
    (aI μ y39 x1).bind fun y43 =>
    (rR μ a0 9 8).bind fun y45 =>
    (aI μ y45 x10).bind fun y50 =>
    (f_Ch_heard y37 y43 y50).bind fun y51 =>
    (rR μ a0 9 2).bind fun y70 =>
    (aL μ y70 ((x10 * (24 : Int32)) + x2)).bind fun y80 =>
    (f_Si_millsOf a0 x1 x2 μ).bind fun y84 =>
    (f_Si_millsOf a0 x10 x2 μ).bind fun y92 =>
    (f_Si_aim_L9 a0 x1 x2 x3 x4 μ n) (x6 + y51.toInt64) (x8 + (y51.toInt64 * ((y80 + y84) - y92))) (x10 + (1 : Int32))
def f_Si_aim (a0 : Nat) (x1 : Int32) (x2 : Int32) (x3 : Int32) (x4 : Int64) (μ : MM) : Option (MM) :=
  (kO μ a0 9).bind fun _ =>
  f_Si_aim_L9 a0 x1 x2 x3 x4 μ FU (0 : Int64) (0 : Int64) (0 : Int32)
def f_Si_blend_J50 (k9 : Int64 → Int64 → Int32 → Option (Int64))  (a0 : Nat) (x1 : Int32) (x2 : Int32) (x3 : Int32) (x4 : Int32) (x5 : Int64) (x7 : Int64) (x9 : Int32) (s0 : Int32) (μ : MM) : Option (Int64) :=
  (rR μ a0 9 7).bind fun y53 =>
  (aB μ y53 x9).bind fun y58 =>
  if y58 = 0 then (
    k9 x5 x7 (x9 + (1 : Int32)))
  else
  (rR μ a0 9 6).bind fun y68 =>
  (aL μ y68 x9).bind fun y73 =>
  k9 (x5 + (s0.toInt64 * y73)) (x7 + s0.toInt64) (x9 + (1 : Int32))
def f_Si_blend_L9  (a0 : Nat) (x1 : Int32) (x2 : Int32) (x3 : Int32) (x4 : Int32) (μ : MM) : Nat → Int64 → Int64 → Int32 → Option (Int64)
  | 0 => fun _ _ _ => none
  | n + 1 => fun x5 x7 x9 => 
    (rR μ a0 9 6).bind fun y12 =>
    (aN μ y12).bind fun y15 =>
    if y15 ≤ x9 then (
      if (lg_cmp x7 (0 : Int64)) ≤ 0 then (
        (rR μ a0 9 6).bind fun y110 =>
        (aL μ y110 (2 : Int32)).bind fun y114 =>
        some y114)
      else
      (f_Mt_floorDiv x5 x7).bind fun y103 =>
      some y103)
    else
    if x9 = 0 then (
      f_Si_blend_J50 (f_Si_blend_L9 a0 x1 x2 x3 x4 μ n) a0 x1 x2 x3 x4 x5 x7 x9 x1 μ)
    else
    if x9 = (1 : Int32) then (
      f_Si_blend_J50 (f_Si_blend_L9 a0 x1 x2 x3 x4 μ n) a0 x1 x2 x3 x4 x5 x7 x9 x2 μ)
    else
    if x9 = (2 : Int32) then (
      f_Si_blend_J50 (f_Si_blend_L9 a0 x1 x2 x3 x4 μ n) a0 x1 x2 x3 x4 x5 x7 x9 x3 μ)
    else
    f_Si_blend_J50 (f_Si_blend_L9 a0 x1 x2 x3 x4 μ n) a0 x1 x2 x3 x4 x5 x7 x9 x4 μ
def f_Si_blend (a0 : Nat) (x1 : Int32) (x2 : Int32) (x3 : Int32) (x4 : Int32) (μ : MM) : Option (Int64) :=
  (kO μ a0 9).bind fun _ =>
  f_Si_blend_L9 a0 x1 x2 x3 x4 μ FU (0 : Int64) (0 : Int64) (0 : Int32)
def f_Si_singNote (a0 : Nat) (x1 : Int32) (x2 : Int32) (μ : MM) : Option (MM) :=
  (kO μ a0 9).bind fun _ =>
  (rR μ a0 9 1).bind fun y1 =>
  (f_Ch_lastNote y1 x1 x2 μ).bind fun y6 =>
  (rI μ a0 9 13).bind fun y15 =>
  (pI μ a0 9 13 ((((25173 : Int32) * y15) + (13849 : Int32)) &&& (65535 : Int32))).bind fun μ26 =>
  (f_Si_tellLetters a0 x1 x2 y6 μ26).bind fun μ33 =>
  (rR μ33 a0 9 1).bind fun y37 =>
  (rR μ33 y37 2 8).bind fun y40 =>
  (rR μ33 a0 9 4).bind fun y44 =>
  (rR μ33 a0 9 5).bind fun y48 =>
  (f_Pr_weigh y40 y44 y48 μ33).bind fun μ51 =>
  (rR μ51 a0 9 3).bind fun y59 =>
  (aL μ51 y59 x1).bind fun y63 =>
  (f_Si_aim a0 x1 x2 y6 y63 μ51).bind fun μ64 =>
  (rR μ64 a0 9 5).bind fun y69 =>
  (aI μ64 y69 (0 : Int32)).bind fun y73 =>
  (rR μ64 a0 9 5).bind fun y75 =>
  (aI μ64 y75 (1 : Int32)).bind fun y79 =>
  (rR μ64 a0 9 5).bind fun y81 =>
  (aI μ64 y81 (2 : Int32)).bind fun y85 =>
  (rR μ64 a0 9 5).bind fun y87 =>
  (aI μ64 y87 (3 : Int32)).bind fun y91 =>
  (f_Si_blend a0 y73 y79 y85 y91 μ64).bind fun y92 =>
  (rR μ64 a0 9 5).bind fun y96 =>
  (aI μ64 y96 (4 : Int32)).bind fun y100 =>
  (rL μ64 a0 9 12).bind fun y107 =>
  (rR μ64 a0 9 5).bind fun y111 =>
  (aI μ64 y111 (4 : Int32)).bind fun y115 =>
  (pL μ64 a0 9 12 (y107 + y115.toInt64)).bind fun μ118 =>
  (rR μ118 a0 9 2).bind fun y122 =>
  (uL μ118 y122 ((x1 * (24 : Int32)) + x2) (y92 + y100.toInt64)).bind fun μ133 =>
  (rR μ133 a0 9 3).bind fun y135 =>
  (uL μ133 y135 x1 (y92 + y100.toInt64)).bind fun μ141 =>
  some μ141
def f_Si_sing_L82 (k40 : Int32 → MM → Option (MM))  (a0 : Nat) (x5 : Int32) : Nat → Int32 → MM → Option (MM)
  | 0 => fun _ _ => none
  | n + 1 => fun x6 μ => 
    (rR μ a0 9 1).bind fun y85 =>
    (rI μ y85 2 9).bind fun y88 =>
    if y88 ≤ x6 then (
      k40 (x5 + (1 : Int32)) μ)
    else
    (rI μ a0 9 14).bind fun y95 =>
    if y95 ≤ 0 then (
      k40 (x5 + (1 : Int32)) μ)
    else
    (rR μ a0 9 1).bind fun y102 =>
    (f_Ch_sings y102 x6 x5 μ).bind fun y109 =>
    if y109 = 0 then (
      (f_Si_sing_L82 k40 a0 x5 n) (x6 + (1 : Int32)) μ)
    else
    (f_Si_singNote a0 x6 x5 μ).bind fun μ120 =>
    (f_Si_sing_L82 k40 a0 x5 n) (x6 + (1 : Int32)) μ120
def f_Si_sing_J79 (k40 : Int32 → MM → Option (MM))  (a0 : Nat) (x5 : Int32) (μ : MM) : Option (MM) :=
  f_Si_sing_L82 k40 a0 x5 FU (0 : Int32) μ
def f_Si_sing_L40  (a0 : Nat) : Nat → Int32 → MM → Option (MM)
  | 0 => fun _ _ => none
  | n + 1 => fun x5 μ => 
    if (24 : Int32) ≤ x5 then (
      some μ)
    else
    (rR μ a0 9 1).bind fun y49 =>
    (f_Ch_howMany y49 x5 μ).bind fun y54 =>
    (pI μ a0 9 14 y54).bind fun μ57 =>
    (rI μ57 a0 9 9).bind fun y61 =>
    if ((ishr y61 x5) &&& (1 : Int32)) = (1 : Int32) then (
      (f_Si_giveAgain a0 x5 μ57).bind fun μ76 =>
      f_Si_sing_J79 (f_Si_sing_L40 a0 n) a0 x5 μ76)
    else
    f_Si_sing_J79 (f_Si_sing_L40 a0 n) a0 x5 μ57
def f_Si_sing (a0 : Nat) (a1 : Nat) (x2 : Int32) (x3 : Int32) (x4 : Int32) (μ : MM) : Option (MM) :=
  (kO μ a0 9).bind fun _ =>
  (pR μ a0 9 8 a1).bind fun μ2 =>
  (pI μ2 a0 9 9 x2).bind fun μ7 =>
  (pI μ7 a0 9 10 x3).bind fun μ12 =>
  (pZ μ12 a0 9 11 x4).bind fun μ18 =>
  (rR μ18 a0 9 1).bind fun y23 =>
  (rI μ18 y23 2 10).bind fun y26 =>
  (pI μ18 a0 9 13 y26).bind fun μ29 =>
  (pL μ29 a0 9 12 (0 : Int64)).bind fun μ34 =>
  f_Si_sing_L40 a0 FU (0 : Int32) μ34
def f_Si_asTold (a0 : Nat) (μ : MM) : Option (MM) :=
  (kO μ a0 9).bind fun _ =>
  (rR μ a0 9 1).bind fun y2 =>
  (rR μ y2 2 2).bind fun y5 =>
  (rR μ a0 9 1).bind fun y9 =>
  (rI μ y9 2 12).bind fun y12 =>
  (f_Si_sing a0 y5 y12 (0 : Int32) (0 : Int32) μ).bind fun μ17 =>
  some μ17
def f_Si_sung (a0 : Nat) (x1 : Int32) (x2 : Int32) (μ : MM) : Option (Int64) :=
  (kO μ a0 9).bind fun _ =>
  (rR μ a0 9 1).bind fun y1 =>
  (f_Ch_sings y1 x1 x2 μ).bind fun y6 =>
  if y6 = 0 then (
    some (0 : Int64))
  else
  (rR μ a0 9 2).bind fun y13 =>
  (aL μ y13 ((x1 * (24 : Int32)) + x2)).bind fun y22 =>
  some y22
def f_X_pitch (a0 : Nat) (x1 : Int32) (x2 : Int32) (μ : MM) : Option (Int32 × MM) :=
  (kO μ a0 0).bind fun _ =>
  (rR μ a0 0 1).bind fun y1 =>
  (f_Ch_sings y1 x1 x2 μ).bind fun y6 =>
  if y6 = 0 then (
    some ((-1000000000 : Int32), μ))
  else
  (rR μ a0 0 2).bind fun y16 =>
  (f_Si_asTold y16 μ).bind fun μ19 =>
  (rR μ19 a0 0 2).bind fun y23 =>
  (f_Si_sung y23 x1 x2 μ19).bind fun y28 =>
  some (y28.toInt32, μ19)
def f_M_sings (a0 : Nat) (x1 : Int32) (x2 : Int32) (μ : MM) : Option (Int32) :=
  (kO μ a0 1).bind fun _ =>
  (rR μ a0 1 22).bind fun y2 =>
  (aI μ y2 x1).bind fun y6 =>
  (f_M_isNote a0 y6 x2 μ).bind fun y8 =>
  (rz y8).bind fun y11 =>
  some y11
def f_M_readies_L2  (a0 : Nat) : Nat → Int32 → MM → Option (MM)
  | 0 => fun _ _ => none
  | n + 1 => fun x1 μ => 
    (rI μ a0 1 18).bind fun y4 =>
    if y4 ≤ x1 then (
      (rI μ a0 1 21).bind fun y42 =>
      (pI μ a0 1 52 y42).bind fun μ45 =>
      (pI μ45 a0 1 53 (0 : Int32)).bind fun μ50 =>
      some μ50)
    else
    (rR μ a0 1 50).bind fun y11 =>
    (rR μ a0 1 23).bind fun y16 =>
    (aI μ y16 x1).bind fun y20 =>
    (uI μ y11 x1 y20).bind fun μ21 =>
    (rR μ21 a0 1 51).bind fun y23 =>
    (rR μ21 a0 1 25).bind fun y28 =>
    (aI μ21 y28 x1).bind fun y32 =>
    (uI μ21 y23 x1 y32).bind fun μ33 =>
    (f_M_readies_L2 a0 n) (x1 + (1 : Int32)) μ33
def f_M_readies (a0 : Nat) (μ : MM) : Option (MM) :=
  (kO μ a0 1).bind fun _ =>
  f_M_readies_L2 a0 FU (0 : Int32) μ
def f_M_has (x0 : Int32) (x1 : Int32) : Option (Int32) :=
  if ((ishr x0 x1) &&& (1 : Int32)) = (1 : Int32) then (
    some (1 : Int32))
  else
  some (0 : Int32)
def f_M_keyOf (a0 : Nat) (x1 : Int32) (x2 : Int32) (μ : MM) : Option (Int32) :=
  (kO μ a0 1).bind fun _ =>
  (rR μ a0 1 2).bind fun y1 =>
  (rR μ a0 1 22).bind fun y5 =>
  (aI μ y5 x1).bind fun y9 =>
  (f_M_cellOf y9 x2).bind fun y11 =>
  (aI μ y1 y11).bind fun y14 =>
  some y14
def f_M_tableOf (a0 : Nat) (x1 : Int32) (μ : MM) : Option (Int32) :=
  (kO μ a0 1).bind fun _ =>
  (rR μ a0 1 26).bind fun y6 =>
  (rI μ a0 1 53).bind fun y14 =>
  (aI μ y6 (irem (((irem x1 (12 : Int32)) - y14) + (12 : Int32)) (12 : Int32))).bind fun y24 =>
  some (((100000 : Int32) * x1) + y24)
def f_M_hearsOf_J44  (a0 : Nat) (x2 : Int32) (s0 : Int32) (μ : MM) : Option (Int32) :=
  if (8 : Int32) ≤ s0 then (
    some (0 : Int32))
  else
  (rR μ a0 1 24).bind fun y52 =>
  (aI μ y52 x2).bind fun y56 =>
  some (y56 * ((8 : Int32) - s0))
def f_M_hearsOf (a0 : Nat) (x1 : Int32) (x2 : Int32) (μ : MM) : Option (Int32) :=
  (kO μ a0 1).bind fun _ =>
  (rR μ a0 1 50).bind fun y1 =>
  (aI μ y1 x1).bind fun y5 =>
  (rR μ a0 1 50).bind fun y7 =>
  (aI μ y7 x2).bind fun y11 =>
  if y11 ≤ y5 then (
    (rR μ a0 1 50).bind fun y32 =>
    (aI μ y32 x1).bind fun y36 =>
    (rR μ a0 1 50).bind fun y38 =>
    (aI μ y38 x2).bind fun y42 =>
    f_M_hearsOf_J44 a0 x2 (y36 - y42) μ)
  else
  (rR μ a0 1 50).bind fun y16 =>
  (aI μ y16 x2).bind fun y20 =>
  (rR μ a0 1 50).bind fun y22 =>
  (aI μ y22 x1).bind fun y26 =>
  f_M_hearsOf_J44 a0 x2 (y20 - y26) μ
def f_M_sizeFor (a0 : Nat) (x1 : Int32) (x2 : Int32) (μ : MM) : Option (Int32) :=
  (kO μ a0 1).bind fun _ =>
  (rR μ a0 1 22).bind fun y2 =>
  (aI μ y2 x1).bind fun y6 =>
  (f_M_sizeAt a0 y6 x2 μ).bind fun y8 =>
  some y8
def f_M_floor (x0 : Int64) (x2 : Int64) : Option (Int64) :=
  if (lg_cmp x0 (0 : Int64)) < 0 then (
    (gdl x2).bind fun u18 =>
    some (-(((x2 - (1 : Int64)) - x0) / x2)))
  else
  (gdl x2).bind fun u8 =>
  some (x0 / x2)
def f_M_listens_J120  (s0 : Nat) (s1 : Int64) (μ : MM) : Option (MM) :=
  (pL μ s0 1 64 s1).bind fun μ120 =>
  some μ120
def f_M_listens_J99  (a0 : Nat) (x3 : Int64) (x5 : Int64) (s0 : Nat) (s1 : Int32) (μ : MM) : Option (MM) :=
  (pZ μ s0 1 66 s1).bind fun μ99 =>
  (rI μ99 a0 1 66).bind fun y104 =>
  if y104 = 0 then (
    f_M_listens_J120 a0 (0 : Int64) μ99)
  else
  (f_M_floor x3 x5).bind fun y113 =>
  f_M_listens_J120 a0 y113 μ99
def f_M_listens_L8  (a0 : Nat) (x1 : Int32) (x2 : Int32) (μ : MM) : Nat → Int64 → Int64 → Int32 → Option (MM)
  | 0 => fun _ _ _ => none
  | n + 1 => fun x3 x5 x7 => 
    if x1 ≤ x7 then (
      if (lg_cmp x5 (0 : Int64)) ≤ 0 then (
        f_M_listens_J99 a0 x3 x5 a0 (0 : Int32) μ)
      else
      f_M_listens_J99 a0 x3 x5 a0 (1 : Int32) μ)
    else
    (f_M_sings a0 x7 x2 μ).bind fun y18 =>
    if y18 = 0 then (
      (f_M_listens_L8 a0 x1 x2 μ n) x3 x5 (x7 + (1 : Int32)))
    else
    (f_M_hearsOf a0 x1 x7 μ).bind fun y31 =>
    (rR μ a0 1 54).bind fun y41 =>
    (aI μ y41 (((24 : Int32) * x7) + x2)).bind fun y51 =>
    (f_M_sizeFor a0 x1 x2 μ).bind fun y56 =>
    (f_M_sizeFor a0 x7 x2 μ).bind fun y65 =>
    (f_M_listens_L8 a0 x1 x2 μ n) (x3 + (y31.toInt64 * ((y51.toInt64 + y56.toInt64) - y65.toInt64))) (x5 + y31.toInt64) (x7 + (1 : Int32))
def f_M_listens (a0 : Nat) (x1 : Int32) (x2 : Int32) (μ : MM) : Option (MM) :=
  (kO μ a0 1).bind fun _ =>
  f_M_listens_L8 a0 x1 x2 μ FU (0 : Int64) (0 : Int64) (0 : Int32)
def f_M_worked (x0 : Int32) (x1 : Int32) (x2 : Int32) : Option (Int32) :=
  if x0 = (37 : Int32) then (
    if x2 = 0 then (
      some (0 : Int32))
    else
    (gd x2).bind fun u102 =>
    some (irem x1 x2))
  else
  if x0 = (42 : Int32) then (
    some (x1 * x2))
  else
  if x0 = (43 : Int32) then (
    some (x1 + x2))
  else
  if x0 = (45 : Int32) then (
    some (x1 - x2))
  else
  if x0 = (47 : Int32) then (
    if x2 = 0 then (
      some (0 : Int32))
    else
    (gd x2).bind fun u90 =>
    some (x1 / x2))
  else
  if x0 = (60 : Int32) then (
    if x2 ≤ x1 then (
      some (0 : Int32))
    else
    some (1 : Int32))
  else
  if x0 = (62 : Int32) then (
    if x1 ≤ x2 then (
      some (0 : Int32))
    else
    some (1 : Int32))
  else
  if x1 = x2 then (
    some (1 : Int32))
  else
  some (0 : Int32)
def f_M_does_J42  (a0 : Nat) (x2 : Int32) (x3 : Int32) (s0 : Int32) (s1 : Int32) (μ : MM) : Option (MM) :=
  if s0 = s1 then (
    (rR μ a0 1 62).bind fun y47 =>
    (rR μ a0 1 62).bind fun y52 =>
    (aI μ y52 x3).bind fun y56 =>
    (uI μ y47 x2 y56).bind fun μ57 =>
    (rR μ57 a0 1 63).bind fun y59 =>
    (rR μ57 a0 1 63).bind fun y64 =>
    (aB μ57 y64 x3).bind fun y68 =>
    (uB μ57 y59 x2 y68).bind fun μ69 =>
    some μ69)
  else
  some μ
def f_M_does_J16  (a0 : Nat) (x1 : Int32) (x2 : Int32) (x3 : Int32) (μ : MM) : Option (MM) :=
  (rR μ a0 1 63).bind fun y17 =>
  (aB μ y17 x2).bind fun y21 =>
  if y21 = 0 then (
    (rR μ a0 1 62).bind fun y26 =>
    (aI μ y26 x2).bind fun y30 =>
    if x1 = (38 : Int32) then (
      f_M_does_J42 a0 x2 x3 y30 (1 : Int32) μ)
    else
    f_M_does_J42 a0 x2 x3 y30 (0 : Int32) μ)
  else
  some μ
def f_M_does_J120  (a0 : Nat) (x1 : Int32) (x2 : Int32) (x3 : Int32) (s0 : Nat) (s1 : Int32) (s2 : Int32) (μ : MM) : Option (MM) :=
  (uB μ s0 s1 s2).bind fun μ120 =>
  (rR μ120 a0 1 62).bind fun y122 =>
  (rR μ120 a0 1 62).bind fun y128 =>
  (aI μ120 y128 x2).bind fun y132 =>
  (rR μ120 a0 1 62).bind fun y134 =>
  (aI μ120 y134 x3).bind fun y138 =>
  (f_M_worked x1 y132 y138).bind fun y139 =>
  (uI μ120 y122 x2 y139).bind fun μ142 =>
  some μ142
def f_M_does_J115  (a0 : Nat) (x1 : Int32) (x2 : Int32) (x3 : Int32) (s0 : Nat) (s1 : Int32) (μ : MM) : Option (MM) :=
  f_M_does_J120 a0 x1 x2 x3 s0 s1 (1 : Int32) μ
def f_M_does_J119  (a0 : Nat) (x1 : Int32) (x2 : Int32) (x3 : Int32) (s0 : Nat) (s1 : Int32) (μ : MM) : Option (MM) :=
  f_M_does_J120 a0 x1 x2 x3 s0 s1 (0 : Int32) μ
def f_M_does_J106  (a0 : Nat) (x1 : Int32) (x2 : Int32) (x3 : Int32) (s0 : Nat) (s1 : Int32) (μ : MM) : Option (MM) :=
  (rR μ a0 1 62).bind fun y107 =>
  (aI μ y107 x3).bind fun y111 =>
  if y111 = 0 then (
    f_M_does_J115 a0 x1 x2 x3 s0 s1 μ)
  else
  f_M_does_J119 a0 x1 x2 x3 s0 s1 μ
def f_M_does (a0 : Nat) (x1 : Int32) (x2 : Int32) (μ : MM) : Option (MM) :=
  (kO μ a0 1).bind fun _ =>
  if x1 = (38 : Int32) then (
    f_M_does_J16 a0 x1 x2 (x2 + (1 : Int32)) μ)
  else
  if x1 = (124 : Int32) then (
    f_M_does_J16 a0 x1 x2 (x2 + (1 : Int32)) μ)
  else
  (rR μ a0 1 63).bind fun y72 =>
  (rR μ a0 1 63).bind fun y77 =>
  (aB μ y77 x2).bind fun y81 =>
  if y81 = 0 then (
    (rR μ a0 1 63).bind fun y86 =>
    (aB μ y86 (x2 + (1 : Int32))).bind fun y90 =>
    if y90 = 0 then (
      if x1 = (47 : Int32) then (
        f_M_does_J106 a0 x1 x2 (x2 + (1 : Int32)) y72 x2 μ)
      else
      if x1 = (37 : Int32) then (
        f_M_does_J106 a0 x1 x2 (x2 + (1 : Int32)) y72 x2 μ)
      else
      f_M_does_J119 a0 x1 x2 (x2 + (1 : Int32)) y72 x2 μ)
    else
    f_M_does_J115 a0 x1 x2 (x2 + (1 : Int32)) y72 x2 μ)
  else
  f_M_does_J115 a0 x1 x2 (x2 + (1 : Int32)) y72 x2 μ
def f_M_leapOf (a0 : Nat) (μ : MM) : Option (Int32) :=
  (kO μ a0 1).bind fun _ =>
  (rR μ a0 1 56).bind fun y1 =>
  (rI μ a0 1 59).bind fun y5 =>
  (aI μ y1 y5).bind fun y8 =>
  if y8 = (-1 : Int32) then (
    some (0 : Int32))
  else
  (rI μ a0 1 59).bind fun y21 =>
  (rI μ a0 1 60).bind fun y25 =>
  (f_M_keyOf a0 y21 y25 μ).bind fun y28 =>
  (rI μ a0 1 59).bind fun y33 =>
  (f_M_keyOf a0 y33 y8 μ).bind fun y37 =>
  some (y28 - y37)
def f_M_singing_L4  (a0 : Nat) (x1 : Int32) (μ : MM) : Nat → Int32 → Int32 → Option (Int32)
  | 0 => fun _ _ => none
  | n + 1 => fun x2 x3 => 
    (rI μ a0 1 18).bind fun y6 =>
    if y6 ≤ x3 then (
      some x2)
    else
    (f_M_sings a0 x3 x1 μ).bind fun y16 =>
    if y16 = 0 then (
      (f_M_singing_L4 a0 x1 μ n) (x2 + (0 : Int32)) (x3 + (1 : Int32)))
    else
    (f_M_singing_L4 a0 x1 μ n) (x2 + (1 : Int32)) (x3 + (1 : Int32))
def f_M_singing (a0 : Nat) (x1 : Int32) (μ : MM) : Option (Int32) :=
  (kO μ a0 1).bind fun _ =>
  f_M_singing_L4 a0 x1 μ FU (0 : Int32) (0 : Int32)
def f_M_valueOf_J279  (a0 : Nat) (μ : MM) : Option (Int32) :=
  (rI μ a0 1 58).bind fun y280 =>
  some (irem y280 (100 : Int32))
def f_M_valueOf (a0 : Nat) (x1 : Int32) (μ : MM) : Option (Int32) :=
  (kO μ a0 1).bind fun _ =>
  (rR μ a0 1 22).bind fun y1 =>
  (rI μ a0 1 59).bind fun y5 =>
  (aI μ y1 y5).bind fun y8 =>
  if x1 = (98 : Int32) then (
    (rI μ a0 1 60).bind fun y109 =>
    some y109)
  else
  if x1 = (99 : Int32) then (
    f_M_valueOf_J279 a0 μ)
  else
  if x1 = (100 : Int32) then (
    f_M_valueOf_J279 a0 μ)
  else
  if x1 = (101 : Int32) then (
    f_M_valueOf_J279 a0 μ)
  else
  if x1 = (102 : Int32) then (
    (rR μ a0 1 24).bind fun y131 =>
    (rI μ a0 1 59).bind fun y135 =>
    (aI μ y131 y135).bind fun y138 =>
    some y138)
  else
  if x1 = (103 : Int32) then (
    f_M_valueOf_J279 a0 μ)
  else
  if x1 = (104 : Int32) then (
    (rI μ a0 1 60).bind fun y143 =>
    (f_M_isHeld a0 y8 y143 μ).bind fun y146 =>
    if y146 = 0 then (
      some (0 : Int32))
    else
    some (1 : Int32))
  else
  if x1 = (105 : Int32) then (
    (rI μ a0 1 59).bind fun y116 =>
    some y116)
  else
  if x1 = (106 : Int32) then (
    (f_M_leapOf a0 μ).bind fun y159 =>
    if 0 ≤ y159 then (
      (f_M_leapOf a0 μ).bind fun y174 =>
      some y174)
    else
    (f_M_leapOf a0 μ).bind fun y166 =>
    some (-y166))
  else
  if x1 = (107 : Int32) then (
    (rR μ a0 1 51).bind fun y121 =>
    (rI μ a0 1 59).bind fun y125 =>
    (aI μ y121 y125).bind fun y128 =>
    some y128)
  else
  if x1 = (108 : Int32) then (
    f_M_valueOf_J279 a0 μ)
  else
  if x1 = (109 : Int32) then (
    f_M_valueOf_J279 a0 μ)
  else
  if x1 = (110 : Int32) then (
    (rI μ a0 1 60).bind fun y215 =>
    (f_M_singing a0 y215 μ).bind fun y218 =>
    some y218)
  else
  if x1 = (111 : Int32) then (
    (rR μ a0 1 56).bind fun y223 =>
    (rI μ a0 1 59).bind fun y227 =>
    (aI μ y223 y227).bind fun y230 =>
    if y230 = (-1 : Int32) then (
      some (0 : Int32))
    else
    (rI μ a0 1 59).bind fun y242 =>
    (rR μ a0 1 56).bind fun y246 =>
    (rI μ a0 1 59).bind fun y250 =>
    (aI μ y246 y250).bind fun y253 =>
    (f_M_keyOf a0 y242 y253 μ).bind fun y254 =>
    (f_M_tableOf a0 y254 μ).bind fun y257 =>
    (rR μ a0 1 55).bind fun y261 =>
    (rI μ a0 1 59).bind fun y265 =>
    (aI μ y261 y265).bind fun y268 =>
    (f_M_floor ((y257 - y268).toInt64) (1000 : Int64)).bind fun y274 =>
    some y274.toInt32)
  else
  if x1 = (112 : Int32) then (
    f_M_valueOf_J279 a0 μ)
  else
  if x1 = (113 : Int32) then (
    f_M_valueOf_J279 a0 μ)
  else
  if x1 = (114 : Int32) then (
    (rR μ a0 1 6).bind fun y192 =>
    (rI μ a0 1 60).bind fun y197 =>
    (f_M_cellOf y8 y197).bind fun y200 =>
    (aB μ y192 y200).bind fun y203 =>
    if y203 = 0 then (
      some (0 : Int32))
    else
    some (1 : Int32))
  else
  if x1 = (115 : Int32) then (
    f_M_valueOf_J279 a0 μ)
  else
  if x1 = (116 : Int32) then (
    f_M_valueOf_J279 a0 μ)
  else
  if x1 = (117 : Int32) then (
    (f_M_leapOf a0 μ).bind fun y179 =>
    if y179 ≤ 0 then (
      some (0 : Int32))
    else
    some (1 : Int32))
  else
  if x1 = (118 : Int32) then (
    some y8)
  else
  f_M_valueOf_J279 a0 μ
def f_M_works_J117 (k5 : Int32 → Int32 → MM → Option (MM))  (a0 : Nat) (x2 : Int32) (x3 : Int32) (x4 : Int32) (s0 : Nat) (s1 : Int32) (s2 : Int32) (μ : MM) : Option (MM) :=
  (uI μ s0 s1 s2).bind fun μ117 =>
  k5 (x3 + (1 : Int32)) (x4 + (1 : Int32)) μ117
def f_M_works_L5  (a0 : Nat) (x2 : Int32) : Nat → Int32 → Int32 → MM → Option (MM)
  | 0 => fun _ _ _ => none
  | n + 1 => fun x3 x4 μ => 
    if x2 ≤ x4 then (
      some μ)
    else
    (rR μ a0 1 32).bind fun y12 =>
    (aI μ y12 x4).bind fun y17 =>
    if y17 ≤ (2 : Int32) then (
      (rR μ a0 1 32).bind fun y43 =>
      (aI μ y43 x4).bind fun y48 =>
      if y48 = (2 : Int32) then (
        (rR μ a0 1 62).bind fun y54 =>
        (rR μ a0 1 62).bind fun y62 =>
        (aI μ y62 (x3 - (1 : Int32))).bind fun y68 =>
        (uI μ y54 (x3 - (1 : Int32)) ((1 : Int32) - y68)).bind fun μ70 =>
        (f_M_works_L5 a0 x2 n) x3 (x4 + (1 : Int32)) μ70)
      else
      (rR μ a0 1 63).bind fun y75 =>
      (uB μ y75 x3 (0 : Int32)).bind fun μ80 =>
      (rR μ80 a0 1 62).bind fun y82 =>
      (rR μ80 a0 1 32).bind fun y87 =>
      (aI μ80 y87 x4).bind fun y92 =>
      if y92 = 0 then (
        (rR μ80 a0 1 33).bind fun y97 =>
        (aI μ80 y97 x4).bind fun y102 =>
        f_M_works_J117 (f_M_works_L5 a0 x2 n) a0 x2 x3 x4 y82 x3 y102 μ80)
      else
      (rR μ80 a0 1 33).bind fun y108 =>
      (aI μ80 y108 x4).bind fun y113 =>
      (f_M_valueOf a0 y113 μ80).bind fun y114 =>
      f_M_works_J117 (f_M_works_L5 a0 x2 n) a0 x2 x3 x4 y82 x3 y114 μ80)
    else
    (rR μ a0 1 32).bind fun y27 =>
    (aI μ y27 x4).bind fun y32 =>
    (f_M_does a0 y32 ((x3 + (-1 : Int32)) - (1 : Int32)) μ).bind fun μ36 =>
    (f_M_works_L5 a0 x2 n) (x3 + (-1 : Int32)) (x4 + (1 : Int32)) μ36
def f_M_works (a0 : Nat) (x1 : Int32) (x2 : Int32) (μ : MM) : Option (MM) :=
  (kO μ a0 1).bind fun _ =>
  f_M_works_L5 a0 x2 FU (0 : Int32) x1 μ
def f_M_tells_J103  (x2 : Int32) (x3 : Int32) (s0 : Int32) (μ : MM) : Option (Int32 × MM) :=
  if x2 ≤ s0 then (
    if s0 ≤ x3 then (
      some (s0, μ))
    else
    some (x3, μ))
  else
  some (x2, μ)
def f_M_tells_L3  (a0 : Nat) (x1 : Int32) (x2 : Int32) (x3 : Int32) : Nat → Int32 → MM → Option (Int32 × MM)
  | 0 => fun _ _ => none
  | n + 1 => fun x4 μ => 
    (rI μ a0 1 27).bind fun y6 =>
    if y6 ≤ x4 then (
      some ((0 : Int32), μ))
    else
    (rR μ a0 1 28).bind fun y13 =>
    (aI μ y13 x4).bind fun y18 =>
    if y18 = x1 then (
      (rR μ a0 1 30).bind fun y28 =>
      (aI μ y28 x4).bind fun y33 =>
      (rR μ a0 1 31).bind fun y35 =>
      (aI μ y35 x4).bind fun y40 =>
      (f_M_works a0 y33 y40 μ).bind fun μ41 =>
      (rR μ41 a0 1 63).bind fun y45 =>
      (aB μ41 y45 (0 : Int32)).bind fun y49 =>
      if y49 = 0 then (
        (rR μ41 a0 1 62).bind fun y54 =>
        (aI μ41 y54 (0 : Int32)).bind fun y58 =>
        if y58 = (1 : Int32) then (
          (rR μ41 a0 1 29).bind fun y68 =>
          (aI μ41 y68 x4).bind fun y73 =>
          (rR μ41 a0 1 30).bind fun y75 =>
          (aI μ41 y75 x4).bind fun y80 =>
          (f_M_works a0 y73 y80 μ41).bind fun μ81 =>
          (rR μ81 a0 1 63).bind fun y85 =>
          (aB μ81 y85 (0 : Int32)).bind fun y89 =>
          if y89 = 0 then (
            (rR μ81 a0 1 62).bind fun y98 =>
            (aI μ81 y98 (0 : Int32)).bind fun y102 =>
            f_M_tells_J103 x2 x3 y102 μ81)
          else
          f_M_tells_J103 x2 x3 (0 : Int32) μ81)
        else
        (f_M_tells_L3 a0 x1 x2 x3 n) (x4 + (1 : Int32)) μ41)
      else
      (f_M_tells_L3 a0 x1 x2 x3 n) (x4 + (1 : Int32)) μ41)
    else
    (f_M_tells_L3 a0 x1 x2 x3 n) (x4 + (1 : Int32)) μ
def f_M_tells (a0 : Nat) (x1 : Int32) (x2 : Int32) (x3 : Int32) (μ : MM) : Option (Int32 × MM) :=
  (kO μ a0 1).bind fun _ =>
  f_M_tells_L3 a0 x1 x2 x3 FU (0 : Int32) μ
def f_M_aimOf_J27  (a0 : Nat) (x1 : Int32) (x2 : Int32) (x7 : Int64) (x9 : Int64) (x11 : Int64) (s0 : Int64) (μ : MM) : Option (Int64) :=
  (f_M_keyOf a0 x1 x2 μ).bind fun y33 =>
  (f_M_tableOf a0 y33 μ).bind fun y36 =>
  (rR μ a0 1 57).bind fun y45 =>
  (aI μ y45 x2).bind fun y49 =>
  if (lg_cmp (((x11 + s0) + x7) + x9) (0 : Int64)) = 0 then (
    some (y36.toInt64 + y49.toInt64))
  else
  (rL μ a0 1 64).bind fun y82 =>
  (rL μ a0 1 65).bind fun y89 =>
  (f_M_floor ((((x11 * y82) + (s0 * y89)) + (x7 * (y36.toInt64 + y49.toInt64))) + (x9 * y36.toInt64)) (((x11 + s0) + x7) + x9)).bind fun y108 =>
  some y108
def f_M_aimOf_J12  (a0 : Nat) (x1 : Int32) (x2 : Int32) (x5 : Int64) (x7 : Int64) (x9 : Int64) (s0 : Int64) (μ : MM) : Option (Int64) :=
  (rI μ a0 1 67).bind fun y15 =>
  if y15 = 0 then (
    f_M_aimOf_J27 a0 x1 x2 x7 x9 s0 (0 : Int64) μ)
  else
  f_M_aimOf_J27 a0 x1 x2 x7 x9 s0 x5 μ
def f_M_aimOf (a0 : Nat) (x1 : Int32) (x2 : Int32) (x3 : Int64) (x5 : Int64) (x7 : Int64) (x9 : Int64) (μ : MM) : Option (Int64) :=
  (kO μ a0 1).bind fun _ =>
  (rI μ a0 1 66).bind fun y1 =>
  if y1 = 0 then (
    f_M_aimOf_J12 a0 x1 x2 x5 x7 x9 (0 : Int64) μ)
  else
  f_M_aimOf_J12 a0 x1 x2 x5 x7 x9 x3 μ
def f_M_singsNote_J218  (a0 : Nat) (x1 : Int32) (x2 : Int32) (x8 : Int32) (s0 : Nat) (s1 : Int32) (s2 : Int32) (s3 : Int64) (s4 : Int64) (s5 : Int64) (s6 : Int64) (μ : MM) : Option (MM) :=
  (f_M_aimOf s0 s1 s2 s3 s4 s5 s6 μ).bind fun y218 =>
  (rR μ a0 1 54).bind fun y229 =>
  (uI μ y229 (((24 : Int32) * x1) + x2) ((y218 + x8.toInt64).toInt32)).bind fun μ240 =>
  (rR μ240 a0 1 55).bind fun y242 =>
  (uI μ240 y242 x1 ((y218 + x8.toInt64).toInt32)).bind fun μ248 =>
  (rR μ248 a0 1 56).bind fun y250 =>
  (uI μ248 y250 x1 x2).bind fun μ255 =>
  some μ255
def f_M_singsNote_J116  (a0 : Nat) (x1 : Int32) (x2 : Int32) (s0 : Nat) (s1 : Int64) (μ : MM) : Option (MM) :=
  (pL μ s0 1 65 s1).bind fun μ116 =>
  (f_M_tells a0 (112 : Int32) (0 : Int32) (100 : Int32) μ116).bind fun q125 =>
  (f_M_tells a0 (115 : Int32) (0 : Int32) (100 : Int32) q125.2).bind fun q136 =>
  (f_M_tells a0 (116 : Int32) (0 : Int32) (100 : Int32) q136.2).bind fun q147 =>
  (f_M_tells a0 (107 : Int32) (0 : Int32) (100 : Int32) q147.2).bind fun q158 =>
  (f_M_tells a0 (100 : Int32) (-20000 : Int32) (20000 : Int32) q158.2).bind fun q172 =>
  (rL q172.2 a0 1 61).bind fun y179 =>
  (pL q172.2 a0 1 61 (y179 + q172.1.toInt64)).bind fun μ186 =>
  (rR μ186 a0 1 51).bind fun y202 =>
  (aI μ186 y202 x1).bind fun y206 =>
  if y206 = (1 : Int32) then (
    f_M_singsNote_J218 a0 x1 x2 q172.1 a0 x1 x2 q125.1.toInt64 q136.1.toInt64 q147.1.toInt64 q158.1.toInt64 μ186)
  else
  f_M_singsNote_J218 a0 x1 x2 q172.1 a0 x1 x2 q125.1.toInt64 q136.1.toInt64 q147.1.toInt64 (0 : Int64) μ186
def f_M_singsNote_J54  (a0 : Nat) (x1 : Int32) (x2 : Int32) (x3 : Int32) (s0 : Nat) (s1 : Int32) (μ : MM) : Option (MM) :=
  (pZ μ s0 1 67 s1).bind fun μ54 =>
  (rI μ54 a0 1 67).bind fun y59 =>
  if y59 = 0 then (
    f_M_singsNote_J116 a0 x1 x2 a0 (0 : Int64) μ54)
  else
  (rR μ54 a0 1 22).bind fun y71 =>
  (aI μ54 y71 x1).bind fun y75 =>
  (f_M_isHeld a0 y75 x2 μ54).bind fun y77 =>
  if y77 = 0 then (
    (rR μ54 a0 1 55).bind fun y94 =>
    (aI μ54 y94 x1).bind fun y98 =>
    (f_M_sizeFor a0 x1 x2 μ54).bind fun y103 =>
    (f_M_sizeFor a0 x1 x3 μ54).bind fun y111 =>
    f_M_singsNote_J116 a0 x1 x2 a0 ((y98.toInt64 + y103.toInt64) - y111.toInt64) μ54)
  else
  (rR μ54 a0 1 55).bind fun y84 =>
  (aI μ54 y84 x1).bind fun y88 =>
  f_M_singsNote_J116 a0 x1 x2 a0 y88.toInt64 μ54
def f_M_singsNote (a0 : Nat) (x1 : Int32) (x2 : Int32) (μ : MM) : Option (MM) :=
  (kO μ a0 1).bind fun _ =>
  (rI μ a0 1 58).bind fun y5 =>
  (pI μ a0 1 58 (irem (((25173 : Int32) * y5) + (13849 : Int32)) (65536 : Int32))).bind fun μ17 =>
  (pI μ17 a0 1 59 x1).bind fun μ22 =>
  (pI μ22 a0 1 60 x2).bind fun μ27 =>
  (f_M_listens a0 x1 x2 μ27).bind fun μ33 =>
  (rR μ33 a0 1 56).bind fun y37 =>
  (aI μ33 y37 x1).bind fun y41 =>
  if y41 = (-1 : Int32) then (
    f_M_singsNote_J54 a0 x1 x2 y41 a0 (0 : Int32) μ33)
  else
  f_M_singsNote_J54 a0 x1 x2 y41 a0 (1 : Int32) μ33
def f_M_isSung_L118 (k43 : Int32 → Int32 → MM → Option (MM))  (a0 : Nat) (x1 : Int32) (x2 : Int32) : Nat → Int32 → MM → Option (MM)
  | 0 => fun _ _ => none
  | n + 1 => fun x3 μ => 
    (rI μ a0 1 18).bind fun y120 =>
    if y120 ≤ x3 then (
      k43 x1 (x2 + (1 : Int32)) μ)
    else
    (f_M_sings a0 x3 x2 μ).bind fun y129 =>
    if y129 = 0 then (
      (f_M_isSung_L118 k43 a0 x1 x2 n) (x3 + (1 : Int32)) μ)
    else
    (f_M_singsNote a0 x3 x2 μ).bind fun μ138 =>
    (f_M_isSung_L118 k43 a0 x1 x2 n) (x3 + (1 : Int32)) μ138
def f_M_isSung_J109 (k43 : Int32 → Int32 → MM → Option (MM))  (a0 : Nat) (x1 : Int32) (x2 : Int32) (μ : MM) : Option (MM) :=
  (rR μ a0 1 57).bind fun y110 =>
  (uI μ y110 x2 x1).bind fun μ115 =>
  f_M_isSung_L118 k43 a0 x1 x2 FU (0 : Int32) μ115
def f_M_isSung_L64 (k43 : Int32 → Int32 → MM → Option (MM))  (a0 : Nat) (x1 : Int32) (x2 : Int32) : Nat → Int32 → MM → Option (MM)
  | 0 => fun _ _ => none
  | n + 1 => fun x3 μ => 
    (rI μ a0 1 18).bind fun y66 =>
    if y66 ≤ x3 then (
      f_M_isSung_J109 k43 a0 x1 x2 μ)
    else
    (rR μ a0 1 56).bind fun y73 =>
    (aI μ y73 x3).bind fun y77 =>
    if y77 = (-1 : Int32) then (
      (f_M_isSung_L64 k43 a0 x1 x2 n) (x3 + (1 : Int32)) μ)
    else
    (rR μ a0 1 55).bind fun y83 =>
    (rR μ a0 1 56).bind fun y91 =>
    (aI μ y91 x3).bind fun y95 =>
    (f_M_keyOf a0 x3 y95 μ).bind fun y96 =>
    (f_M_tableOf a0 y96 μ).bind fun y99 =>
    (uI μ y83 x3 y99).bind fun μ102 =>
    (f_M_isSung_L64 k43 a0 x1 x2 n) (x3 + (1 : Int32)) μ102
def f_M_isSung_L43  (a0 : Nat) : Nat → Int32 → Int32 → MM → Option (MM)
  | 0 => fun _ _ _ => none
  | n + 1 => fun x1 x2 μ => 
    if (24 : Int32) ≤ x2 then (
      some μ)
    else
    (rI μ a0 1 52).bind fun y50 =>
    (f_M_has y50 x2).bind fun y54 =>
    if y54 = 0 then (
      f_M_isSung_J109 (f_M_isSung_L43 a0 n) a0 x1 x2 μ)
    else
    f_M_isSung_L64 (f_M_isSung_L43 a0 n) a0 (0 : Int32) x2 FU (0 : Int32) μ
def f_M_isSung_L20  (a0 : Nat) (x1 : Int32) : Nat → Int32 → MM → Option (MM)
  | 0 => fun _ _ => none
  | n + 1 => fun x2 μ => 
    (rI μ a0 1 18).bind fun y22 =>
    if y22 ≤ x2 then (
      f_M_isSung_L43 a0 FU x1 (0 : Int32) μ)
    else
    (rR μ a0 1 56).bind fun y29 =>
    (uI μ y29 x2 (-1 : Int32)).bind fun μ34 =>
    (f_M_isSung_L20 a0 x1 n) (x2 + (1 : Int32)) μ34
def f_M_isSung (a0 : Nat) (μ : MM) : Option (MM) :=
  (kO μ a0 1).bind fun _ =>
  (rI μ a0 1 19).bind fun y2 =>
  (pI μ a0 1 58 y2).bind fun μ5 =>
  (pL μ5 a0 1 61 (0 : Int64)).bind fun μ10 =>
  (rI μ10 a0 1 20).bind fun y14 =>
  f_M_isSung_L20 a0 y14 FU (0 : Int32) μ10
def f_M_plainly (a0 : Nat) (μ : MM) : Option (MM) :=
  (kO μ a0 1).bind fun _ =>
  (f_M_readies a0 μ).bind fun μ1 =>
  (f_M_isSung a0 μ1).bind fun μ5 =>
  some μ5
def f_M_pitch (a0 : Nat) (x1 : Int32) (x2 : Int32) (μ : MM) : Option (Int32 × MM) :=
  (kO μ a0 1).bind fun _ =>
  (f_M_isSinger a0 x1 μ).bind fun y2 =>
  if y2 = 0 then (
    some ((-1000000000 : Int32), μ))
  else
  (f_M_isBeat x2).bind fun y9 =>
  if y9 = 0 then (
    some ((-1000000000 : Int32), μ))
  else
  (f_M_sings a0 x1 x2 μ).bind fun y18 =>
  if y18 = 0 then (
    some ((-1000000000 : Int32), μ))
  else
  (f_M_plainly a0 μ).bind fun μ28 =>
  (rR μ28 a0 1 54).bind fun y32 =>
  (aI μ28 y32 (((24 : Int32) * x1) + x2)).bind fun y41 =>
  some (y41, μ28)
def f_Si_off_L8  (a0 : Nat) (x1 : Int32) (μ : MM) : Nat → Int64 → Int64 → Int32 → Option (Int64)
  | 0 => fun _ _ _ => none
  | n + 1 => fun x2 x4 x6 => 
    (rR μ a0 9 1).bind fun y11 =>
    (rI μ y11 2 9).bind fun y14 =>
    if y14 ≤ x6 then (
      if (lg_cmp x4 (0 : Int64)) ≤ 0 then (
        some (0 : Int64))
      else
      (f_Mt_floorDiv x2 x4).bind fun y73 =>
      some y73)
    else
    (rR μ a0 9 1).bind fun y21 =>
    (f_Ch_sings y21 x6 x1 μ).bind fun y27 =>
    if y27 = 0 then (
      (f_Si_off_L8 a0 x1 μ n) x2 x4 (x6 + (1 : Int32)))
    else
    (f_Si_sung a0 x6 x1 μ).bind fun y38 =>
    (f_Si_tableOf a0 x6 x1 μ).bind fun y45 =>
    (f_Si_off_L8 a0 x1 μ n) (x2 + (y38 - y45)) (x4 + (1 : Int64)) (x6 + (1 : Int32))
def f_Si_off (a0 : Nat) (x1 : Int32) (μ : MM) : Option (Int64) :=
  (kO μ a0 9).bind fun _ =>
  f_Si_off_L8 a0 x1 μ FU (0 : Int64) (0 : Int64) (0 : Int32)
def f_Mt_abs_J (x0 : Int64) : Option (Int64) :=
  if 0 ≤ (lg_cmp x0 (0 : Int64)) then (
    some x0)
  else
  some (-x0)
def f_Si_foul_L20 (k5 : Int64 → Int32 → Option (Int64))  (a0 : Nat) (x1 : Int32) (x4 : Int32) (μ : MM) : Nat → Int64 → Int32 → Option (Int64)
  | 0 => fun _ _ => none
  | n + 1 => fun x2 x5 => 
    if x4 ≤ x5 then (
      k5 x2 (x4 + (1 : Int32)))
    else
    (rR μ a0 9 1).bind fun y28 =>
    (f_Ch_sings y28 x4 x1 μ).bind fun y34 =>
    if y34 = 0 then (
      (f_Si_foul_L20 k5 a0 x1 x4 μ n) x2 (x5 + (1 : Int32)))
    else
    (rR μ a0 9 1).bind fun y41 =>
    (f_Ch_sings y41 x5 x1 μ).bind fun y47 =>
    if y47 = 0 then (
      (f_Si_foul_L20 k5 a0 x1 x4 μ n) x2 (x5 + (1 : Int32)))
    else
    (f_Si_sung a0 x4 x1 μ).bind fun y57 =>
    (f_Si_sung a0 x5 x1 μ).bind fun y64 =>
    (f_Si_millsOf a0 x4 x1 μ).bind fun y77 =>
    (f_Si_millsOf a0 x5 x1 μ).bind fun y84 =>
    (f_Mt_abs_J ((y57 - y64) - (y77 - y84))).bind fun y89 =>
    (f_Si_foul_L20 k5 a0 x1 x4 μ n) (x2 + y89) (x5 + (1 : Int32))
def f_Si_foul_L5  (a0 : Nat) (x1 : Int32) (μ : MM) : Nat → Int64 → Int32 → Option (Int64)
  | 0 => fun _ _ => none
  | n + 1 => fun x2 x4 => 
    (rR μ a0 9 1).bind fun y8 =>
    (rI μ y8 2 9).bind fun y11 =>
    if y11 ≤ x4 then (
      some x2)
    else
    f_Si_foul_L20 (f_Si_foul_L5 a0 x1 μ n) a0 x1 x4 μ FU x2 (0 : Int32)
def f_Si_foul (a0 : Nat) (x1 : Int32) (μ : MM) : Option (Int64) :=
  (kO μ a0 9).bind fun _ =>
  f_Si_foul_L5 a0 x1 μ FU (0 : Int64) (0 : Int32)
def f_Ch_above (a0 : Nat) (x1 : Int32) (x2 : Int32) (μ : MM) : Option (Int32) :=
  (kO μ a0 2).bind fun _ =>
  (f_Sc_cell x1 x2).bind fun y2 =>
  (rR μ a0 2 0).bind fun y8 =>
  (rR μ y8 8 0).bind fun y11 =>
  (aI μ y11 y2).bind fun y15 =>
  (f_Ch_tableOf a0 y15 (0 : Int32) μ).bind fun y17 =>
  (rR μ a0 2 0).bind fun y21 =>
  (rR μ y21 8 2).bind fun y24 =>
  (aI μ y24 y2).bind fun y28 =>
  some (y17 - y28)
def f_Ch_tableFoul_L15 (k5 : Int64 → Int32 → Option (Int64))  (a0 : Nat) (x1 : Int32) (x4 : Int32) (μ : MM) : Nat → Int64 → Int32 → Option (Int64)
  | 0 => fun _ _ => none
  | n + 1 => fun x2 x5 => 
    if x4 ≤ x5 then (
      k5 x2 (x4 + (1 : Int32)))
    else
    (rR μ a0 2 0).bind fun y23 =>
    (f_Sc_sounds y23 x4 x1 μ).bind fun y29 =>
    if y29 = 0 then (
      (f_Ch_tableFoul_L15 k5 a0 x1 x4 μ n) x2 (x5 + (1 : Int32)))
    else
    (rR μ a0 2 0).bind fun y36 =>
    (f_Sc_sounds y36 x5 x1 μ).bind fun y42 =>
    if y42 = 0 then (
      (f_Ch_tableFoul_L15 k5 a0 x1 x4 μ n) x2 (x5 + (1 : Int32)))
    else
    (f_Ch_above a0 x4 x1 μ).bind fun y53 =>
    (f_Ch_above a0 x5 x1 μ).bind fun y60 =>
    (f_Mt_abs_I (y53 - y60)).bind fun y64 =>
    (f_Ch_tableFoul_L15 k5 a0 x1 x4 μ n) (x2 + y64.toInt64) (x5 + (1 : Int32))
def f_Ch_tableFoul_L5  (a0 : Nat) (x1 : Int32) (μ : MM) : Nat → Int64 → Int32 → Option (Int64)
  | 0 => fun _ _ => none
  | n + 1 => fun x2 x4 => 
    if (6 : Int32) ≤ x4 then (
      some x2)
    else
    f_Ch_tableFoul_L15 (f_Ch_tableFoul_L5 a0 x1 μ n) a0 x1 x4 μ FU x2 (0 : Int32)
def f_Ch_tableFoul (a0 : Nat) (x1 : Int32) (μ : MM) : Option (Int64) :=
  (kO μ a0 2).bind fun _ =>
  f_Ch_tableFoul_L5 a0 x1 μ FU (0 : Int64) (0 : Int32)
def f_X_beat_J10  (μ : MM) : Option (Int64 × MM) :=
  some ((-1000000000 : Int64), μ)
def f_X_beat (a0 : Nat) (x1 : Int32) (x2 : Int32) (μ : MM) : Option (Int64 × MM) :=
  (kO μ a0 0).bind fun _ =>
  if x1 < 0 then (
    f_X_beat_J10 μ)
  else
  if x1 < (24 : Int32) then (
    if x2 = (0 : Int32) then (
      (rR μ a0 0 2).bind fun y45 =>
      (f_Si_asTold y45 μ).bind fun μ48 =>
      (rR μ48 a0 0 1).bind fun y52 =>
      (f_Ch_howMany y52 x1 μ48).bind fun y56 =>
      if y56 = 0 then (
        some ((-1000000000 : Int64), μ48))
      else
      (rR μ48 a0 0 2).bind fun y69 =>
      (f_Si_off y69 x1 μ48).bind fun y73 =>
      some (y73, μ48))
    else
    if x2 = (1 : Int32) then (
      (rR μ a0 0 2).bind fun y78 =>
      (f_Si_asTold y78 μ).bind fun μ81 =>
      (rR μ81 a0 0 2).bind fun y85 =>
      (f_Si_foul y85 x1 μ81).bind fun y89 =>
      some (y89, μ81))
    else
    if x2 = (2 : Int32) then (
      (rR μ a0 0 1).bind fun y94 =>
      (f_Ch_howMany y94 x1 μ).bind fun y98 =>
      some (y98.toInt64, μ))
    else
    if x2 = (3 : Int32) then (
      (rR μ a0 0 1).bind fun y104 =>
      (f_Ch_tableFoul y104 x1 μ).bind fun y108 =>
      some (y108, μ))
    else
    some ((-1000000000 : Int64), μ))
  else
  f_X_beat_J10 μ
def f_M_offOf_J54 (k5 : Int64 → Int32 → Option (Int64))  (a0 : Nat) (x1 : Int32) (x4 : Int32) (s0 : Int64) (s1 : Int64) (μ : MM) : Option (Int64) :=
  k5 (s0 + s1) (x4 + (1 : Int32))
def f_M_offOf_L5  (a0 : Nat) (x1 : Int32) (μ : MM) : Nat → Int64 → Int32 → Option (Int64)
  | 0 => fun _ _ => none
  | n + 1 => fun x2 x4 => 
    (rI μ a0 1 18).bind fun y8 =>
    if y8 ≤ x4 then (
      (f_M_singing a0 x1 μ).bind fun y65 =>
      (f_M_floor x2 y65.toInt64).bind fun y69 =>
      some y69)
    else
    (f_M_sings a0 x4 x1 μ).bind fun y19 =>
    if y19 = 0 then (
      f_M_offOf_J54 (f_M_offOf_L5 a0 x1 μ n) a0 x1 x4 x2 (0 : Int64) μ)
    else
    (rR μ a0 1 54).bind fun y26 =>
    (aI μ y26 (((24 : Int32) * x4) + x1)).bind fun y36 =>
    (f_M_keyOf a0 x4 x1 μ).bind fun y42 =>
    (f_M_tableOf a0 y42 μ).bind fun y45 =>
    f_M_offOf_J54 (f_M_offOf_L5 a0 x1 μ n) a0 x1 x4 x2 ((y36 - y45).toInt64) μ
def f_M_offOf (a0 : Nat) (x1 : Int32) (μ : MM) : Option (Int64) :=
  (kO μ a0 1).bind fun _ =>
  f_M_offOf_L5 a0 x1 μ FU (0 : Int64) (0 : Int32)
def f_M_foulOf_L17 (k5 : Int64 → Int32 → Option (Int64))  (a0 : Nat) (x1 : Int32) (x4 : Int32) (μ : MM) : Nat → Int64 → Int32 → Option (Int64)
  | 0 => fun _ _ => none
  | n + 1 => fun x2 x5 => 
    if x4 ≤ x5 then (
      k5 x2 (x4 + (1 : Int32)))
    else
    (f_M_sings a0 x4 x1 μ).bind fun y28 =>
    if y28 = 0 then (
      (f_M_foulOf_L17 k5 a0 x1 x4 μ n) x2 (x5 + (1 : Int32)))
    else
    (f_M_sings a0 x5 x1 μ).bind fun y38 =>
    if y38 = 0 then (
      (f_M_foulOf_L17 k5 a0 x1 x4 μ n) x2 (x5 + (1 : Int32)))
    else
    (rR μ a0 1 54).bind fun y49 =>
    (aI μ y49 (((24 : Int32) * x4) + x1)).bind fun y59 =>
    (rR μ a0 1 54).bind fun y62 =>
    (aI μ y62 (((24 : Int32) * x5) + x1)).bind fun y72 =>
    (f_M_sizeFor a0 x4 x1 μ).bind fun y79 =>
    (f_M_sizeFor a0 x5 x1 μ).bind fun y86 =>
    (f_M_plain ((y59.toInt64 - y72.toInt64) - (y79 - y86).toInt64)).bind fun y92 =>
    (f_M_foulOf_L17 k5 a0 x1 x4 μ n) (x2 + y92) (x5 + (1 : Int32))
def f_M_foulOf_L5  (a0 : Nat) (x1 : Int32) (μ : MM) : Nat → Int64 → Int32 → Option (Int64)
  | 0 => fun _ _ => none
  | n + 1 => fun x2 x4 => 
    (rI μ a0 1 18).bind fun y8 =>
    if y8 ≤ x4 then (
      some x2)
    else
    f_M_foulOf_L17 (f_M_foulOf_L5 a0 x1 μ n) a0 x1 x4 μ FU x2 (0 : Int32)
def f_M_foulOf (a0 : Nat) (x1 : Int32) (μ : MM) : Option (Int64) :=
  (kO μ a0 1).bind fun _ =>
  f_M_foulOf_L5 a0 x1 μ FU (0 : Int64) (0 : Int32)
def f_M_tableFoul_L15 (k5 : Int64 → Int32 → Option (Int64))  (a0 : Nat) (x1 : Int32) (x4 : Int32) (μ : MM) : Nat → Int64 → Int32 → Option (Int64)
  | 0 => fun _ _ => none
  | n + 1 => fun x2 x5 => 
    if x4 ≤ x5 then (
      k5 x2 (x4 + (1 : Int32)))
    else
    (f_M_isNote a0 x4 x1 μ).bind fun y26 =>
    if y26 = 0 then (
      (f_M_tableFoul_L15 k5 a0 x1 x4 μ n) x2 (x5 + (1 : Int32)))
    else
    (f_M_isNote a0 x5 x1 μ).bind fun y36 =>
    if y36 = 0 then (
      (f_M_tableFoul_L15 k5 a0 x1 x4 μ n) x2 (x5 + (1 : Int32)))
    else
    (rR μ a0 1 2).bind fun y48 =>
    (f_M_cellOf x4 x1).bind fun y54 =>
    (aI μ y48 y54).bind fun y57 =>
    (f_M_tableOf a0 y57 μ).bind fun y58 =>
    (rR μ a0 1 2).bind fun y64 =>
    (f_M_cellOf x5 x1).bind fun y70 =>
    (aI μ y64 y70).bind fun y73 =>
    (f_M_tableOf a0 y73 μ).bind fun y74 =>
    (f_M_sizeAt a0 x4 x1 μ).bind fun y83 =>
    (f_M_sizeAt a0 x5 x1 μ).bind fun y90 =>
    (f_M_plain ((y58.toInt64 - y74.toInt64) - (y83 - y90).toInt64)).bind fun y96 =>
    (f_M_tableFoul_L15 k5 a0 x1 x4 μ n) (x2 + y96) (x5 + (1 : Int32))
def f_M_tableFoul_L5  (a0 : Nat) (x1 : Int32) (μ : MM) : Nat → Int64 → Int32 → Option (Int64)
  | 0 => fun _ _ => none
  | n + 1 => fun x2 x4 => 
    if (6 : Int32) ≤ x4 then (
      some x2)
    else
    f_M_tableFoul_L15 (f_M_tableFoul_L5 a0 x1 μ n) a0 x1 x4 μ FU x2 (0 : Int32)
def f_M_tableFoul (a0 : Nat) (x1 : Int32) (μ : MM) : Option (Int64) :=
  (kO μ a0 1).bind fun _ =>
  f_M_tableFoul_L5 a0 x1 μ FU (0 : Int64) (0 : Int32)
def f_M_beat_J31  (μ : MM) : Option (Int64 × MM) :=
  some ((-1000000000 : Int64), μ)
def f_M_beat_J35  (a0 : Nat) (x1 : Int32) (x2 : Int32) (μ : MM) : Option (Int64 × MM) :=
  (f_M_plainly a0 μ).bind fun μ36 =>
  if x2 = 0 then (
    (f_M_offOf a0 x1 μ36).bind fun y45 =>
    some (y45, μ36))
  else
  if x2 = (1 : Int32) then (
    (f_M_foulOf a0 x1 μ36).bind fun y58 =>
    some (y58, μ36))
  else
  if x2 = (2 : Int32) then (
    (f_M_singing a0 x1 μ36).bind fun y71 =>
    some (y71.toInt64, μ36))
  else
  (f_M_tableFoul a0 x1 μ36).bind fun y80 =>
  some (y80, μ36)
def f_M_beat (a0 : Nat) (x1 : Int32) (x2 : Int32) (μ : MM) : Option (Int64 × MM) :=
  (kO μ a0 1).bind fun _ =>
  (f_M_isBeat x1).bind fun y1 =>
  if y1 = 0 then (
    f_M_beat_J31 μ)
  else
  (f_M_lies x2.toInt64 (0 : Int64) (3 : Int64)).bind fun y13 =>
  if y13 = 0 then (
    f_M_beat_J31 μ)
  else
  if x2 = 0 then (
    (f_M_singing a0 x1 μ).bind fun y25 =>
    if y25 = 0 then (
      f_M_beat_J31 μ)
    else
    f_M_beat_J35 a0 x1 x2 μ)
  else
  f_M_beat_J35 a0 x1 x2 μ
def f_Ch_firstBeat_L2  (a0 : Nat) (μ : MM) : Nat → Int32 → Option (Int32)
  | 0 => fun _ => none
  | n + 1 => fun x1 => 
    if (24 : Int32) ≤ x1 then (
      some (-1 : Int32))
    else
    (f_Ch_howMany a0 x1 μ).bind fun y10 =>
    if y10 ≤ 0 then (
      (f_Ch_firstBeat_L2 a0 μ n) (x1 + (1 : Int32)))
    else
    some x1
def f_Ch_firstBeat (a0 : Nat) (μ : MM) : Option (Int32) :=
  (kO μ a0 2).bind fun _ =>
  f_Ch_firstBeat_L2 a0 μ FU (0 : Int32)
def f_Ch_lastBeat_L3  (a0 : Nat) (μ : MM) : Nat → Int32 → Option (Int32)
  | 0 => fun _ => none
  | n + 1 => fun x1 => 
    if x1 < 0 then (
      some (-1 : Int32))
    else
    (f_Ch_howMany a0 x1 μ).bind fun y9 =>
    if y9 ≤ 0 then (
      (f_Ch_lastBeat_L3 a0 μ n) (x1 + (-1 : Int32)))
    else
    some x1
def f_Ch_lastBeat (a0 : Nat) (μ : MM) : Option (Int32) :=
  (kO μ a0 2).bind fun _ =>
  f_Ch_lastBeat_L3 a0 μ FU (23 : Int32)
def f_Si_sinking (a0 : Nat) (μ : MM) : Option (Int64) :=
  (kO μ a0 9).bind fun _ =>
  (rR μ a0 9 1).bind fun y2 =>
  (f_Ch_lastBeat y2 μ).bind fun y5 =>
  (f_Si_off a0 y5 μ).bind fun y8 =>
  (rR μ a0 9 1).bind fun y13 =>
  (f_Ch_firstBeat y13 μ).bind fun y16 =>
  (f_Si_off a0 y16 μ).bind fun y19 =>
  some (y8 - y19)
def f_Ch_howManySing_L4  (a0 : Nat) (μ : MM) : Nat → Int32 → Int32 → Option (Int32)
  | 0 => fun _ _ => none
  | n + 1 => fun x1 x2 => 
    (rI μ a0 2 9).bind fun y6 =>
    if y6 ≤ x2 then (
      some x1)
    else
    (f_Ch_lastNote a0 x2 (24 : Int32) μ).bind fun y17 =>
    if y17 = (-1 : Int32) then (
      (f_Ch_howManySing_L4 a0 μ n) (x1 + (0 : Int32)) (x2 + (1 : Int32)))
    else
    (f_Ch_howManySing_L4 a0 μ n) (x1 + (1 : Int32)) (x2 + (1 : Int32))
def f_Ch_howManySing (a0 : Nat) (μ : MM) : Option (Int32) :=
  (kO μ a0 2).bind fun _ =>
  f_Ch_howManySing_L4 a0 μ FU (0 : Int32) (0 : Int32)
def f_Si_drifting (a0 : Nat) (μ : MM) : Option (Int64) :=
  (kO μ a0 9).bind fun _ =>
  (rR μ a0 9 1).bind fun y1 =>
  (f_Ch_howManySing y1 μ).bind fun y4 =>
  if (lg_cmp y4.toInt64 (0 : Int64)) ≤ 0 then (
    some (0 : Int64))
  else
  (rL μ a0 9 12).bind fun y16 =>
  (f_Mt_floorDiv y16 y4.toInt64).bind fun y20 =>
  some y20
def f_Si_foulTogether_L4  (a0 : Nat) (μ : MM) : Nat → Int64 → Int32 → Option (Int64)
  | 0 => fun _ _ => none
  | n + 1 => fun x1 x3 => 
    if (24 : Int32) ≤ x3 then (
      some x1)
    else
    (f_Si_foul a0 x3 μ).bind fun y13 =>
    (f_Si_foulTogether_L4 a0 μ n) (x1 + y13) (x3 + (1 : Int32))
def f_Si_foulTogether (a0 : Nat) (μ : MM) : Option (Int64) :=
  (kO μ a0 9).bind fun _ =>
  f_Si_foulTogether_L4 a0 μ FU (0 : Int64) (0 : Int32)
def f_X_sunk_J20  (μ : MM) : Option (Int64 × MM) :=
  some ((-1000000000 : Int64), μ)
def f_X_sunk (a0 : Nat) (x1 : Int32) (μ : MM) : Option (Int64 × MM) :=
  (kO μ a0 0).bind fun _ =>
  if x1 < 0 then (
    f_X_sunk_J20 μ)
  else
  if (4 : Int32) < x1 then (
    f_X_sunk_J20 μ)
  else
  (rR μ a0 0 1).bind fun y10 =>
  (f_Ch_firstBeat y10 μ).bind fun y13 =>
  if y13 = (-1 : Int32) then (
    f_X_sunk_J20 μ)
  else
  (rR μ a0 0 2).bind fun y25 =>
  (f_Si_asTold y25 μ).bind fun μ28 =>
  (rR μ28 a0 0 0).bind fun y32 =>
  (rR μ28 y32 8 5).bind fun y35 =>
  (rR μ28 a0 0 1).bind fun y39 =>
  (f_Ch_lastBeat y39 μ28).bind fun y42 =>
  (aI μ28 y35 y42).bind fun y45 =>
  (rR μ28 a0 0 0).bind fun y47 =>
  (rR μ28 y47 8 5).bind fun y50 =>
  (rR μ28 a0 0 1).bind fun y54 =>
  (f_Ch_firstBeat y54 μ28).bind fun y57 =>
  (aI μ28 y50 y57).bind fun y60 =>
  if x1 = (0 : Int32) then (
    (rR μ28 a0 0 2).bind fun y97 =>
    (f_Si_sinking y97 μ28).bind fun y100 =>
    some (y100, μ28))
  else
  if x1 = (1 : Int32) then (
    some ((y45 - y60).toInt64, μ28))
  else
  if x1 = (2 : Int32) then (
    (rR μ28 a0 0 2).bind fun y107 =>
    (f_Si_drifting y107 μ28).bind fun y110 =>
    some (y110, μ28))
  else
  if x1 = (3 : Int32) then (
    (rR μ28 a0 0 2).bind fun y115 =>
    (f_Si_sinking y115 μ28).bind fun y118 =>
    (rR μ28 a0 0 2).bind fun y124 =>
    (f_Si_drifting y124 μ28).bind fun y127 =>
    some (((y118 - (y45 - y60).toInt64) - y127), μ28))
  else
  (rR μ28 a0 0 2).bind fun y133 =>
  (f_Si_foulTogether y133 μ28).bind fun y136 =>
  some (y136, μ28)
def f_M_firstSung_L2  (a0 : Nat) (μ : MM) : Nat → Int32 → Option (Int32)
  | 0 => fun _ => none
  | n + 1 => fun x1 => 
    if (24 : Int32) ≤ x1 then (
      some (-1 : Int32))
    else
    (f_M_singing a0 x1 μ).bind fun y10 =>
    if y10 ≤ 0 then (
      (f_M_firstSung_L2 a0 μ n) (x1 + (1 : Int32)))
    else
    some x1
def f_M_firstSung (a0 : Nat) (μ : MM) : Option (Int32) :=
  (kO μ a0 1).bind fun _ =>
  f_M_firstSung_L2 a0 μ FU (0 : Int32)
def f_M_lastSung_L3  (a0 : Nat) (μ : MM) : Nat → Int32 → Option (Int32)
  | 0 => fun _ => none
  | n + 1 => fun x1 => 
    if x1 < 0 then (
      some (-1 : Int32))
    else
    (f_M_singing a0 x1 μ).bind fun y9 =>
    if y9 ≤ 0 then (
      (f_M_lastSung_L3 a0 μ n) (x1 + (-1 : Int32)))
    else
    some x1
def f_M_lastSung (a0 : Nat) (μ : MM) : Option (Int32) :=
  (kO μ a0 1).bind fun _ =>
  f_M_lastSung_L3 a0 μ FU (23 : Int32)
def f_M_sunkNow (a0 : Nat) (μ : MM) : Option (Int64) :=
  (kO μ a0 1).bind fun _ =>
  (f_M_lastSung a0 μ).bind fun y2 =>
  (f_M_offOf a0 y2 μ).bind fun y5 =>
  (f_M_firstSung a0 μ).bind fun y10 =>
  (f_M_offOf a0 y10 μ).bind fun y13 =>
  some (y5 - y13)
def f_M_sungMany_L17 (k4 : Int32 → Int32 → Option (Int32))  (a0 : Nat) (x1 : Int32) (x2 : Int32) (μ : MM) : Nat → Int32 → Int32 → Option (Int32)
  | 0 => fun _ _ => none
  | n + 1 => fun x3 x4 => 
    if (24 : Int32) ≤ x4 then (
      if x3 = 0 then (
        k4 (x1 + (0 : Int32)) (x2 + (1 : Int32)))
      else
      k4 (x1 + (1 : Int32)) (x2 + (1 : Int32)))
    else
    if x3 = 0 then (
      (f_M_sings a0 x2 x4 μ).bind fun y32 =>
      if y32 = 0 then (
        (f_M_sungMany_L17 k4 a0 x1 x2 μ n) (0 : Int32) (x4 + (1 : Int32)))
      else
      (f_M_sungMany_L17 k4 a0 x1 x2 μ n) (1 : Int32) (x4 + (1 : Int32)))
    else
    (f_M_sungMany_L17 k4 a0 x1 x2 μ n) (1 : Int32) (x4 + (1 : Int32))
def f_M_sungMany_L4  (a0 : Nat) (μ : MM) : Nat → Int32 → Int32 → Option (Int32)
  | 0 => fun _ _ => none
  | n + 1 => fun x1 x2 => 
    (rI μ a0 1 18).bind fun y6 =>
    if y6 ≤ x2 then (
      some x1)
    else
    f_M_sungMany_L17 (f_M_sungMany_L4 a0 μ n) a0 x1 x2 μ FU (0 : Int32) (0 : Int32)
def f_M_sungMany (a0 : Nat) (μ : MM) : Option (Int32) :=
  (kO μ a0 1).bind fun _ =>
  f_M_sungMany_L4 a0 μ FU (0 : Int32) (0 : Int32)
def f_M_allFoul_L4  (a0 : Nat) (μ : MM) : Nat → Int64 → Int32 → Option (Int64)
  | 0 => fun _ _ => none
  | n + 1 => fun x1 x3 => 
    if (24 : Int32) ≤ x3 then (
      some x1)
    else
    (f_M_foulOf a0 x3 μ).bind fun y13 =>
    (f_M_allFoul_L4 a0 μ n) (x1 + y13) (x3 + (1 : Int32))
def f_M_allFoul (a0 : Nat) (μ : MM) : Option (Int64) :=
  (kO μ a0 1).bind fun _ =>
  f_M_allFoul_L4 a0 μ FU (0 : Int64) (0 : Int32)
def f_M_sunk_J20  (μ : MM) : Option (Int64 × MM) :=
  some ((-1000000000 : Int64), μ)
def f_M_sunk (a0 : Nat) (x1 : Int32) (μ : MM) : Option (Int64 × MM) :=
  (kO μ a0 1).bind fun _ =>
  (f_M_firstSung a0 μ).bind fun y1 =>
  if y1 = (-1 : Int32) then (
    f_M_sunk_J20 μ)
  else
  (f_M_lies x1.toInt64 (0 : Int64) (4 : Int64)).bind fun y14 =>
  if y14 = 0 then (
    f_M_sunk_J20 μ)
  else
  (f_M_plainly a0 μ).bind fun μ25 =>
  (f_M_sunkNow a0 μ25).bind fun y29 =>
  (f_M_lastSung a0 μ25).bind fun y35 =>
  (f_M_keynoteOf a0 y35 μ25).bind fun q38 =>
  (f_M_firstSung a0 q38.2).bind fun y43 =>
  (f_M_keynoteOf a0 y43 q38.2).bind fun q46 =>
  (rL q46.2 a0 1 61).bind fun y54 =>
  (f_M_sungMany a0 q46.2).bind fun y58 =>
  (f_M_floor y54 y58.toInt64).bind fun y62 =>
  if x1 = 0 then (
    some (y29, q46.2))
  else
  if x1 = (1 : Int32) then (
    some ((q38.1 - q46.1).toInt64, q46.2))
  else
  if x1 = (2 : Int32) then (
    some (y62, q46.2))
  else
  if x1 = (3 : Int32) then (
    some (((y29 - (q38.1 - q46.1).toInt64) - y62), q46.2))
  else
  (f_M_allFoul a0 q46.2).bind fun y111 =>
  some (y111, q46.2)
def f_X_hears (a0 : Nat) (x1 : Int32) (x2 : Int32) (μ : MM) : Option (Int32) :=
  (kO μ a0 0).bind fun _ =>
  (rR μ a0 0 1).bind fun y1 =>
  (f_Ch_has y1 x1 μ).bind fun y5 =>
  if y5 = 0 then (
    some (-1 : Int32))
  else
  (rR μ a0 0 1).bind fun y12 =>
  (f_Ch_has y12 x2 μ).bind fun y16 =>
  if y16 = 0 then (
    some (-1 : Int32))
  else
  if x1 = x2 then (
    some (-1 : Int32))
  else
  (rR μ a0 0 1).bind fun y28 =>
  (rR μ y28 2 3).bind fun y31 =>
  (aI μ y31 x2).bind fun y35 =>
  (rR μ a0 0 1).bind fun y37 =>
  (rR μ y37 2 2).bind fun y40 =>
  (aI μ y40 x1).bind fun y44 =>
  (rR μ a0 0 1).bind fun y46 =>
  (rR μ y46 2 2).bind fun y49 =>
  (aI μ y49 x2).bind fun y53 =>
  (f_Ch_heard y35 y44 y53).bind fun y54 =>
  some y54
def f_M_hears (a0 : Nat) (x1 : Int32) (x2 : Int32) (μ : MM) : Option (Int32 × MM) :=
  (kO μ a0 1).bind fun _ =>
  (f_M_isSinger a0 x1 μ).bind fun y2 =>
  if y2 = 0 then (
    some ((-1 : Int32), μ))
  else
  (f_M_isSinger a0 x2 μ).bind fun y10 =>
  if y10 = 0 then (
    some ((-1 : Int32), μ))
  else
  if x1 = x2 then (
    some ((-1 : Int32), μ))
  else
  (f_M_readies a0 μ).bind fun μ24 =>
  (f_M_hearsOf a0 x1 x2 μ24).bind fun y30 =>
  some (y30, μ24)
def f_St_swap (a0 : Nat) (x1 : Int32) (x2 : Int32) (μ : MM) : Option (MM) :=
  (kO μ a0 10).bind fun _ =>
  (rR μ a0 10 2).bind fun y1 =>
  (aI μ y1 x1).bind fun y5 =>
  (rR μ a0 10 2).bind fun y8 =>
  (rR μ a0 10 2).bind fun y13 =>
  (aI μ y13 x2).bind fun y17 =>
  (uI μ y8 x1 y17).bind fun μ18 =>
  (rR μ18 a0 10 2).bind fun y20 =>
  (uI μ18 y20 x2 y5).bind fun μ25 =>
  some μ25
def f_St_sort_L15 (k2 : Int32 → MM → Option (MM))  (a0 : Nat) (x1 : Int32) (x2 : Int32) : Nat → Int32 → MM → Option (MM)
  | 0 => fun _ _ => none
  | n + 1 => fun x3 μ => 
    if x3 ≤ x1 then (
      k2 (x2 + (1 : Int32)) μ)
    else
    (rR μ a0 10 2).bind fun y21 =>
    (aI μ y21 x3).bind fun y25 =>
    (rR μ a0 10 2).bind fun y27 =>
    (aI μ y27 (x3 - (1 : Int32))).bind fun y33 =>
    if y33 ≤ y25 then (
      k2 (x2 + (1 : Int32)) μ)
    else
    (f_St_swap a0 x3 (x3 - (1 : Int32)) μ).bind fun μ42 =>
    (f_St_sort_L15 k2 a0 x1 x2 n) (x3 + (-1 : Int32)) μ42
def f_St_sort_L2  (a0 : Nat) (x1 : Int32) : Nat → Int32 → MM → Option (MM)
  | 0 => fun _ _ => none
  | n + 1 => fun x2 μ => 
    (rR μ a0 10 0).bind fun y4 =>
    (rI μ y4 2 9).bind fun y7 =>
    if y7 ≤ x2 then (
      some μ)
    else
    f_St_sort_L15 (f_St_sort_L2 a0 x1 n) a0 x1 x2 FU x2 μ
def f_St_sort (a0 : Nat) (x1 : Int32) (μ : MM) : Option (MM) :=
  (kO μ a0 10).bind fun _ =>
  f_St_sort_L2 a0 x1 FU x1 μ
def f_St_next_J81  (a0 : Nat) (x1 : Int32) (x2 : Int32) (μ : MM) : Option (Int32 × MM) :=
  (f_St_swap a0 x1 x2 μ).bind fun μ84 =>
  (f_St_sort a0 (x1 + (1 : Int32)) μ84).bind fun μ91 =>
  some ((1 : Int32), μ91)
def f_St_next_L53  (a0 : Nat) (x1 : Int32) (μ : MM) : Nat → Int32 → Option (Int32 × MM)
  | 0 => fun _ => none
  | n + 1 => fun x2 => 
    if x2 ≤ (x1 + (1 : Int32)) then (
      f_St_next_J81 a0 x1 x2 μ)
    else
    (rR μ a0 10 2).bind fun y61 =>
    (aI μ y61 x2).bind fun y65 =>
    (rR μ a0 10 2).bind fun y67 =>
    (aI μ y67 x1).bind fun y71 =>
    if y71 < y65 then (
      f_St_next_J81 a0 x1 x2 μ)
    else
    (f_St_next_L53 a0 x1 μ n) (x2 + (-1 : Int32))
def f_St_next_J37  (a0 : Nat) (x1 : Int32) (μ : MM) : Option (Int32 × MM) :=
  if 0 ≤ x1 then (
    (rR μ a0 10 0).bind fun y44 =>
    (rI μ y44 2 9).bind fun y47 =>
    f_St_next_L53 a0 x1 μ FU (y47 - (1 : Int32)))
  else
  some ((0 : Int32), μ)
def f_St_next_L10  (a0 : Nat) (μ : MM) : Nat → Int32 → Option (Int32 × MM)
  | 0 => fun _ => none
  | n + 1 => fun x1 => 
    if x1 < 0 then (
      f_St_next_J37 a0 x1 μ)
    else
    (rR μ a0 10 2).bind fun y15 =>
    (aI μ y15 x1).bind fun y19 =>
    (rR μ a0 10 2).bind fun y21 =>
    (aI μ y21 (x1 + (1 : Int32))).bind fun y27 =>
    if y19 < y27 then (
      f_St_next_J37 a0 x1 μ)
    else
    (f_St_next_L10 a0 μ n) (x1 + (-1 : Int32))
def f_St_next (a0 : Nat) (μ : MM) : Option (Int32 × MM) :=
  (kO μ a0 10).bind fun _ =>
  (rR μ a0 10 0).bind fun y1 =>
  (rI μ y1 2 9).bind fun y4 =>
  f_St_next_L10 a0 μ FU (y4 - (2 : Int32))
def f_St_find_J161 (k41 : Int32 → Int32 → MM → Option (MM))  (a0 : Nat) (x3 : Int32) (μ : MM) : Option (MM) :=
  (f_St_next a0 μ).bind fun q162 =>
  k41 q162.1 (x3 + (1 : Int32)) q162.2
def f_St_find_J129 (k41 : Int32 → Int32 → MM → Option (MM))  (a0 : Nat) (x3 : Int32) (x4 : Int64) (μ : MM) : Option (MM) :=
  (pL μ a0 10 4 x4).bind fun μ132 =>
  (rR μ132 a0 10 1).bind fun y137 =>
  (f_Si_foulTogether y137 μ132).bind fun y140 =>
  (pL μ132 a0 10 5 y140).bind fun μ143 =>
  (rR μ143 a0 10 2).bind fun y147 =>
  (rR μ143 a0 10 3).bind fun y152 =>
  (cpI μ143 y147 (0 : Int32) y152 (0 : Int32) (8 : Int32)).bind fun μ158 =>
  f_St_find_J161 k41 a0 x3 μ158
def f_St_find_L41  (a0 : Nat) : Nat → Int32 → Int32 → MM → Option (MM)
  | 0 => fun _ _ _ => none
  | n + 1 => fun x2 x3 μ => 
    if (720 : Int32) ≤ x3 then (
      some μ)
    else
    if x2 = 0 then (
      some μ)
    else
    (rR μ a0 10 1).bind fun y53 =>
    (rR μ a0 10 2).bind fun y57 =>
    (rR μ a0 10 0).bind fun y61 =>
    (rI μ y61 2 12).bind fun y64 =>
    (f_Si_sing y53 y57 y64 (0 : Int32) (0 : Int32) μ).bind fun μ69 =>
    (rR μ69 a0 10 1).bind fun y73 =>
    (f_Si_sinking y73 μ69).bind fun y76 =>
    (f_Mt_abs_J y76).bind fun y83 =>
    (rL μ69 a0 10 4).bind fun y87 =>
    (f_Mt_abs_J y87).bind fun y90 =>
    if x3 = 0 then (
      f_St_find_J129 (f_St_find_L41 a0 n) a0 x3 y76 μ69)
    else
    if (lg_cmp (y83 - y90) (0 : Int64)) < 0 then (
      f_St_find_J129 (f_St_find_L41 a0 n) a0 x3 y76 μ69)
    else
    if (lg_cmp (y83 - y90) (0 : Int64)) = 0 then (
      (rR μ69 a0 10 1).bind fun y115 =>
      (f_Si_foulTogether y115 μ69).bind fun y118 =>
      (rL μ69 a0 10 5).bind fun y122 =>
      if 0 ≤ (lg_cmp y118 y122) then (
        f_St_find_J161 (f_St_find_L41 a0 n) a0 x3 μ69)
      else
      f_St_find_J129 (f_St_find_L41 a0 n) a0 x3 y76 μ69)
    else
    f_St_find_J161 (f_St_find_L41 a0 n) a0 x3 μ69
def f_St_find (a0 : Nat) (x1 : Int32) (μ : MM) : Option (MM) :=
  (kO μ a0 10).bind fun _ =>
  (rI μ a0 10 6).bind fun y1 =>
  if y1 = x1 then (
    some μ)
  else
  (pI μ a0 10 6 x1).bind fun μ11 =>
  (rR μ11 a0 10 0).bind fun y15 =>
  (rR μ11 y15 2 2).bind fun y18 =>
  (rR μ11 a0 10 2).bind fun y23 =>
  (cpI μ11 y18 (0 : Int32) y23 (0 : Int32) (8 : Int32)).bind fun μ29 =>
  (f_St_sort a0 (0 : Int32) μ29).bind fun μ34 =>
  f_St_find_L41 a0 FU (1 : Int32) (0 : Int32) μ34
def f_X_standing_J43  (μ : MM) : Option (Int64 × MM) :=
  some ((-1000000000 : Int64), μ)
def f_X_standing_J27  (a0 : Nat) (x1 : Int32) (s0 : Int32) (μ : MM) : Option (Int64 × MM) :=
  if s0 = 0 then (
    f_X_standing_J43 μ)
  else
  (rR μ a0 0 1).bind fun y33 =>
  (f_Ch_firstBeat y33 μ).bind fun y36 =>
  if y36 = (-1 : Int32) then (
    f_X_standing_J43 μ)
  else
  (rR μ a0 0 1).bind fun y48 =>
  (rI μ y48 2 9).bind fun y51 =>
  if y51 ≤ (6 : Int32) then (
    (rR μ a0 0 3).bind fun y64 =>
    (rI μ a0 0 9).bind fun y68 =>
    (f_St_find y64 y68 μ).bind fun μ71 =>
    if x1 = (-1 : Int32) then (
      (rR μ71 a0 0 3).bind fun y80 =>
      (rL μ71 y80 10 4).bind fun y83 =>
      some (y83, μ71))
    else
    if x1 = (8 : Int32) then (
      (rR μ71 a0 0 3).bind fun y96 =>
      (rL μ71 y96 10 5).bind fun y99 =>
      some (y99, μ71))
    else
    (rR μ71 a0 0 3).bind fun y106 =>
    (rR μ71 y106 10 3).bind fun y109 =>
    (aI μ71 y109 x1).bind fun y113 =>
    some (y113.toInt64, μ71))
  else
  some ((-2000000000 : Int64), μ)
def f_X_standing_J22  (a0 : Nat) (x1 : Int32) (μ : MM) : Option (Int64 × MM) :=
  f_X_standing_J27 a0 x1 (1 : Int32) μ
def f_X_standing (a0 : Nat) (x1 : Int32) (μ : MM) : Option (Int64 × MM) :=
  (kO μ a0 0).bind fun _ =>
  if x1 = (-1 : Int32) then (
    f_X_standing_J22 a0 x1 μ)
  else
  if x1 = (8 : Int32) then (
    f_X_standing_J22 a0 x1 μ)
  else
  (rR μ a0 0 1).bind fun y12 =>
  (f_Ch_has y12 x1 μ).bind fun y16 =>
  if y16 = 0 then (
    f_X_standing_J27 a0 x1 (0 : Int32) μ)
  else
  f_X_standing_J22 a0 x1 μ
def f_M_swaps (a0 : Nat) (x1 : Int32) (x2 : Int32) (μ : MM) : Option (MM) :=
  (kO μ a0 1).bind fun _ =>
  (rR μ a0 1 50).bind fun y1 =>
  (aI μ y1 x1).bind fun y5 =>
  (rR μ a0 1 50).bind fun y8 =>
  (rR μ a0 1 50).bind fun y13 =>
  (aI μ y13 x2).bind fun y17 =>
  (uI μ y8 x1 y17).bind fun μ18 =>
  (rR μ18 a0 1 50).bind fun y20 =>
  (uI μ18 y20 x2 y5).bind fun μ25 =>
  some μ25
def f_M_stepsOn_L86  (a0 : Nat) : Nat → Int32 → Int32 → MM → Option (Int32 × MM)
  | 0 => fun _ _ _ => none
  | n + 1 => fun x3 x4 μ => 
    if x4 ≤ x3 then (
      some ((1 : Int32), μ))
    else
    (f_M_swaps a0 x3 x4 μ).bind fun μ96 =>
    (f_M_stepsOn_L86 a0 n) (x3 + (1 : Int32)) (x4 + (-1 : Int32)) μ96
def f_M_stepsOn_L47  (a0 : Nat) (x1 : Int32) (μ : MM) : Nat → Int32 → Option (Int32 × MM)
  | 0 => fun _ => none
  | n + 1 => fun x2 => 
    (rR μ a0 1 50).bind fun y48 =>
    (aI μ y48 x2).bind fun y52 =>
    (rR μ a0 1 50).bind fun y54 =>
    (aI μ y54 x1).bind fun y58 =>
    if y58 < y52 then (
      (f_M_swaps a0 x1 x2 μ).bind fun μ71 =>
      (rI μ71 a0 1 18).bind fun y79 =>
      f_M_stepsOn_L86 a0 FU (x1 + (1 : Int32)) (y79 - (1 : Int32)) μ71)
    else
    (f_M_stepsOn_L47 a0 x1 μ n) (x2 + (-1 : Int32))
def f_M_stepsOn_J34  (a0 : Nat) (x1 : Int32) (μ : MM) : Option (Int32 × MM) :=
  if 0 ≤ x1 then (
    (rI μ a0 1 18).bind fun y41 =>
    f_M_stepsOn_L47 a0 x1 μ FU (y41 - (1 : Int32)))
  else
  some ((0 : Int32), μ)
def f_M_stepsOn_L7  (a0 : Nat) (μ : MM) : Nat → Int32 → Option (Int32 × MM)
  | 0 => fun _ => none
  | n + 1 => fun x1 => 
    if x1 < 0 then (
      f_M_stepsOn_J34 a0 x1 μ)
    else
    (rR μ a0 1 50).bind fun y12 =>
    (aI μ y12 x1).bind fun y16 =>
    (rR μ a0 1 50).bind fun y18 =>
    (aI μ y18 (x1 + (1 : Int32))).bind fun y24 =>
    if y16 < y24 then (
      f_M_stepsOn_J34 a0 x1 μ)
    else
    (f_M_stepsOn_L7 a0 μ n) (x1 + (-1 : Int32))
def f_M_stepsOn (a0 : Nat) (μ : MM) : Option (Int32 × MM) :=
  (kO μ a0 1).bind fun _ =>
  (rI μ a0 1 18).bind fun y1 =>
  f_M_stepsOn_L7 a0 μ FU (y1 - (2 : Int32))
def f_M_standing_J215 (k115 : Int32 → Int64 → Int64 → Int32 → MM → Option (Int64 × MM))  (a0 : Nat) (x1 : Int32) (x2 : Int32) (x3 : Int64) (x5 : Int64) (μ : MM) : Option (Int64 × MM) :=
  (f_M_stepsOn a0 μ).bind fun q216 =>
  k115 x2 x3 x5 q216.1 q216.2
def f_M_standing_L186 (k115 : Int32 → Int64 → Int64 → Int32 → MM → Option (Int64 × MM))  (a0 : Nat) (x1 : Int32) (x2 : Int32) (x3 : Int64) (x5 : Int64) : Nat → Int32 → MM → Option (Int64 × MM)
  | 0 => fun _ _ => none
  | n + 1 => fun x12 μ => 
    (rI μ a0 1 18).bind fun y189 =>
    if y189 ≤ x12 then (
      f_M_standing_J215 k115 a0 x1 x2 x3 x5 μ)
    else
    (rR μ a0 1 68).bind fun y196 =>
    (rR μ a0 1 50).bind fun y202 =>
    (aI μ y202 x12).bind fun y207 =>
    (uI μ y196 x12 y207).bind fun μ208 =>
    (f_M_standing_L186 k115 a0 x1 x2 x3 x5 n) (x12 + (1 : Int32)) μ208
def f_M_standing_J174 (k115 : Int32 → Int64 → Int64 → Int32 → MM → Option (Int64 × MM))  (a0 : Nat) (x1 : Int32) (x8 : Int64) (x10 : Int64) (μ : MM) : Option (Int64 × MM) :=
  f_M_standing_L186 k115 a0 x1 (1 : Int32) x8 x10 FU (0 : Int32) μ
def f_M_standing_L115  (a0 : Nat) (x1 : Int32) : Nat → Int32 → Int64 → Int64 → Int32 → MM → Option (Int64 × MM)
  | 0 => fun _ _ _ _ _ => none
  | n + 1 => fun x2 x3 x5 x7 μ => 
    if x7 = 0 then (
      if x1 = (-1 : Int32) then (
        some (x3, μ))
      else
      if x1 = (8 : Int32) then (
        some (x5, μ))
      else
      (rR μ a0 1 68).bind fun y245 =>
      (aI μ y245 x1).bind fun y249 =>
      some (y249.toInt64, μ))
    else
    (f_M_isSung a0 μ).bind fun μ121 =>
    (f_M_sunkNow a0 μ121).bind fun y125 =>
    (f_M_allFoul a0 μ121).bind fun y131 =>
    if x2 = 0 then (
      f_M_standing_J174 (f_M_standing_L115 a0 x1 n) a0 x1 y125 y131 μ121)
    else
    (f_M_plain y125).bind fun y142 =>
    (f_M_plain x3).bind fun y146 =>
    if (lg_cmp y142 y146) < 0 then (
      f_M_standing_J174 (f_M_standing_L115 a0 x1 n) a0 x1 y125 y131 μ121)
    else
    (f_M_plain y125).bind fun y155 =>
    (f_M_plain x3).bind fun y159 =>
    if (lg_cmp y155 y159) = 0 then (
      if 0 ≤ (lg_cmp y131 x5) then (
        f_M_standing_J215 (f_M_standing_L115 a0 x1 n) a0 x1 x2 x3 x5 μ121)
      else
      f_M_standing_J174 (f_M_standing_L115 a0 x1 n) a0 x1 y125 y131 μ121)
    else
    f_M_standing_J215 (f_M_standing_L115 a0 x1 n) a0 x1 x2 x3 x5 μ121
def f_M_standing_L64 (k54 : Int32 → MM → Option (Int64 × MM))  (a0 : Nat) (x1 : Int32) (x2 : Int32) : Nat → Int32 → MM → Option (Int64 × MM)
  | 0 => fun _ _ => none
  | n + 1 => fun x3 μ => 
    if x3 ≤ 0 then (
      k54 (x2 + (1 : Int32)) μ)
    else
    (rR μ a0 1 50).bind fun y69 =>
    (aI μ y69 (x3 - (1 : Int32))).bind fun y75 =>
    (rR μ a0 1 50).bind fun y77 =>
    (aI μ y77 x3).bind fun y81 =>
    if y75 ≤ y81 then (
      k54 (x2 + (1 : Int32)) μ)
    else
    (f_M_swaps a0 (x3 - (1 : Int32)) x3 μ).bind fun μ90 =>
    (f_M_standing_L64 k54 a0 x1 x2 n) (x3 + (-1 : Int32)) μ90
def f_M_standing_L54  (a0 : Nat) (x1 : Int32) : Nat → Int32 → MM → Option (Int64 × MM)
  | 0 => fun _ _ => none
  | n + 1 => fun x2 μ => 
    (rI μ a0 1 18).bind fun y56 =>
    if y56 ≤ x2 then (
      f_M_standing_L115 a0 x1 FU (0 : Int32) (0 : Int64) (0 : Int64) (1 : Int32) μ)
    else
    f_M_standing_L64 (f_M_standing_L54 a0 x1 n) a0 x1 x2 FU x2 μ
def f_M_standing_J23  (a0 : Nat) (x1 : Int32) (μ : MM) : Option (Int64 × MM) :=
  (f_M_firstSung a0 μ).bind fun y24 =>
  if y24 = (-1 : Int32) then (
    some ((-1000000000 : Int64), μ))
  else
  (rI μ a0 1 18).bind fun y36 =>
  if y36 ≤ (6 : Int32) then (
    (f_M_readies a0 μ).bind fun μ49 =>
    f_M_standing_L54 a0 x1 FU (1 : Int32) μ49)
  else
  some ((-2000000000 : Int64), μ)
def f_M_standing (a0 : Nat) (x1 : Int32) (μ : MM) : Option (Int64 × MM) :=
  (kO μ a0 1).bind fun _ =>
  if x1 = (-1 : Int32) then (
    f_M_standing_J23 a0 x1 μ)
  else
  if x1 = (8 : Int32) then (
    f_M_standing_J23 a0 x1 μ)
  else
  (f_M_isSinger a0 x1 μ).bind fun y13 =>
  if y13 = 0 then (
    some ((-1000000000 : Int64), μ))
  else
  f_M_standing_J23 a0 x1 μ
def f_Mt_max_JJ (x0 : Int64) (x2 : Int64) : Option (Int64) :=
  if (lg_cmp x0 x2) < 0 then (
    some x2)
  else
  some x0
def f_Le_chart_L5  (a0 : Nat) (x1 : Int32) (x2 : Int32) : Nat → Int64 → Int32 → MM → Option (MM)
  | 0 => fun _ _ _ => none
  | n + 1 => fun x3 x5 μ => 
    if x2 < x5 then (
      some μ)
    else
    (rR μ a0 4 1).bind fun y13 =>
    (f_Si_off y13 x5 μ).bind fun y18 =>
    (f_Mt_abs_J y18).bind fun y21 =>
    (f_Mt_max_JJ x3 y21).bind fun y24 =>
    (rR μ a0 4 2).bind fun y29 =>
    (uL μ y29 ((x1 * (24 : Int32)) + x5) y24).bind fun μ40 =>
    (f_Le_chart_L5 a0 x1 x2 n) y24 (x5 + (1 : Int32)) μ40
def f_Le_chart (a0 : Nat) (x1 : Int32) (x2 : Int32) (μ : MM) : Option (MM) :=
  (kO μ a0 4).bind fun _ =>
  f_Le_chart_L5 a0 x1 x2 FU (0 : Int64) x1 μ
def f_Le_farthest (a0 : Nat) (x1 : Int32) (x2 : Int32) (μ : MM) : Option (Int64) :=
  (kO μ a0 4).bind fun _ =>
  if x1 ≤ x2 then (
    (rR μ a0 4 2).bind fun y10 =>
    (aL μ y10 ((x1 * (24 : Int32)) + x2)).bind fun y19 =>
    some y19)
  else
  some (0 : Int64)
def f_Le_consider (a0 : Nat) (x1 : Int32) (x2 : Int64) (μ : MM) : Option (MM) :=
  (kO μ a0 4).bind fun _ =>
  (rL μ a0 4 4).bind fun y2 =>
  if 0 ≤ (lg_cmp x2 y2) then (
    some μ)
  else
  (pI μ a0 4 3 x1).bind fun μ11 =>
  (pL μ11 a0 4 4 x2).bind fun μ16 =>
  some μ16
def f_Le_find_L175 (k100 : Int32 → MM → Option (MM)) (k137 : Int32 → MM → Option (MM))  (a0 : Nat) (x1 : Int32) (x2 : Int32) (x3 : Int32) (x4 : Int32) (x5 : Int32) (x6 : Int32) (x7 : Int32) : Nat → Int32 → MM → Option (MM)
  | 0 => fun _ _ => none
  | n + 1 => fun x8 μ => 
    if x7 < x8 then (
      k137 (x6 + (1 : Int32)) μ)
    else
    (f_Le_farthest a0 (0 : Int32) (x8 - (1 : Int32)) μ).bind fun y188 =>
    (f_Le_farthest a0 x8 (x6 - (1 : Int32)) μ).bind fun y198 =>
    (f_Mt_max_JJ y188 y198).bind fun y201 =>
    (f_Le_farthest a0 x6 (x4 - (1 : Int32)) μ).bind fun y213 =>
    (f_Le_farthest a0 x4 x3 μ).bind fun y220 =>
    (f_Mt_max_JJ y213 y220).bind fun y223 =>
    (f_Mt_max_JJ y201 y223).bind fun y247 =>
    (f_Le_consider a0 (((ishl (1 : Int32) x8) ||| (ishl (1 : Int32) x6)) ||| (ishl (1 : Int32) x4)) y247 μ).bind fun μ250 =>
    (f_Le_find_L175 k100 k137 a0 x1 x2 x3 x4 x5 x6 x7 n) (x8 + (1 : Int32)) μ250
def f_Le_find_J173 (k100 : Int32 → MM → Option (MM)) (k137 : Int32 → MM → Option (MM))  (a0 : Nat) (x1 : Int32) (x2 : Int32) (x3 : Int32) (x4 : Int32) (x5 : Int32) (x6 : Int32) (x7 : Int32) (s0 : Int32) (μ : MM) : Option (MM) :=
  f_Le_find_L175 k100 k137 a0 x1 x2 x3 x4 x5 x6 x7 FU s0 μ
def f_Le_find_J158 (k100 : Int32 → MM → Option (MM)) (k137 : Int32 → MM → Option (MM))  (a0 : Nat) (x1 : Int32) (x2 : Int32) (x3 : Int32) (x4 : Int32) (x5 : Int32) (x6 : Int32) (s0 : Int32) (μ : MM) : Option (MM) :=
  if x1 ≤ (2 : Int32) then (
    f_Le_find_J173 k100 k137 a0 x1 x2 x3 x4 x5 x6 s0 x6 μ)
  else
  f_Le_find_J173 k100 k137 a0 x1 x2 x3 x4 x5 x6 s0 (x2 + (1 : Int32)) μ
def f_Le_find_L137 (k100 : Int32 → MM → Option (MM))  (a0 : Nat) (x1 : Int32) (x2 : Int32) (x3 : Int32) (x4 : Int32) (x5 : Int32) : Nat → Int32 → MM → Option (MM)
  | 0 => fun _ _ => none
  | n + 1 => fun x6 μ => 
    if x5 < x6 then (
      k100 (x4 + (1 : Int32)) μ)
    else
    if x1 ≤ (2 : Int32) then (
      f_Le_find_J158 k100 (f_Le_find_L137 k100 a0 x1 x2 x3 x4 x5 n) a0 x1 x2 x3 x4 x5 x6 x6 μ)
    else
    f_Le_find_J158 k100 (f_Le_find_L137 k100 a0 x1 x2 x3 x4 x5 n) a0 x1 x2 x3 x4 x5 x6 (x6 - (1 : Int32)) μ
def f_Le_find_J135 (k100 : Int32 → MM → Option (MM))  (a0 : Nat) (x1 : Int32) (x2 : Int32) (x3 : Int32) (x4 : Int32) (x5 : Int32) (s0 : Int32) (μ : MM) : Option (MM) :=
  f_Le_find_L137 k100 a0 x1 x2 x3 x4 x5 FU s0 μ
def f_Le_find_J120 (k100 : Int32 → MM → Option (MM))  (a0 : Nat) (x1 : Int32) (x2 : Int32) (x3 : Int32) (x4 : Int32) (s0 : Int32) (μ : MM) : Option (MM) :=
  if x1 ≤ (1 : Int32) then (
    f_Le_find_J135 k100 a0 x1 x2 x3 x4 s0 x4 μ)
  else
  f_Le_find_J135 k100 a0 x1 x2 x3 x4 s0 (x2 + (1 : Int32)) μ
def f_Le_find_L100  (a0 : Nat) (x1 : Int32) (x2 : Int32) (x3 : Int32) : Nat → Int32 → MM → Option (MM)
  | 0 => fun _ _ => none
  | n + 1 => fun x4 μ => 
    if x3 < x4 then (
      some μ)
    else
    if x1 ≤ (1 : Int32) then (
      f_Le_find_J120 (f_Le_find_L100 a0 x1 x2 x3 n) a0 x1 x2 x3 x4 x4 μ)
    else
    f_Le_find_J120 (f_Le_find_L100 a0 x1 x2 x3 n) a0 x1 x2 x3 x4 (x4 - (1 : Int32)) μ
def f_Le_find_L44  (a0 : Nat) (x1 : Int32) (x2 : Int32) (x3 : Int32) : Nat → Int32 → MM → Option (MM)
  | 0 => fun _ _ => none
  | n + 1 => fun x4 μ => 
    if x3 < x4 then (
      (pI μ a0 4 3 (0 : Int32)).bind fun μ85 =>
      (pL μ85 a0 4 4 (9223372036854775807 : Int64)).bind fun μ92 =>
      f_Le_find_L100 a0 x1 x2 x3 FU (x2 + (1 : Int32)) μ92)
    else
    (rR μ a0 4 1).bind fun y51 =>
    (rR μ a0 4 0).bind fun y55 =>
    (rR μ y55 2 2).bind fun y58 =>
    (f_Si_sing y51 y58 (ishl (1 : Int32) x4) (0 : Int32) (0 : Int32) μ).bind fun μ67 =>
    (f_Le_chart a0 x4 x3 μ67).bind fun μ74 =>
    (f_Le_find_L44 a0 x1 x2 x3 n) (x4 + (1 : Int32)) μ74
def f_Le_find (a0 : Nat) (x1 : Int32) (μ : MM) : Option (MM) :=
  (kO μ a0 4).bind fun _ =>
  (rR μ a0 4 0).bind fun y1 =>
  (f_Ch_firstBeat y1 μ).bind fun y4 =>
  (rR μ a0 4 0).bind fun y9 =>
  (f_Ch_lastBeat y9 μ).bind fun y12 =>
  (rR μ a0 4 1).bind fun y17 =>
  (rR μ a0 4 0).bind fun y21 =>
  (rR μ y21 2 2).bind fun y24 =>
  (f_Si_sing y17 y24 (0 : Int32) (0 : Int32) (0 : Int32) μ).bind fun μ30 =>
  (f_Le_chart a0 (0 : Int32) y12 μ30).bind fun μ36 =>
  f_Le_find_L44 a0 x1 y4 y12 FU (y4 + (1 : Int32)) μ36
def f_X_leader_J30  (μ : MM) : Option (Int64 × MM) :=
  some ((-1 : Int64), μ)
def f_X_leader (a0 : Nat) (x1 : Int32) (x2 : Int32) (μ : MM) : Option (Int64 × MM) :=
  (kO μ a0 0).bind fun _ =>
  if x1 < (1 : Int32) then (
    f_X_leader_J30 μ)
  else
  if (3 : Int32) < x1 then (
    f_X_leader_J30 μ)
  else
  if x2 < 0 then (
    f_X_leader_J30 μ)
  else
  if (1 : Int32) < x2 then (
    f_X_leader_J30 μ)
  else
  (rR μ a0 0 1).bind fun y20 =>
  (f_Ch_firstBeat y20 μ).bind fun y23 =>
  if y23 = (-1 : Int32) then (
    f_X_leader_J30 μ)
  else
  (rR μ a0 0 1).bind fun y35 =>
  (f_Ch_lastBeat y35 μ).bind fun y38 =>
  (rR μ a0 0 1).bind fun y42 =>
  (f_Ch_firstBeat y42 μ).bind fun y45 =>
  if x1 ≤ (y38 - y45) then (
    (rR μ a0 0 4).bind fun y58 =>
    (f_Le_find y58 x1 μ).bind fun μ62 =>
    if x2 = 0 then (
      (rR μ62 a0 0 4).bind fun y70 =>
      (rI μ62 y70 4 3).bind fun y73 =>
      some (y73.toInt64, μ62))
    else
    (rR μ62 a0 0 4).bind fun y81 =>
    (rL μ62 y81 4 4).bind fun y84 =>
    some (y84, μ62))
  else
  some ((-2 : Int64), μ)
def f_M_farthest_L4  (a0 : Nat) (μ : MM) : Nat → Int64 → Int32 → Option (Int64)
  | 0 => fun _ _ => none
  | n + 1 => fun x1 x3 => 
    if (24 : Int32) ≤ x3 then (
      some x1)
    else
    (f_M_singing a0 x3 μ).bind fun y12 =>
    if y12 = 0 then (
      (f_M_farthest_L4 a0 μ n) x1 (x3 + (1 : Int32)))
    else
    (f_M_offOf a0 x3 μ).bind fun y23 =>
    (f_M_plain y23).bind fun y26 =>
    if (lg_cmp y26 x1) ≤ 0 then (
      (f_M_farthest_L4 a0 μ n) x1 (x3 + (1 : Int32)))
    else
    (f_M_farthest_L4 a0 μ n) y26 (x3 + (1 : Int32))
def f_M_farthest (a0 : Nat) (μ : MM) : Option (Int64) :=
  (kO μ a0 1).bind fun _ =>
  f_M_farthest_L4 a0 μ FU (0 : Int64) (0 : Int32)
def f_M_leader_J30  (μ : MM) : Option (Int64 × MM) :=
  some ((-1 : Int64), μ)
def f_M_leader_J199 (k87 : Int32 → Int64 → Int32 → MM → Option (Int64 × MM)) (k117 : Int32 → Int64 → Int32 → MM → Option (Int64 × MM)) (k148 : Int32 → Int64 → Int32 → MM → Option (Int64 × MM))  (a0 : Nat) (x1 : Int32) (x2 : Int32) (x3 : Int32) (x4 : Int32) (x5 : Int32) (x6 : Int64) (x8 : Int32) (x9 : Int32) (x10 : Int32) (s0 : Nat) (s1 : Int32) (s2 : Int32) (μ : MM) : Option (Int64 × MM) :=
  (pI μ s0 1 52 (s1 ||| s2)).bind fun μ200 =>
  (f_M_isSung a0 μ200).bind fun μ204 =>
  (f_M_farthest a0 μ204).bind fun y208 =>
  if (lg_cmp y208 x6) < 0 then (
    (rI μ204 a0 1 52).bind fun y225 =>
    k148 y225 y208 (x10 + (1 : Int32)) μ204)
  else
  k148 x5 x6 (x10 + (1 : Int32)) μ204
def f_M_leader_J185 (k87 : Int32 → Int64 → Int32 → MM → Option (Int64 × MM)) (k117 : Int32 → Int64 → Int32 → MM → Option (Int64 × MM)) (k148 : Int32 → Int64 → Int32 → MM → Option (Int64 × MM))  (a0 : Nat) (x1 : Int32) (x2 : Int32) (x3 : Int32) (x4 : Int32) (x5 : Int32) (x6 : Int64) (x8 : Int32) (x9 : Int32) (x10 : Int32) (s0 : Nat) (s1 : Int32) (s2 : Int32) (μ : MM) : Option (Int64 × MM) :=
  if x1 ≤ (2 : Int32) then (
    f_M_leader_J199 k87 k117 k148 a0 x1 x2 x3 x4 x5 x6 x8 x9 x10 s0 (s1 ||| s2) (0 : Int32) μ)
  else
  f_M_leader_J199 k87 k117 k148 a0 x1 x2 x3 x4 x5 x6 x8 x9 x10 s0 (s1 ||| s2) (ishl (1 : Int32) x8) μ
def f_M_leader_J164 (k87 : Int32 → Int64 → Int32 → MM → Option (Int64 × MM)) (k117 : Int32 → Int64 → Int32 → MM → Option (Int64 × MM)) (k148 : Int32 → Int64 → Int32 → MM → Option (Int64 × MM))  (a0 : Nat) (x1 : Int32) (x2 : Int32) (x3 : Int32) (x4 : Int32) (x5 : Int32) (x6 : Int64) (x8 : Int32) (x9 : Int32) (x10 : Int32) (s0 : Int32) (s1 : Int32) (μ : MM) : Option (Int64 × MM) :=
  if s1 < s0 then (
    k117 x5 x6 (x9 + (1 : Int32)) μ)
  else
  if x1 ≤ (1 : Int32) then (
    f_M_leader_J185 k87 k117 k148 a0 x1 x2 x3 x4 x5 x6 x8 x9 x10 a0 (ishl (1 : Int32) x10) (0 : Int32) μ)
  else
  f_M_leader_J185 k87 k117 k148 a0 x1 x2 x3 x4 x5 x6 x8 x9 x10 a0 (ishl (1 : Int32) x10) (ishl (1 : Int32) x9) μ
def f_M_leader_L148 (k87 : Int32 → Int64 → Int32 → MM → Option (Int64 × MM)) (k117 : Int32 → Int64 → Int32 → MM → Option (Int64 × MM))  (a0 : Nat) (x1 : Int32) (x2 : Int32) (x3 : Int32) (x4 : Int32) (x8 : Int32) (x9 : Int32) : Nat → Int32 → Int64 → Int32 → MM → Option (Int64 × MM)
  | 0 => fun _ _ _ _ => none
  | n + 1 => fun x5 x6 x10 μ => 
    if x1 ≤ (1 : Int32) then (
      f_M_leader_J164 k87 k117 (f_M_leader_L148 k87 k117 a0 x1 x2 x3 x4 x8 x9 n) a0 x1 x2 x3 x4 x5 x6 x8 x9 x10 x10 x4 μ)
    else
    f_M_leader_J164 k87 k117 (f_M_leader_L148 k87 k117 a0 x1 x2 x3 x4 x8 x9 n) a0 x1 x2 x3 x4 x5 x6 x8 x9 x10 x10 (x9 - (1 : Int32)) μ
def f_M_leader_J142 (k87 : Int32 → Int64 → Int32 → MM → Option (Int64 × MM)) (k117 : Int32 → Int64 → Int32 → MM → Option (Int64 × MM))  (a0 : Nat) (x1 : Int32) (x2 : Int32) (x3 : Int32) (x4 : Int32) (x5 : Int32) (x6 : Int64) (x8 : Int32) (x9 : Int32) (s0 : Int32) (s1 : Int32) (μ : MM) : Option (Int64 × MM) :=
  if s1 < s0 then (
    k87 x5 x6 (x8 + (1 : Int32)) μ)
  else
  f_M_leader_L148 k87 k117 a0 x1 x2 x3 x4 x8 x9 FU x5 x6 x3 μ
def f_M_leader_L117 (k87 : Int32 → Int64 → Int32 → MM → Option (Int64 × MM))  (a0 : Nat) (x1 : Int32) (x2 : Int32) (x3 : Int32) (x4 : Int32) (x8 : Int32) : Nat → Int32 → Int64 → Int32 → MM → Option (Int64 × MM)
  | 0 => fun _ _ _ _ => none
  | n + 1 => fun x5 x6 x9 μ => 
    if x1 ≤ (2 : Int32) then (
      if x1 ≤ (1 : Int32) then (
        f_M_leader_J142 k87 (f_M_leader_L117 k87 a0 x1 x2 x3 x4 x8 n) a0 x1 x2 x3 x4 x5 x6 x8 x9 x9 (-1 : Int32) μ)
      else
      f_M_leader_J142 k87 (f_M_leader_L117 k87 a0 x1 x2 x3 x4 x8 n) a0 x1 x2 x3 x4 x5 x6 x8 x9 x9 x4 μ)
    else
    f_M_leader_J142 k87 (f_M_leader_L117 k87 a0 x1 x2 x3 x4 x8 n) a0 x1 x2 x3 x4 x5 x6 x8 x9 x9 (x8 - (1 : Int32)) μ
def f_M_leader_J115 (k87 : Int32 → Int64 → Int32 → MM → Option (Int64 × MM))  (a0 : Nat) (x1 : Int32) (x2 : Int32) (x3 : Int32) (x4 : Int32) (x5 : Int32) (x6 : Int64) (x8 : Int32) (s0 : Int32) (μ : MM) : Option (Int64 × MM) :=
  f_M_leader_L117 k87 a0 x1 x2 x3 x4 x8 FU x5 x6 s0 μ
def f_M_leader_J100 (k87 : Int32 → Int64 → Int32 → MM → Option (Int64 × MM))  (a0 : Nat) (x1 : Int32) (x2 : Int32) (x3 : Int32) (x4 : Int32) (x5 : Int32) (x6 : Int64) (x8 : Int32) (s0 : Int32) (s1 : Int32) (μ : MM) : Option (Int64 × MM) :=
  if s1 < s0 then (
    if x2 = 0 then (
      some (x5.toInt64, μ))
    else
    some (x6, μ))
  else
  if x1 ≤ (1 : Int32) then (
    f_M_leader_J115 k87 a0 x1 x2 x3 x4 x5 x6 x8 (-1 : Int32) μ)
  else
  f_M_leader_J115 k87 a0 x1 x2 x3 x4 x5 x6 x8 (x3 + (1 : Int32)) μ
def f_M_leader_L87  (a0 : Nat) (x1 : Int32) (x2 : Int32) (x3 : Int32) (x4 : Int32) : Nat → Int32 → Int64 → Int32 → MM → Option (Int64 × MM)
  | 0 => fun _ _ _ _ => none
  | n + 1 => fun x5 x6 x8 μ => 
    if x1 ≤ (2 : Int32) then (
      f_M_leader_J100 (f_M_leader_L87 a0 x1 x2 x3 x4 n) a0 x1 x2 x3 x4 x5 x6 x8 x8 (-1 : Int32) μ)
    else
    f_M_leader_J100 (f_M_leader_L87 a0 x1 x2 x3 x4 n) a0 x1 x2 x3 x4 x5 x6 x8 x8 x4 μ
def f_M_leader_J85  (a0 : Nat) (x1 : Int32) (x2 : Int32) (x3 : Int32) (x4 : Int32) (x5 : Int32) (x6 : Int64) (s0 : Int32) (μ : MM) : Option (Int64 × MM) :=
  f_M_leader_L87 a0 x1 x2 x3 x4 FU x5 x6 s0 μ
def f_M_leader (a0 : Nat) (x1 : Int32) (x2 : Int32) (μ : MM) : Option (Int64 × MM) :=
  (kO μ a0 1).bind fun _ =>
  (f_M_lies x1.toInt64 (1 : Int64) (3 : Int64)).bind fun y6 =>
  if y6 = 0 then (
    f_M_leader_J30 μ)
  else
  (f_M_lies x2.toInt64 (0 : Int64) (1 : Int64)).bind fun y16 =>
  if y16 = 0 then (
    f_M_leader_J30 μ)
  else
  (f_M_firstSung a0 μ).bind fun y23 =>
  if y23 = (-1 : Int32) then (
    f_M_leader_J30 μ)
  else
  (f_M_firstSung a0 μ).bind fun y35 =>
  (f_M_lastSung a0 μ).bind fun y42 =>
  if x1 ≤ ((y42 - (y35 + (1 : Int32))) + (1 : Int32)) then (
    (f_M_readies a0 μ).bind fun μ62 =>
    if x1 ≤ (2 : Int32) then (
      f_M_leader_J85 a0 x1 x2 (y35 + (1 : Int32)) y42 (0 : Int32) (1000000000000000 : Int64) (-1 : Int32) μ62)
    else
    f_M_leader_J85 a0 x1 x2 (y35 + (1 : Int32)) y42 (0 : Int32) (1000000000000000 : Int64) ((y35 + (1 : Int32)) + (2 : Int32)) μ62)
  else
  some ((-2 : Int64), μ)
def f_X_worst_L4  (a0 : Nat) (μ : MM) : Nat → Int32 → Int32 → Option (Int32)
  | 0 => fun _ _ => none
  | n + 1 => fun x1 x2 => 
    if (24 : Int32) ≤ x2 then (
      some x1)
    else
    (rR μ a0 0 0).bind fun y11 =>
    (f_Sc_soundsIn y11 x2 μ).bind fun y15 =>
    if y15 = 0 then (
      (f_X_worst_L4 a0 μ n) x1 (x2 + (1 : Int32)))
    else
    if x1 = (-1 : Int32) then (
      (f_X_worst_L4 a0 μ n) x2 (x2 + (1 : Int32)))
    else
    (rR μ a0 0 1).bind fun y27 =>
    (f_Ch_tableFoul y27 x2 μ).bind fun y31 =>
    (rR μ a0 0 1).bind fun y35 =>
    (f_Ch_tableFoul y35 x1 μ).bind fun y39 =>
    if (lg_cmp y31 y39) ≤ 0 then (
      (f_X_worst_L4 a0 μ n) x1 (x2 + (1 : Int32)))
    else
    (f_X_worst_L4 a0 μ n) x2 (x2 + (1 : Int32))
def f_X_worst (a0 : Nat) (μ : MM) : Option (Int32) :=
  (kO μ a0 0).bind fun _ =>
  f_X_worst_L4 a0 μ FU (-1 : Int32) (0 : Int32)
def f_M_worst_L19 (k8 : Int32 → Int32 → Option (Int32 × MM))  (a0 : Nat) (x1 : Int32) (x2 : Int32) (μ : MM) : Nat → Int32 → Int32 → Option (Int32 × MM)
  | 0 => fun _ _ => none
  | n + 1 => fun x3 x4 => 
    if (6 : Int32) ≤ x4 then (
      if x3 = 0 then (
        k8 x1 (x2 + (1 : Int32)))
      else
      if x1 = (-1 : Int32) then (
        k8 x2 (x2 + (1 : Int32)))
      else
      (f_M_tableFoul a0 x2 μ).bind fun y63 =>
      (f_M_tableFoul a0 x1 μ).bind fun y68 =>
      if (lg_cmp y63 y68) ≤ 0 then (
        k8 x1 (x2 + (1 : Int32)))
      else
      k8 x2 (x2 + (1 : Int32)))
    else
    if x3 = 0 then (
      (f_M_isNote a0 x4 x2 μ).bind fun y34 =>
      if y34 = 0 then (
        (f_M_worst_L19 k8 a0 x1 x2 μ n) (0 : Int32) (x4 + (1 : Int32)))
      else
      (f_M_worst_L19 k8 a0 x1 x2 μ n) (1 : Int32) (x4 + (1 : Int32)))
    else
    (f_M_worst_L19 k8 a0 x1 x2 μ n) (1 : Int32) (x4 + (1 : Int32))
def f_M_worst_L8  (a0 : Nat) (μ : MM) : Nat → Int32 → Int32 → Option (Int32 × MM)
  | 0 => fun _ _ => none
  | n + 1 => fun x1 x2 => 
    if (24 : Int32) ≤ x2 then (
      some (x1, μ))
    else
    f_M_worst_L19 (f_M_worst_L8 a0 μ n) a0 x1 x2 μ FU (0 : Int32) (0 : Int32)
def f_M_worst (a0 : Nat) (μ : MM) : Option (Int32 × MM) :=
  (kO μ a0 1).bind fun _ =>
  (f_M_readies a0 μ).bind fun μ1 =>
  f_M_worst_L8 a0 μ1 FU (-1 : Int32) (0 : Int32)
def f_X_knows (a0 : Nat) (μ : MM) : Option (Int64 × MM) :=
  (kO μ a0 0).bind fun _ =>
  (rR μ a0 0 1).bind fun y1 =>
  (f_Ch_firstBeat y1 μ).bind fun y4 =>
  if y4 = (-1 : Int32) then (
    some ((-1000000000 : Int64), μ))
  else
  (rR μ a0 0 2).bind fun y16 =>
  (f_Si_asTold y16 μ).bind fun μ19 =>
  (rR μ19 a0 0 2).bind fun y23 =>
  (f_Si_sinking y23 μ19).bind fun y26 =>
  (rR μ19 a0 0 2).bind fun y31 =>
  (rR μ19 a0 0 1).bind fun y35 =>
  (rR μ19 y35 2 2).bind fun y38 =>
  (rR μ19 a0 0 1).bind fun y42 =>
  (rI μ19 y42 2 12).bind fun y45 =>
  (f_Si_sing y31 y38 y45 (0 : Int32) (1 : Int32) μ19).bind fun μ50 =>
  (rR μ50 a0 0 2).bind fun y55 =>
  (f_Si_sinking y55 μ50).bind fun y58 =>
  some ((y26 - y58), μ50)
def f_M_knows_L23  (a0 : Nat) (x1 : Int64) : Nat → Int32 → MM → Option (Int64 × MM)
  | 0 => fun _ _ => none
  | n + 1 => fun x3 μ => 
    (rI μ a0 1 18).bind fun y25 =>
    if y25 ≤ x3 then (
      (f_M_isSung a0 μ).bind fun μ45 =>
      (f_M_sunkNow a0 μ45).bind fun y50 =>
      some ((x1 - y50), μ45))
    else
    (rR μ a0 1 51).bind fun y32 =>
    (uI μ y32 x3 (0 : Int32)).bind fun μ37 =>
    (f_M_knows_L23 a0 x1 n) (x3 + (1 : Int32)) μ37
def f_M_knows (a0 : Nat) (μ : MM) : Option (Int64 × MM) :=
  (kO μ a0 1).bind fun _ =>
  (f_M_firstSung a0 μ).bind fun y1 =>
  if y1 = (-1 : Int32) then (
    some ((-1000000000 : Int64), μ))
  else
  (f_M_plainly a0 μ).bind fun μ13 =>
  (f_M_sunkNow a0 μ13).bind fun y17 =>
  f_M_knows_L23 a0 y17 FU (0 : Int32) μ13
def f_Ch_putRecord (a0 : Nat) (x1 : Int32) (x2 : Int32) (x3 : Int32) (μ : MM) : Option (MM) :=
  (kO μ a0 2).bind fun _ =>
  (f_Ch_has a0 x1 μ).bind fun y2 =>
  if y2 = 0 then (
    some μ)
  else
  if x2 < 0 then (
    some μ)
  else
  if (24 : Int32) ≤ x2 then (
    some μ)
  else
  (rR μ a0 2 5).bind fun y19 =>
  (uI μ y19 ((x1 * (24 : Int32)) + x2) x3).bind fun μ29 =>
  (rR μ29 a0 2 6).bind fun y31 =>
  (aI μ29 y31 x1).bind fun y36 =>
  (uI μ29 y31 x1 (y36 ||| (ishl (1 : Int32) x2))).bind fun μ41 =>
  some μ41
def f_X_tape (a0 : Nat) (x1 : Int32) (x2 : Int32) (x3 : Int32) (μ : MM) : Option (Int32 × MM) :=
  (kO μ a0 0).bind fun _ =>
  (rR μ a0 0 1).bind fun y1 =>
  (f_Ch_has y1 x1 μ).bind fun y5 =>
  if y5 = 0 then (
    some ((0 : Int32), μ))
  else
  if x2 < 0 then (
    some ((0 : Int32), μ))
  else
  if (24 : Int32) ≤ x2 then (
    some ((0 : Int32), μ))
  else
  if x3 < (-10000000 : Int32) then (
    some ((0 : Int32), μ))
  else
  if x3 ≤ (10000000 : Int32) then (
    (rR μ a0 0 1).bind fun y38 =>
    (f_Ch_putRecord y38 x1 x2 x3 μ).bind fun μ44 =>
    some ((1 : Int32), μ44))
  else
  some ((0 : Int32), μ)
def f_M_tape (a0 : Nat) (x1 : Int32) (x2 : Int32) (x3 : Int32) (μ : MM) : Option (Int32 × MM) :=
  (kO μ a0 1).bind fun _ =>
  (f_M_isSinger a0 x1 μ).bind fun y2 =>
  if y2 = 0 then (
    some ((0 : Int32), μ))
  else
  (f_M_isBeat x2).bind fun y9 =>
  if y9 = 0 then (
    some ((0 : Int32), μ))
  else
  (f_M_lies x3.toInt64 (-10000000 : Int64) (10000000 : Int64)).bind fun y23 =>
  if y23 = 0 then (
    some ((0 : Int32), μ))
  else
  (rR μ a0 1 69).bind fun y32 =>
  (uI μ y32 (((24 : Int32) * x1) + x2) x3).bind fun μ42 =>
  (rR μ42 a0 1 70).bind fun y44 =>
  (uB μ42 y44 (((24 : Int32) * x1) + x2) (1 : Int32)).bind fun μ54 =>
  some ((1 : Int32), μ54)
def f_Ar_fill_BJ_L6  (a0 : Nat) (x1 : Int64) (x4 : Int32) : Nat → Int32 → MM → Option (MM)
  | 0 => fun _ _ => none
  | n + 1 => fun x3 μ => 
    if x4 ≤ x3 then (
      some μ)
    else
    (uL μ a0 x3 x1).bind fun μ15 =>
    (f_Ar_fill_BJ_L6 a0 x1 x4 n) (x3 + (1 : Int32)) μ15
def f_Ar_fill_BJ (a0 : Nat) (x1 : Int64) (μ : MM) : Option (MM) :=
  (aN μ a0).bind fun y3 =>
  f_Ar_fill_BJ_L6 a0 x1 y3 FU (0 : Int32) μ
def f_Ch_isRecorded (a0 : Nat) (x1 : Int32) (x2 : Int32) (μ : MM) : Option (Int32) :=
  (kO μ a0 2).bind fun _ =>
  (f_Ch_sings a0 x1 x2 μ).bind fun y3 =>
  if y3 = 0 then (
    some (0 : Int32))
  else
  (rR μ a0 2 6).bind fun y10 =>
  (aI μ y10 x1).bind fun y14 =>
  if ((ishr y14 x2) &&& (1 : Int32)) = (1 : Int32) then (
    some (1 : Int32))
  else
  some (0 : Int32)
def f_Ch_lastRecord_L4  (a0 : Nat) (x1 : Int32) (μ : MM) : Nat → Int32 → Option (Int32)
  | 0 => fun _ => none
  | n + 1 => fun x3 => 
    if x3 < 0 then (
      some (-1 : Int32))
    else
    (f_Ch_isRecorded a0 x1 x3 μ).bind fun y11 =>
    if y11 = 0 then (
      (f_Ch_lastRecord_L4 a0 x1 μ n) (x3 + (-1 : Int32)))
    else
    some x3
def f_Ch_lastRecord (a0 : Nat) (x1 : Int32) (x2 : Int32) (μ : MM) : Option (Int32) :=
  (kO μ a0 2).bind fun _ =>
  f_Ch_lastRecord_L4 a0 x1 μ FU (x2 - (1 : Int32))
def f_Ch_recordOf (a0 : Nat) (x1 : Int32) (x2 : Int32) (μ : MM) : Option (Int32) :=
  (kO μ a0 2).bind fun _ =>
  (f_Ch_isRecorded a0 x1 x2 μ).bind fun y3 =>
  if y3 = 0 then (
    some (0 : Int32))
  else
  (rR μ a0 2 5).bind fun y10 =>
  (aI μ y10 ((x1 * (24 : Int32)) + x2)).bind fun y19 =>
  some y19
def f_Fi_addBeat_L33  (a0 : Nat) (x1 : Int32) (x2 : Int32) : Nat → Int32 → MM → Option (MM)
  | 0 => fun _ _ => none
  | n + 1 => fun x4 μ => 
    if (64 : Int32) ≤ x4 then (
      some μ)
    else
    (rR μ a0 3 2).bind fun y41 =>
    (f_Si_blend y41 (ishr x4 (4 : Int32)) ((ishr x4 (2 : Int32)) &&& (3 : Int32)) (x4 &&& (3 : Int32)) (0 : Int32) μ).bind fun y59 =>
    (rR μ a0 3 3).bind fun y65 =>
    (aL μ y65 x4).bind fun y71 =>
    (rR μ a0 3 1).bind fun y75 =>
    (f_Ch_recordOf y75 x1 x2 μ).bind fun y80 =>
    (f_Mt_abs_J (y59 - y80.toInt64)).bind fun y85 =>
    (uL μ y65 x4 (y71 + y85)).bind fun μ89 =>
    (f_Fi_addBeat_L33 a0 x1 x2 n) (x4 + (1 : Int32)) μ89
def f_Fi_addBeat (a0 : Nat) (x1 : Int32) (x2 : Int32) (μ : MM) : Option (MM) :=
  (kO μ a0 3).bind fun _ =>
  (rR μ a0 3 1).bind fun y1 =>
  (f_Ch_lastRecord y1 x1 x2 μ).bind fun y6 =>
  (rR μ a0 3 2).bind fun y11 =>
  (rR μ a0 3 1).bind fun y18 =>
  (f_Ch_recordOf y18 x1 y6 μ).bind fun y23 =>
  (f_Si_aim y11 x1 x2 y6 y23.toInt64 μ).bind fun μ27 =>
  f_Fi_addBeat_L33 a0 x1 x2 FU (1 : Int32) μ27
def f_Fi_find_L47  (a0 : Nat) (x1 : Int32) : Nat → Int32 → MM → Option (Int32 × MM)
  | 0 => fun _ _ => none
  | n + 1 => fun x2 μ => 
    if (64 : Int32) ≤ x2 then (
      (rR μ a0 3 1).bind fun y84 =>
      (f_Ch_lastRecord y84 x1 (24 : Int32) μ).bind fun y90 =>
      if y90 = (-1 : Int32) then (
        some ((0 : Int32), μ))
      else
      some ((1 : Int32), μ))
    else
    (rR μ a0 3 3).bind fun y54 =>
    (aL μ y54 x2).bind fun y58 =>
    (rR μ a0 3 3).bind fun y60 =>
    (rI μ a0 3 4).bind fun y64 =>
    (aL μ y60 y64).bind fun y67 =>
    if 0 ≤ (lg_cmp y58 y67) then (
      (f_Fi_find_L47 a0 x1 n) (x2 + (1 : Int32)) μ)
    else
    (pI μ a0 3 4 x2).bind fun μ74 =>
    (f_Fi_find_L47 a0 x1 n) (x2 + (1 : Int32)) μ74
def f_Fi_find_L10  (a0 : Nat) (x1 : Int32) : Nat → Int32 → MM → Option (Int32 × MM)
  | 0 => fun _ _ => none
  | n + 1 => fun x2 μ => 
    if (24 : Int32) ≤ x2 then (
      (pI μ a0 3 4 (1 : Int32)).bind fun μ42 =>
      f_Fi_find_L47 a0 x1 FU (2 : Int32) μ42)
    else
    (rR μ a0 3 1).bind fun y17 =>
    (f_Ch_isRecorded y17 x1 x2 μ).bind fun y22 =>
    if y22 = 0 then (
      (f_Fi_find_L10 a0 x1 n) (x2 + (1 : Int32)) μ)
    else
    (f_Fi_addBeat a0 x1 x2 μ).bind fun μ31 =>
    (f_Fi_find_L10 a0 x1 n) (x2 + (1 : Int32)) μ31
def f_Fi_find (a0 : Nat) (x1 : Int32) (μ : MM) : Option (Int32 × MM) :=
  (kO μ a0 3).bind fun _ =>
  (rR μ a0 3 3).bind fun y1 =>
  (f_Ar_fill_BJ y1 (0 : Int64) μ).bind fun μ5 =>
  f_Fi_find_L10 a0 x1 FU (0 : Int32) μ5
def f_Fi_told (a0 : Nat) (x1 : Int32) (μ : MM) : Option (Int64) :=
  (kO μ a0 3).bind fun _ =>
  if x1 = (0 : Int32) then (
    (rI μ a0 3 4).bind fun y29 =>
    some ((ishr y29 (4 : Int32)).toInt64))
  else
  if x1 = (1 : Int32) then (
    (rI μ a0 3 4).bind fun y37 =>
    some (((ishr y37 (2 : Int32)) &&& (3 : Int32)).toInt64))
  else
  if x1 = (2 : Int32) then (
    (rI μ a0 3 4).bind fun y47 =>
    some ((y47 &&& (3 : Int32)).toInt64))
  else
  (rI μ a0 3 4).bind fun y55 =>
  if y55 < 0 then (
    some (0 : Int64))
  else
  (rI μ a0 3 4).bind fun y62 =>
  if (64 : Int32) ≤ y62 then (
    some (0 : Int64))
  else
  (rR μ a0 3 3).bind fun y71 =>
  (rI μ a0 3 4).bind fun y75 =>
  (aL μ y71 y75).bind fun y78 =>
  some y78
def f_X_fit_J20  (μ : MM) : Option (Int64 × MM) :=
  some ((-1 : Int64), μ)
def f_X_fit (a0 : Nat) (x1 : Int32) (x2 : Int32) (μ : MM) : Option (Int64 × MM) :=
  (kO μ a0 0).bind fun _ =>
  (rR μ a0 0 1).bind fun y1 =>
  (f_Ch_has y1 x1 μ).bind fun y5 =>
  if y5 = 0 then (
    f_X_fit_J20 μ)
  else
  if x2 < 0 then (
    f_X_fit_J20 μ)
  else
  if x2 ≤ (3 : Int32) then (
    (rR μ a0 0 2).bind fun y25 =>
    (f_Si_asTold y25 μ).bind fun μ28 =>
    (rR μ28 a0 0 5).bind fun y32 =>
    (f_Fi_find y32 x1 μ28).bind fun q36 =>
    if q36.1 = 0 then (
      some ((-2 : Int64), q36.2))
    else
    (rR q36.2 a0 0 5).bind fun y43 =>
    (f_Fi_told y43 x2 q36.2).bind fun y47 =>
    some (y47, q36.2))
  else
  f_X_fit_J20 μ
def f_M_isTaped (a0 : Nat) (x1 : Int32) (x2 : Int32) (μ : MM) : Option (Int32) :=
  (kO μ a0 1).bind fun _ =>
  (f_M_sings a0 x1 x2 μ).bind fun y3 =>
  if y3 = 0 then (
    some (0 : Int32))
  else
  (rR μ a0 1 70).bind fun y10 =>
  (aB μ y10 (((24 : Int32) * x1) + x2)).bind fun y19 =>
  if y19 = 0 then (
    some (0 : Int32))
  else
  some (1 : Int32)
def f_M_differs_J138 (k9 : Int64 → Int32 → Int32 → MM → Option (Int64 × MM))  (a0 : Nat) (x1 : Int32) (x2 : Int32) (x3 : Int32) (x4 : Int32) (x5 : Int64) (x8 : Int32) (s0 : Nat) (s1 : Int64) (μ : MM) : Option (Int64 × MM) :=
  (pL μ s0 1 65 s1).bind fun μ138 =>
  (f_M_aimOf a0 x1 x8 x2.toInt64 x3.toInt64 x4.toInt64 (0 : Int64) μ138).bind fun y155 =>
  (rR μ138 a0 1 69).bind fun y159 =>
  (aI μ138 y159 (((24 : Int32) * x1) + x8)).bind fun y169 =>
  (f_M_plain (y155 - y169.toInt64)).bind fun y172 =>
  k9 (x5 + y172) x8 (x8 + (1 : Int32)) μ138
def f_M_differs_J117 (k9 : Int64 → Int32 → Int32 → MM → Option (Int64 × MM))  (a0 : Nat) (x1 : Int32) (x2 : Int32) (x3 : Int32) (x4 : Int32) (x5 : Int64) (x7 : Int32) (x8 : Int32) (x9 : Int32) (s0 : Nat) (μ : MM) : Option (Int64 × MM) :=
  (f_M_sizeFor a0 x1 x8 μ).bind fun y124 =>
  (f_M_sizeFor a0 x1 x7 μ).bind fun y133 =>
  f_M_differs_J138 k9 a0 x1 x2 x3 x4 x5 x8 s0 ((x9.toInt64 + y124.toInt64) - y133.toInt64) μ
def f_M_differs_J73 (k9 : Int64 → Int32 → Int32 → MM → Option (Int64 × MM))  (a0 : Nat) (x1 : Int32) (x2 : Int32) (x3 : Int32) (x4 : Int32) (x5 : Int64) (x7 : Int32) (x8 : Int32) (s0 : Int32) (μ : MM) : Option (Int64 × MM) :=
  (rI μ a0 1 67).bind fun y77 =>
  if y77 = 0 then (
    f_M_differs_J138 k9 a0 x1 x2 x3 x4 x5 x8 a0 (0 : Int64) μ)
  else
  if x7 = (x8 - (1 : Int32)) then (
    (rR μ a0 1 22).bind fun y98 =>
    (aI μ y98 x1).bind fun y102 =>
    (f_M_isHeld a0 y102 x8 μ).bind fun y105 =>
    if y105 = 0 then (
      f_M_differs_J117 k9 a0 x1 x2 x3 x4 x5 x7 x8 s0 a0 μ)
    else
    f_M_differs_J138 k9 a0 x1 x2 x3 x4 x5 x8 a0 s0.toInt64 μ)
  else
  f_M_differs_J117 k9 a0 x1 x2 x3 x4 x5 x7 x8 s0 a0 μ
def f_M_differs_J48 (k9 : Int64 → Int32 → Int32 → MM → Option (Int64 × MM))  (a0 : Nat) (x1 : Int32) (x2 : Int32) (x3 : Int32) (x4 : Int32) (x5 : Int64) (x7 : Int32) (x8 : Int32) (s0 : Nat) (s1 : Int32) (μ : MM) : Option (Int64 × MM) :=
  (pZ μ s0 1 67 s1).bind fun μ48 =>
  if x7 = (-1 : Int32) then (
    f_M_differs_J73 k9 a0 x1 x2 x3 x4 x5 x7 x8 (0 : Int32) μ48)
  else
  (rR μ48 a0 1 69).bind fun y62 =>
  (aI μ48 y62 (((24 : Int32) * x1) + x7)).bind fun y72 =>
  f_M_differs_J73 k9 a0 x1 x2 x3 x4 x5 x7 x8 y72 μ48
def f_M_differs_L9  (a0 : Nat) (x1 : Int32) (x2 : Int32) (x3 : Int32) (x4 : Int32) : Nat → Int64 → Int32 → Int32 → MM → Option (Int64 × MM)
  | 0 => fun _ _ _ _ => none
  | n + 1 => fun x5 x7 x8 μ => 
    if (24 : Int32) ≤ x8 then (
      some (x5, μ))
    else
    (f_M_isTaped a0 x1 x8 μ).bind fun y20 =>
    if y20 = 0 then (
      (f_M_differs_L9 a0 x1 x2 x3 x4 n) x5 x7 (x8 + (1 : Int32)) μ)
    else
    (f_M_listens a0 x1 x8 μ).bind fun μ33 =>
    if x7 = (-1 : Int32) then (
      f_M_differs_J48 (f_M_differs_L9 a0 x1 x2 x3 x4 n) a0 x1 x2 x3 x4 x5 x7 x8 a0 (0 : Int32) μ33)
    else
    f_M_differs_J48 (f_M_differs_L9 a0 x1 x2 x3 x4 n) a0 x1 x2 x3 x4 x5 x7 x8 a0 (1 : Int32) μ33
def f_M_differs (a0 : Nat) (x1 : Int32) (x2 : Int32) (x3 : Int32) (x4 : Int32) (μ : MM) : Option (Int64 × MM) :=
  (kO μ a0 1).bind fun _ =>
  f_M_differs_L9 a0 x1 x2 x3 x4 FU (0 : Int64) (-1 : Int32) (0 : Int32) μ
def f_M_fit_J20  (μ : MM) : Option (Int64 × MM) :=
  some ((-1 : Int64), μ)
def f_M_fit_L85  (a0 : Nat) (x1 : Int32) (x2 : Int32) : Nat → Int32 → Int64 → Int32 → MM → Option (Int64 × MM)
  | 0 => fun _ _ _ _ => none
  | n + 1 => fun x4 x5 x7 μ => 
    if (64 : Int32) ≤ x7 then (
      if x2 = 0 then (
        some ((x4 / (16 : Int32)).toInt64, μ))
      else
      if x2 = (1 : Int32) then (
        some ((irem (x4 / (4 : Int32)) (4 : Int32)).toInt64, μ))
      else
      if x2 = (2 : Int32) then (
        some ((irem x4 (4 : Int32)).toInt64, μ))
      else
      some (x5, μ))
    else
    (f_M_differs a0 x1 (x7 / (16 : Int32)) (irem (x7 / (4 : Int32)) (4 : Int32)) (irem x7 (4 : Int32)) μ).bind fun q109 =>
    if (lg_cmp q109.1 x5) < 0 then (
      (f_M_fit_L85 a0 x1 x2 n) x7 q109.1 (x7 + (1 : Int32)) q109.2)
    else
    (f_M_fit_L85 a0 x1 x2 n) x4 x5 (x7 + (1 : Int32)) q109.2
def f_M_fit_L29  (a0 : Nat) (x1 : Int32) (x2 : Int32) (μ : MM) : Nat → Int32 → Int32 → Option (Int64 × MM)
  | 0 => fun _ _ => none
  | n + 1 => fun x3 x4 => 
    if (24 : Int32) ≤ x4 then (
      if x3 = 0 then (
        some ((-2 : Int64), μ))
      else
      (f_M_plainly a0 μ).bind fun μ71 =>
      f_M_fit_L85 a0 x1 x2 FU (0 : Int32) (1000000000000000 : Int64) (1 : Int32) μ71)
    else
    if x3 = 0 then (
      (f_M_isTaped a0 x1 x4 μ).bind fun y44 =>
      if y44 = 0 then (
        (f_M_fit_L29 a0 x1 x2 μ n) (0 : Int32) (x4 + (1 : Int32)))
      else
      (f_M_fit_L29 a0 x1 x2 μ n) (1 : Int32) (x4 + (1 : Int32)))
    else
    (f_M_fit_L29 a0 x1 x2 μ n) (1 : Int32) (x4 + (1 : Int32))
def f_M_fit (a0 : Nat) (x1 : Int32) (x2 : Int32) (μ : MM) : Option (Int64 × MM) :=
  (kO μ a0 1).bind fun _ =>
  (f_M_isSinger a0 x1 μ).bind fun y2 =>
  if y2 = 0 then (
    f_M_fit_J20 μ)
  else
  (f_M_lies x2.toInt64 (0 : Int64) (3 : Int64)).bind fun y14 =>
  if y14 = 0 then (
    f_M_fit_J20 μ)
  else
  f_M_fit_L29 a0 x1 x2 μ FU (0 : Int32) (0 : Int32)
def f_X_minded (a0 : Nat) (x1 : Int32) (x2 : Int32) (x3 : Int32) (μ : MM) : Option (Int64 × MM) :=
  (kO μ a0 0).bind fun _ =>
  (rR μ a0 0 2).bind fun y1 =>
  (rR μ a0 0 1).bind fun y5 =>
  (rR μ y5 2 2).bind fun y8 =>
  (rR μ a0 0 1).bind fun y12 =>
  (rI μ y12 2 12).bind fun y15 =>
  (f_Si_sing y1 y8 y15 x3 (0 : Int32) μ).bind fun μ20 =>
  (rR μ20 a0 0 2).bind fun y26 =>
  (f_Si_sinking y26 μ20).bind fun y29 =>
  (f_Mt_abs_J y29).bind fun y32 =>
  (rR μ20 a0 0 2).bind fun y43 =>
  (f_Si_foulTogether y43 μ20).bind fun y46 =>
  some (((x1.toInt64 * (y32 / (1000 : Int64))) + (x2.toInt64 * (y46 / (1000 : Int64)))), μ20)
def f_X_mind_J52  (μ : MM) : Option (Int64 × MM) :=
  some ((-1 : Int64), μ)
def f_X_mind_J114  (x3 : Int32) (x5 : Int64) (x7 : Int32) (μ : MM) : Option (Int64 × MM) :=
  if x3 = (2 : Int32) then (
    some (x7.toInt64, μ))
  else
  some (x5, μ)
def f_X_mind_L71  (a0 : Nat) (x1 : Int32) (x2 : Int32) (x3 : Int32) : Nat → Int64 → Int32 → Int32 → MM → Option (Int64 × MM)
  | 0 => fun _ _ _ _ => none
  | n + 1 => fun x5 x7 x8 μ => 
    if (12 : Int32) ≤ x8 then (
      f_X_mind_J114 x3 x5 x7 μ)
    else
    if x3 ≤ 0 then (
      f_X_mind_J114 x3 x5 x7 μ)
    else
    (f_X_minded a0 x1 x2 x8 μ).bind fun q87 =>
    if 0 ≤ (lg_cmp q87.1 x5) then (
      (f_X_mind_L71 a0 x1 x2 x3 n) x5 x7 (x8 + (1 : Int32)) q87.2)
    else
    (f_X_mind_L71 a0 x1 x2 x3 n) q87.1 x8 (x8 + (1 : Int32)) q87.2
def f_X_mind_J34  (a0 : Nat) (x1 : Int32) (x2 : Int32) (x3 : Int32) (s0 : Int32) (μ : MM) : Option (Int64 × MM) :=
  if s0 = 0 then (
    f_X_mind_J52 μ)
  else
  (rR μ a0 0 1).bind fun y42 =>
  (f_Ch_firstBeat y42 μ).bind fun y45 =>
  if y45 = (-1 : Int32) then (
    f_X_mind_J52 μ)
  else
  (f_X_minded a0 x1 x2 (0 : Int32) μ).bind fun q60 =>
  f_X_mind_L71 a0 x1 x2 x3 FU q60.1 (0 : Int32) (1 : Int32) q60.2
def f_X_mind_J33  (a0 : Nat) (x1 : Int32) (x2 : Int32) (x3 : Int32) (μ : MM) : Option (Int64 × MM) :=
  f_X_mind_J34 a0 x1 x2 x3 (0 : Int32) μ
def f_X_mind (a0 : Nat) (x1 : Int32) (x2 : Int32) (x3 : Int32) (μ : MM) : Option (Int64 × MM) :=
  (kO μ a0 0).bind fun _ =>
  if x1 < 0 then (
    f_X_mind_J33 a0 x1 x2 x3 μ)
  else
  if (100 : Int32) < x1 then (
    f_X_mind_J33 a0 x1 x2 x3 μ)
  else
  if x2 < 0 then (
    f_X_mind_J33 a0 x1 x2 x3 μ)
  else
  if (100 : Int32) < x2 then (
    f_X_mind_J33 a0 x1 x2 x3 μ)
  else
  if x3 < 0 then (
    f_X_mind_J33 a0 x1 x2 x3 μ)
  else
  if (2 : Int32) < x3 then (
    f_X_mind_J33 a0 x1 x2 x3 μ)
  else
  f_X_mind_J34 a0 x1 x2 x3 (1 : Int32) μ
def f_M_minds (a0 : Nat) (x1 : Int32) (x2 : Int32) (μ : MM) : Option (Int64) :=
  (kO μ a0 1).bind fun _ =>
  (f_M_sunkNow a0 μ).bind fun y3 =>
  (f_M_plain y3).bind fun y6 =>
  (f_M_allFoul a0 μ).bind fun y17 =>
  some ((x1.toInt64 * (y6 / (1000 : Int64))) + (x2.toInt64 * (y17 / (1000 : Int64))))
def f_M_mind_J44  (μ : MM) : Option (Int64 × MM) :=
  some ((-1 : Int64), μ)
def f_M_mind_L77  (a0 : Nat) (x1 : Int32) (x2 : Int32) (x3 : Int32) : Nat → Int32 → Int64 → Int32 → MM → Option (Int64 × MM)
  | 0 => fun _ _ _ _ => none
  | n + 1 => fun x6 x7 x9 μ => 
    if (12 : Int32) ≤ x9 then (
      (pI μ a0 1 53 (0 : Int32)).bind fun μ129 =>
      if x3 = (1 : Int32) then (
        some (x7, μ129))
      else
      some (x6.toInt64, μ129))
    else
    (pI μ a0 1 53 x9).bind fun μ87 =>
    (f_M_isSung a0 μ87).bind fun μ91 =>
    (f_M_minds a0 x1 x2 μ91).bind fun y97 =>
    if (lg_cmp y97 x7) < 0 then (
      (f_M_mind_L77 a0 x1 x2 x3 n) x9 y97 (x9 + (1 : Int32)) μ91)
    else
    (f_M_mind_L77 a0 x1 x2 x3 n) x6 x7 (x9 + (1 : Int32)) μ91
def f_M_mind (a0 : Nat) (x1 : Int32) (x2 : Int32) (x3 : Int32) (μ : MM) : Option (Int64 × MM) :=
  (kO μ a0 1).bind fun _ =>
  (f_M_lies x1.toInt64 (0 : Int64) (100 : Int64)).bind fun y6 =>
  if y6 = 0 then (
    f_M_mind_J44 μ)
  else
  (f_M_lies x2.toInt64 (0 : Int64) (100 : Int64)).bind fun y18 =>
  if y18 = 0 then (
    f_M_mind_J44 μ)
  else
  (f_M_lies x3.toInt64 (0 : Int64) (2 : Int64)).bind fun y30 =>
  if y30 = 0 then (
    f_M_mind_J44 μ)
  else
  (f_M_firstSung a0 μ).bind fun y37 =>
  if y37 = (-1 : Int32) then (
    f_M_mind_J44 μ)
  else
  (f_M_plainly a0 μ).bind fun μ49 =>
  (f_M_minds a0 x1 x2 μ49).bind fun y55 =>
  if x3 = 0 then (
    some (y55, μ49))
  else
  f_M_mind_L77 a0 x1 x2 x3 FU (0 : Int32) y55 (1 : Int32) μ49
def f_Rl_number (a0 : Nat) (x1 : Int32) (μ : MM) : Option (Int32) :=
  (kO μ a0 7).bind fun _ =>
  if x1 < 0 then (
    some (0 : Int32))
  else
  (rI μ a0 7 1).bind fun y6 =>
  if x1 < (y6 / (4 : Int32)) then (
    (rR μ a0 7 0).bind fun y17 =>
    (aI μ y17 ((4 : Int32) * x1)).bind fun y23 =>
    (rR μ a0 7 0).bind fun y28 =>
    (aI μ y28 (((4 : Int32) * x1) + (1 : Int32))).bind fun y36 =>
    (rR μ a0 7 0).bind fun y42 =>
    (aI μ y42 (((4 : Int32) * x1) + (2 : Int32))).bind fun y50 =>
    (rR μ a0 7 0).bind fun y56 =>
    (aI μ y56 (((4 : Int32) * x1) + (3 : Int32))).bind fun y64 =>
    some ((((ishl y23 (24 : Int32)) ||| (ishl y36 (16 : Int32))) ||| (ishl y50 (8 : Int32))) ||| y64))
  else
  some (0 : Int32)
def f_X_firstWrong_J60  (x2 : Int32) (μ : MM) : Option (Int32) :=
  some ((3 : Int32) * x2)
def f_X_firstWrong_L18 (k4 : Int32 → Int32 → Option (Int32))  (a0 : Nat) (x1 : Int32) (x3 : Int32) (μ : MM) : Nat → Int32 → Int32 → Option (Int32)
  | 0 => fun _ _ => none
  | n + 1 => fun x2 x4 => 
    if (24 : Int32) ≤ x4 then (
      k4 x2 (x3 + (1 : Int32)))
    else
    (rR μ a0 0 1).bind fun y26 =>
    (f_Ch_sings y26 x3 x4 μ).bind fun y32 =>
    if y32 = 0 then (
      (f_X_firstWrong_L18 k4 a0 x1 x3 μ n) x2 (x4 + (1 : Int32)))
    else
    if x2 = x1 then (
      f_X_firstWrong_J60 x2 μ)
    else
    (rR μ a0 0 6).bind fun y47 =>
    (f_Rl_number y47 ((3 : Int32) * x2) μ).bind fun y53 =>
    if y53 = x3 then (
      (rR μ a0 0 6).bind fun y65 =>
      (f_Rl_number y65 (((3 : Int32) * x2) + (1 : Int32)) μ).bind fun y73 =>
      if y73 = x4 then (
        (rR μ a0 0 6).bind fun y88 =>
        (f_Rl_number y88 (((3 : Int32) * x2) + (2 : Int32)) μ).bind fun y96 =>
        (rR μ a0 0 2).bind fun y101 =>
        (f_Si_sung y101 x3 x4 μ).bind fun y107 =>
        if (lg_cmp y96.toInt64 y107) = 0 then (
          (f_X_firstWrong_L18 k4 a0 x1 x3 μ n) (x2 + (1 : Int32)) (x4 + (1 : Int32)))
        else
        some (((3 : Int32) * x2) + (2 : Int32)))
      else
      some (((3 : Int32) * x2) + (1 : Int32)))
    else
    f_X_firstWrong_J60 x2 μ
def f_X_firstWrong_L4  (a0 : Nat) (x1 : Int32) (μ : MM) : Nat → Int32 → Int32 → Option (Int32)
  | 0 => fun _ _ => none
  | n + 1 => fun x2 x3 => 
    (rR μ a0 0 1).bind fun y6 =>
    (rI μ y6 2 9).bind fun y9 =>
    if y9 ≤ x3 then (
      if x2 = x1 then (
        some (-1 : Int32))
      else
      some ((3 : Int32) * x2))
    else
    f_X_firstWrong_L18 (f_X_firstWrong_L4 a0 x1 μ n) a0 x1 x3 μ FU x2 (0 : Int32)
def f_X_firstWrong (a0 : Nat) (x1 : Int32) (μ : MM) : Option (Int32) :=
  (kO μ a0 0).bind fun _ =>
  f_X_firstWrong_L4 a0 x1 μ FU (0 : Int32) (0 : Int32)
def f_X_check (a0 : Nat) (x1 : Int32) (μ : MM) : Option (Int32 × MM) :=
  (kO μ a0 0).bind fun _ =>
  if x1 < 0 then (
    some ((-2 : Int32), μ))
  else
  (rR μ a0 0 6).bind fun y6 =>
  (rI μ y6 7 1).bind fun y9 =>
  if x1 ≤ (y9 / (12 : Int32)) then (
    (rR μ a0 0 2).bind fun y22 =>
    (f_Si_asTold y22 μ).bind fun μ25 =>
    (f_X_firstWrong a0 x1 μ25).bind fun y30 =>
    (rR μ25 a0 0 6).bind fun y35 =>
    (pI μ25 y35 7 1 (0 : Int32)).bind fun μ39 =>
    some (y30, μ39))
  else
  some ((-2 : Int32), μ)
def f_M_numberAt_L4  (a0 : Nat) (x1 : Int32) (μ : MM) : Nat → Int32 → Int32 → Option (Int32)
  | 0 => fun _ _ => none
  | n + 1 => fun x2 x3 => 
    if (4 : Int32) ≤ x3 then (
      some x2)
    else
    (rR μ a0 1 0).bind fun y14 =>
    (aB μ y14 (((4 : Int32) * x1) + x3)).bind fun y22 =>
    (f_M_numberAt_L4 a0 x1 μ n) ((ishl x2 (8 : Int32)) ||| (y22 &&& (255 : Int32))) (x3 + (1 : Int32))
def f_M_numberAt (a0 : Nat) (x1 : Int32) (μ : MM) : Option (Int32) :=
  (kO μ a0 1).bind fun _ =>
  f_M_numberAt_L4 a0 x1 μ FU (0 : Int32) (0 : Int32)
def f_M_check_L42 (k31 : Int32 → Int32 → Option (Int32 × MM))  (a0 : Nat) (x1 : Int32) (x3 : Int32) (μ : MM) : Nat → Int32 → Int32 → Option (Int32 × MM)
  | 0 => fun _ _ => none
  | n + 1 => fun x2 x4 => 
    if (24 : Int32) ≤ x4 then (
      k31 x2 (x3 + (1 : Int32)))
    else
    (f_M_sings a0 x3 x4 μ).bind fun y53 =>
    if y53 = 0 then (
      (f_M_check_L42 k31 a0 x1 x3 μ n) x2 (x4 + (1 : Int32)))
    else
    if x2 = x1 then (
      some (((3 : Int32) * x1), μ))
    else
    (f_M_numberAt a0 ((3 : Int32) * x2) μ).bind fun y75 =>
    if y75 = x3 then (
      (f_M_numberAt a0 (((3 : Int32) * x2) + (1 : Int32)) μ).bind fun y92 =>
      if y92 = x4 then (
        (f_M_numberAt a0 (((3 : Int32) * x2) + (2 : Int32)) μ).bind fun y112 =>
        (rR μ a0 1 54).bind fun y116 =>
        (aI μ y116 (((24 : Int32) * x3) + x4)).bind fun y126 =>
        if y112 = y126 then (
          (f_M_check_L42 k31 a0 x1 x3 μ n) (x2 + (1 : Int32)) (x4 + (1 : Int32)))
        else
        some ((((3 : Int32) * x2) + (2 : Int32)), μ))
      else
      some ((((3 : Int32) * x2) + (1 : Int32)), μ))
    else
    some (((3 : Int32) * x2), μ)
def f_M_check_L31  (a0 : Nat) (x1 : Int32) (μ : MM) : Nat → Int32 → Int32 → Option (Int32 × MM)
  | 0 => fun _ _ => none
  | n + 1 => fun x2 x3 => 
    (rI μ a0 1 18).bind fun y33 =>
    if y33 ≤ x3 then (
      if x2 = x1 then (
        some ((-1 : Int32), μ))
      else
      some (((3 : Int32) * x2), μ))
    else
    f_M_check_L42 (f_M_check_L31 a0 x1 μ n) a0 x1 x3 μ FU x2 (0 : Int32)
def f_M_check (a0 : Nat) (x1 : Int32) (μ : MM) : Option (Int32 × MM) :=
  (kO μ a0 1).bind fun _ =>
  if x1 < 0 then (
    some ((-2 : Int32), μ))
  else
  (rI μ a0 1 1).bind fun y6 =>
  if x1 ≤ (y6 / (12 : Int32)) then (
    (pI μ a0 1 1 (0 : Int32)).bind fun μ20 =>
    (f_M_plainly a0 μ20).bind fun μ24 =>
    f_M_check_L31 a0 x1 μ24 FU (0 : Int32) (0 : Int32))
  else
  some ((-2 : Int32), μ)
def f_Sc_noteCount_L4  (a0 : Nat) (μ : MM) : Nat → Int32 → Int32 → Option (Int32)
  | 0 => fun _ _ => none
  | n + 1 => fun x1 x2 => 
    if (144 : Int32) ≤ x2 then (
      some x1)
    else
    (rR μ a0 8 0).bind fun y13 =>
    (aI μ y13 x2).bind fun y17 =>
    if y17 = (-1 : Int32) then (
      (f_Sc_noteCount_L4 a0 μ n) (x1 + (0 : Int32)) (x2 + (1 : Int32)))
    else
    (f_Sc_noteCount_L4 a0 μ n) (x1 + (1 : Int32)) (x2 + (1 : Int32))
def f_Sc_noteCount (a0 : Nat) (μ : MM) : Option (Int32) :=
  (kO μ a0 8).bind fun _ =>
  f_Sc_noteCount_L4 a0 μ FU (0 : Int32) (0 : Int32)
def f_Sc_linkCount_L4  (a0 : Nat) (μ : MM) : Nat → Int32 → Int32 → Option (Int32)
  | 0 => fun _ _ => none
  | n + 1 => fun x1 x2 => 
    if (24 : Int32) ≤ x2 then (
      some x1)
    else
    (rR μ a0 8 4).bind fun y12 =>
    (aI μ y12 x2).bind fun y16 =>
    if y16 = (-1 : Int32) then (
      (f_Sc_linkCount_L4 a0 μ n) (x1 + (0 : Int32)) (x2 + (1 : Int32)))
    else
    (f_Sc_linkCount_L4 a0 μ n) (x1 + (1 : Int32)) (x2 + (1 : Int32))
def f_Sc_linkCount (a0 : Nat) (μ : MM) : Option (Int32) :=
  (kO μ a0 8).bind fun _ =>
  f_Sc_linkCount_L4 a0 μ FU (0 : Int32) (0 : Int32)
def f_In_bitCount (x0 : Int32) : Option (Int32) :=
  some ((((((((x0 - ((iushr x0 (1 : Int32)) &&& (1431655765 : Int32))) &&& (858993459 : Int32)) + ((iushr (x0 - ((iushr x0 (1 : Int32)) &&& (1431655765 : Int32))) (2 : Int32)) &&& (858993459 : Int32))) + (iushr (((x0 - ((iushr x0 (1 : Int32)) &&& (1431655765 : Int32))) &&& (858993459 : Int32)) + ((iushr (x0 - ((iushr x0 (1 : Int32)) &&& (1431655765 : Int32))) (2 : Int32)) &&& (858993459 : Int32))) (4 : Int32))) &&& (252645135 : Int32)) + (iushr (((((x0 - ((iushr x0 (1 : Int32)) &&& (1431655765 : Int32))) &&& (858993459 : Int32)) + ((iushr (x0 - ((iushr x0 (1 : Int32)) &&& (1431655765 : Int32))) (2 : Int32)) &&& (858993459 : Int32))) + (iushr (((x0 - ((iushr x0 (1 : Int32)) &&& (1431655765 : Int32))) &&& (858993459 : Int32)) + ((iushr (x0 - ((iushr x0 (1 : Int32)) &&& (1431655765 : Int32))) (2 : Int32)) &&& (858993459 : Int32))) (4 : Int32))) &&& (252645135 : Int32)) (8 : Int32))) + (iushr ((((((x0 - ((iushr x0 (1 : Int32)) &&& (1431655765 : Int32))) &&& (858993459 : Int32)) + ((iushr (x0 - ((iushr x0 (1 : Int32)) &&& (1431655765 : Int32))) (2 : Int32)) &&& (858993459 : Int32))) + (iushr (((x0 - ((iushr x0 (1 : Int32)) &&& (1431655765 : Int32))) &&& (858993459 : Int32)) + ((iushr (x0 - ((iushr x0 (1 : Int32)) &&& (1431655765 : Int32))) (2 : Int32)) &&& (858993459 : Int32))) (4 : Int32))) &&& (252645135 : Int32)) + (iushr (((((x0 - ((iushr x0 (1 : Int32)) &&& (1431655765 : Int32))) &&& (858993459 : Int32)) + ((iushr (x0 - ((iushr x0 (1 : Int32)) &&& (1431655765 : Int32))) (2 : Int32)) &&& (858993459 : Int32))) + (iushr (((x0 - ((iushr x0 (1 : Int32)) &&& (1431655765 : Int32))) &&& (858993459 : Int32)) + ((iushr (x0 - ((iushr x0 (1 : Int32)) &&& (1431655765 : Int32))) (2 : Int32)) &&& (858993459 : Int32))) (4 : Int32))) &&& (252645135 : Int32)) (8 : Int32))) (16 : Int32))) &&& (63 : Int32))
def f_X_count (a0 : Nat) (x1 : Int32) (μ : MM) : Option (Int32) :=
  (kO μ a0 0).bind fun _ =>
  if x1 = (0 : Int32) then (
    (rR μ a0 0 1).bind fun y49 =>
    (rI μ y49 2 9).bind fun y52 =>
    some y52)
  else
  if x1 = (1 : Int32) then (
    (rR μ a0 0 6).bind fun y57 =>
    (rI μ y57 7 1).bind fun y60 =>
    some y60)
  else
  if x1 = (2 : Int32) then (
    (rR μ a0 0 1).bind fun y65 =>
    (rR μ y65 2 8).bind fun y68 =>
    (rI μ y68 5 7).bind fun y71 =>
    some y71)
  else
  if x1 = (3 : Int32) then (
    (rR μ a0 0 0).bind fun y76 =>
    (f_Sc_noteCount y76 μ).bind fun y79 =>
    some y79)
  else
  if x1 = (4 : Int32) then (
    (rR μ a0 0 0).bind fun y84 =>
    (f_Sc_linkCount y84 μ).bind fun y87 =>
    some y87)
  else
  if x1 = (5 : Int32) then (
    (rR μ a0 0 1).bind fun y92 =>
    (rI μ y92 2 10).bind fun y95 =>
    some y95)
  else
  if x1 = (6 : Int32) then (
    (rR μ a0 0 1).bind fun y100 =>
    (rI μ y100 2 11).bind fun y103 =>
    some y103)
  else
  if x1 = (7 : Int32) then (
    (rR μ a0 0 1).bind fun y108 =>
    (rI μ y108 2 12).bind fun y111 =>
    (f_In_bitCount y111).bind fun y114 =>
    some y114)
  else
  if x1 < (10 : Int32) then (
    some (-1 : Int32))
  else
  (rR μ a0 0 1).bind fun y125 =>
  (f_Ch_has y125 (x1 - (10 : Int32)) μ).bind fun y132 =>
  if y132 = 0 then (
    some (-1 : Int32))
  else
  (rR μ a0 0 1).bind fun y139 =>
  (rR μ y139 2 2).bind fun y142 =>
  (aI μ y142 (x1 - (10 : Int32))).bind fun y149 =>
  some y149
def f_M_sizeOf_L4  : Nat → Int32 → Int32 → Option (Int32)
  | 0 => fun _ _ => none
  | n + 1 => fun x1 x2 => 
    if x2 = 0 then (
      some x1)
    else
    (f_M_sizeOf_L4 n) (x1 + (1 : Int32)) (x2 &&& (x2 - (1 : Int32)))
def f_M_sizeOf (x0 : Int32) : Option (Int32) :=
  f_M_sizeOf_L4 FU (0 : Int32) x0
def f_M_count_L64  (a0 : Nat) (x1 : Int32) (x2 : Int32) (μ : MM) : Nat → Int32 → Int32 → Option (Int32)
  | 0 => fun _ _ => none
  | n + 1 => fun x3 x4 => 
    if (24 : Int32) ≤ x4 then (
      if x1 = (0 : Int32) then (
        (rI μ a0 1 18).bind fun y145 =>
        some y145)
      else
      if x1 = (1 : Int32) then (
        (rI μ a0 1 1).bind fun y150 =>
        some y150)
      else
      if x1 = (2 : Int32) then (
        (rI μ a0 1 27).bind fun y155 =>
        some y155)
      else
      if x1 = (3 : Int32) then (
        some x2)
      else
      if x1 = (4 : Int32) then (
        some x3)
      else
      if x1 = (5 : Int32) then (
        (rI μ a0 1 19).bind fun y164 =>
        some y164)
      else
      if x1 = (6 : Int32) then (
        (rI μ a0 1 20).bind fun y169 =>
        some y169)
      else
      if x1 = (7 : Int32) then (
        (rI μ a0 1 21).bind fun y174 =>
        (f_M_sizeOf y174).bind fun y177 =>
        some y177)
      else
      some (-1 : Int32))
    else
    (rR μ a0 1 7).bind fun y73 =>
    (aI μ y73 x4).bind fun y78 =>
    if y78 = (-1 : Int32) then (
      (f_M_count_L64 a0 x1 x2 μ n) (x3 + (0 : Int32)) (x4 + (1 : Int32)))
    else
    (f_M_count_L64 a0 x1 x2 μ n) (x3 + (1 : Int32)) (x4 + (1 : Int32))
def f_M_count_L28  (a0 : Nat) (x1 : Int32) (x3 : Int32) (μ : MM) : Nat → Int32 → Int32 → Option (Int32)
  | 0 => fun _ _ => none
  | n + 1 => fun x2 x4 => 
    if (144 : Int32) ≤ x4 then (
      f_M_count_L64 a0 x1 x2 μ FU x3 (0 : Int32))
    else
    (rR μ a0 1 2).bind fun y38 =>
    (aI μ y38 x4).bind fun y43 =>
    if y43 = (-1 : Int32) then (
      (f_M_count_L28 a0 x1 x3 μ n) (x2 + (0 : Int32)) (x4 + (1 : Int32)))
    else
    (f_M_count_L28 a0 x1 x3 μ n) (x2 + (1 : Int32)) (x4 + (1 : Int32))
def f_M_count (a0 : Nat) (x1 : Int32) (μ : MM) : Option (Int32) :=
  (kO μ a0 1).bind fun _ =>
  (f_M_isSinger a0 (x1 - (10 : Int32)) μ).bind fun y5 =>
  if y5 = 0 then (
    f_M_count_L28 a0 x1 (0 : Int32) μ FU (0 : Int32) (0 : Int32))
  else
  (rR μ a0 1 23).bind fun y12 =>
  (aI μ y12 (x1 - (10 : Int32))).bind fun y19 =>
  some y19
