/-! PRINTED by wip/gen/gen1.py: a loop goes round -/
theorem e_Ar_fill_AI_L5  {a0 : Nat} {x1 : Int32} {x3 : Int32} {n : Nat} {x2 : Int32} {μ : MM} : f_Ar_fill_AI_L5 a0 x1 x3 (n + 1) x2 μ = (
  if x3 ≤ x2 then (
    some μ)
  else
  (uI μ a0 x2 x1).bind fun μ13 =>
  (f_Ar_fill_AI_L5 a0 x1 x3 n) (x2 + (1 : Int32)) μ13) := rfl
theorem e_M_init_L410  {a0 : Nat} {n : Nat} {x1 : Int32} {μ : MM} : f_M_init_L410 a0 (n + 1) x1 μ = (
  if (192 : Int32) ≤ x1 then (
    some μ)
  else
  (rR μ a0 1 70).bind fun y418 =>
  (uB μ y418 x1 (0 : Int32)).bind fun μ423 =>
  (f_M_init_L410 a0 n) (x1 + (1 : Int32)) μ423) := rfl
theorem e_M_init_L389  {a0 : Nat} {n : Nat} {x1 : Int32} {μ : MM} : f_M_init_L389 a0 (n + 1) x1 μ = (
  if (24 : Int32) ≤ x1 then (
    f_M_init_L410 a0 FU (0 : Int32) μ)
  else
  (rR μ a0 1 7).bind fun y396 =>
  (uI μ y396 x1 (-1 : Int32)).bind fun μ401 =>
  (f_M_init_L389 a0 n) (x1 + (1 : Int32)) μ401) := rfl
theorem e_M_init_L367  {a0 : Nat} {n : Nat} {x1 : Int32} {μ : MM} : f_M_init_L367 a0 (n + 1) x1 μ = (
  if (144 : Int32) ≤ x1 then (
    f_M_init_L389 a0 FU (0 : Int32) μ)
  else
  (rR μ a0 1 2).bind fun y375 =>
  (uI μ y375 x1 (-1 : Int32)).bind fun μ380 =>
  (f_M_init_L367 a0 n) (x1 + (1 : Int32)) μ380) := rfl
theorem e_Fr_ofNumber_L21  {n : Nat} {x1 : Int32} {x2 : Int32} {x3 : Int32} : f_Fr_ofNumber_L21 (n + 1) x1 x2 x3 = (
  if (2000 : Int32) ≤ x3 then (
    some x2)
  else
  if x1 ≤ (1 : Int32) then (
    some x2)
  else
  if (irem x1 (2 : Int32)) = 0 then (
    (f_Fr_ofNumber_L21 n) (x1 / (2 : Int32)) (x2 + (1048576 : Int32)) (x3 + (1 : Int32)))
  else
  if (irem x1 (3 : Int32)) = 0 then (
    (f_Fr_ofNumber_L21 n) (x1 / (3 : Int32)) (x2 + (1024 : Int32)) (x3 + (1 : Int32)))
  else
  if (irem x1 (5 : Int32)) = 0 then (
    (f_Fr_ofNumber_L21 n) (x1 / (5 : Int32)) (x2 + (1 : Int32)) (x3 + (1 : Int32)))
  else
  some (-2147483648 : Int32)) := rfl
theorem e_Sc_tune_L2  {a0 : Nat} {n : Nat} {x1 : Int32} {μ : MM} : f_Sc_tune_L2 a0 (n + 1) x1 μ = (
  if (24 : Int32) ≤ x1 then (
    some μ)
  else
  (rR μ a0 8 6).bind fun y9 =>
  (rR μ a0 8 6).bind fun y14 =>
  (aI μ y14 (x1 - (1 : Int32))).bind fun y20 =>
  (rR μ a0 8 4).bind fun y23 =>
  (aI μ y23 x1).bind fun y27 =>
  (f_Sc_shift a0 y27 x1 μ).bind fun y29 =>
  (uI μ y9 x1 (y20 + y29)).bind fun μ33 =>
  (rR μ33 a0 8 5).bind fun y35 =>
  (rR μ33 a0 8 6).bind fun y40 =>
  (aI μ33 y40 x1).bind fun y44 =>
  (f_Fr_mills y44).bind fun y45 =>
  (uI μ33 y35 x1 y45).bind fun μ48 =>
  (f_Sc_tune_L2 a0 n) (x1 + (1 : Int32)) μ48) := rfl
theorem e_Sc_put_L50  {a0 : Nat} {x1 : Int32} {x2 : Int32} {n : Nat} {x5 : Int32} {μ : MM} : f_Sc_put_L50 a0 x1 x2 (n + 1) x5 μ = (
  if (x2 + (1 : Int32)) < x5 then (
    f_Sc_put_J100 a0 μ)
  else
  if (24 : Int32) ≤ x5 then (
    f_Sc_put_J100 a0 μ)
  else
  (rR μ a0 8 4).bind fun y66 =>
  (aI μ y66 x5).bind fun y71 =>
  if y71 = x1 then (
    (f_Sc_holds a0 x1 x5 μ).bind fun y80 =>
    if y80 = 0 then (
      (rR μ a0 8 4).bind fun y87 =>
      (uI μ y87 x5 (-1 : Int32)).bind fun μ93 =>
      (f_Sc_put_L50 a0 x1 x2 n) (x5 + (1 : Int32)) μ93)
    else
    (f_Sc_put_L50 a0 x1 x2 n) (x5 + (1 : Int32)) μ)
  else
  (f_Sc_put_L50 a0 x1 x2 n) (x5 + (1 : Int32)) μ) := rfl
theorem e_M_bare_L28  {n : Nat} {x1 : Int32} : f_M_bare_L28 (n + 1) x1 = (
  if (irem x1 (5 : Int32)) = 0 then (
    (f_M_bare_L28 n) (x1 / (5 : Int32)))
  else
  some x1) := rfl
theorem e_M_bare_L15  {n : Nat} {x1 : Int32} : f_M_bare_L15 (n + 1) x1 = (
  if (irem x1 (3 : Int32)) = 0 then (
    (f_M_bare_L15 n) (x1 / (3 : Int32)))
  else
  f_M_bare_L28 FU x1) := rfl
theorem e_M_bare_L2  {n : Nat} {x1 : Int32} : f_M_bare_L2 (n + 1) x1 = (
  if (irem x1 (2 : Int32)) = 0 then (
    (f_M_bare_L2 n) (x1 / (2 : Int32)))
  else
  f_M_bare_L15 FU x1) := rfl
theorem e_M_powerOf_L4  {x1 : Int32} {n : Nat} {x2 : Int32} {x3 : Int32} : f_M_powerOf_L4 x1 (n + 1) x2 x3 = (
  (gd x1).bind fun u6 =>
  if (irem x3 x1) = 0 then (
    (gd x1).bind fun u12 =>
    (f_M_powerOf_L4 x1 n) (x2 + (1 : Int32)) (x3 / x1))
  else
  some x2) := rfl
theorem e_M_falls_L2  {a0 : Nat} {x1 : Int32} {x2 : Int32} {n : Nat} {x3 : Int32} {μ : MM} : f_M_falls_L2 a0 x1 x2 (n + 1) x3 μ = (
  if (24 : Int32) ≤ x3 then (
    some μ)
  else
  if (x2 + (1 : Int32)) < x3 then (
    some μ)
  else
  (rR μ a0 1 7).bind fun y16 =>
  (aI μ y16 x3).bind fun y20 =>
  if y20 = x1 then (
    (f_M_isHeld a0 x1 x3 μ).bind fun y28 =>
    if y28 = 0 then (
      (rR μ a0 1 7).bind fun y35 =>
      (uI μ y35 x3 (-1 : Int32)).bind fun μ40 =>
      (f_M_falls_L2 a0 x1 x2 n) (x3 + (1 : Int32)) μ40)
    else
    (f_M_falls_L2 a0 x1 x2 n) (x3 + (1 : Int32)) μ)
  else
  (f_M_falls_L2 a0 x1 x2 n) (x3 + (1 : Int32)) μ) := rfl
theorem e_Sc_heldIn_L4  {a0 : Nat} {x1 : Int32} {μ : MM} {n : Nat} {x2 : Int32} {x3 : Int32} : f_Sc_heldIn_L4 a0 x1 μ (n + 1) x2 x3 = (
  if (6 : Int32) ≤ x3 then (
    some x2)
  else
  (f_Sc_holds a0 x3 x1 μ).bind fun y14 =>
  if y14 = 0 then (
    f_Sc_heldIn_J27 (f_Sc_heldIn_L4 a0 x1 μ n) a0 x1 x3 x2 (0 : Int32) μ)
  else
  f_Sc_heldIn_J27 (f_Sc_heldIn_L4 a0 x1 μ n) a0 x1 x3 x2 (ishl (1 : Int32) x3) μ) := rfl
theorem e_Sc_tornIn_L4  {a0 : Nat} {x1 : Int32} {μ : MM} {n : Nat} {x2 : Int32} {x3 : Int32} : f_Sc_tornIn_L4 a0 x1 μ (n + 1) x2 x3 = (
  if (6 : Int32) ≤ x3 then (
    some x2)
  else
  (f_Sc_tear a0 x3 x1 μ).bind fun y14 =>
  if y14 = 0 then (
    f_Sc_tornIn_J27 (f_Sc_tornIn_L4 a0 x1 μ n) a0 x1 x3 x2 (0 : Int32) μ)
  else
  f_Sc_tornIn_J27 (f_Sc_tornIn_L4 a0 x1 μ n) a0 x1 x3 x2 (ishl (1 : Int32) x3) μ) := rfl
theorem e_M_goesTo_L17  {a0 : Nat} {x1 : Int32} {n : Nat} {x2 : Int32} {μ : MM} : f_M_goesTo_L17 a0 x1 (n + 1) x2 μ = (
  if x1 < x2 then (
    some μ)
  else
  (rI μ a0 1 8).bind fun y24 =>
  (rR μ a0 1 3).bind fun y29 =>
  (rR μ a0 1 7).bind fun y33 =>
  (aI μ y33 x2).bind fun y37 =>
  (f_M_leap a0 y29 y37 x2 μ).bind fun y39 =>
  (pI μ a0 1 8 (y24 + y39)).bind fun μ43 =>
  (rI μ43 a0 1 9).bind fun y48 =>
  (rR μ43 a0 1 4).bind fun y53 =>
  (rR μ43 a0 1 7).bind fun y57 =>
  (aI μ43 y57 x2).bind fun y61 =>
  (f_M_leap a0 y53 y61 x2 μ43).bind fun y63 =>
  (pI μ43 a0 1 9 (y48 + y63)).bind fun μ67 =>
  (rI μ67 a0 1 10).bind fun y72 =>
  (rR μ67 a0 1 5).bind fun y77 =>
  (rR μ67 a0 1 7).bind fun y81 =>
  (aI μ67 y81 x2).bind fun y85 =>
  (f_M_leap a0 y77 y85 x2 μ67).bind fun y87 =>
  (pI μ67 a0 1 10 (y72 + y87)).bind fun μ91 =>
  (f_M_goesTo_L17 a0 x1 n) (x2 + (1 : Int32)) μ91) := rfl
theorem e_M_keynote_L37  {a0 : Nat} {x1 : Int32} {x2 : Int32} {x3 : Int32} {μ : MM} {n : Nat} {x4 : Int32} {x5 : Int32} {x6 : Int32} : f_M_keynote_L37 a0 x1 x2 x3 μ (n + 1) x4 x5 x6 = (
  if (6 : Int32) ≤ x6 then (
    if x2 = (0 : Int32) then (
      some (x3, μ))
    else
    if x2 = (1 : Int32) then (
      (rI μ a0 1 8).bind fun y143 =>
      some (y143, μ))
    else
    if x2 = (2 : Int32) then (
      (rI μ a0 1 9).bind fun y148 =>
      some (y148, μ))
    else
    if x2 = (3 : Int32) then (
      (rI μ a0 1 10).bind fun y153 =>
      some (y153, μ))
    else
    if x2 = (4 : Int32) then (
      (rR μ a0 1 7).bind fun y158 =>
      (aI μ y158 x1).bind fun y162 =>
      some (y162, μ))
    else
    if x2 = (5 : Int32) then (
      some (x4, μ))
    else
    some (x5, μ))
  else
  (f_M_isHeld a0 x6 x1 μ).bind fun y48 =>
  if y48 = 0 then (
    (f_M_keynote_L37 a0 x1 x2 x3 μ n) x4 x5 (x6 + (1 : Int32)))
  else
  (rR μ a0 1 7).bind fun y73 =>
  (aI μ y73 x1).bind fun y77 =>
  (f_M_tornBy a0 x6 x1 y77 μ).bind fun y78 =>
  if y78 = 0 then (
    f_M_keynote_J92 (f_M_keynote_L37 a0 x1 x2 x3 μ n) a0 x1 x2 x3 (x4 ||| (ishl (1 : Int32) x6)) x6 x5 (0 : Int32) μ)
  else
  f_M_keynote_J92 (f_M_keynote_L37 a0 x1 x2 x3 μ n) a0 x1 x2 x3 (x4 ||| (ishl (1 : Int32) x6)) x6 x5 (ishl (1 : Int32) x6) μ) := rfl
theorem e_Sc_soundsIn_L2  {a0 : Nat} {x1 : Int32} {μ : MM} {n : Nat} {x2 : Int32} : f_Sc_soundsIn_L2 a0 x1 μ (n + 1) x2 = (
  if (6 : Int32) ≤ x2 then (
    some (0 : Int32))
  else
  (f_Sc_sounds a0 x2 x1 μ).bind fun y11 =>
  if y11 = 0 then (
    (f_Sc_soundsIn_L2 a0 x1 μ n) (x2 + (1 : Int32)))
  else
  some (1 : Int32)) := rfl
theorem e_Sc_lastBeat_L3  {a0 : Nat} {μ : MM} {n : Nat} {x1 : Int32} : f_Sc_lastBeat_L3 a0 μ (n + 1) x1 = (
  if x1 < 0 then (
    some (-1 : Int32))
  else
  (f_Sc_soundsIn a0 x1 μ).bind fun y9 =>
  if y9 = 0 then (
    (f_Sc_lastBeat_L3 a0 μ n) (x1 + (-1 : Int32)))
  else
  some x1) := rfl
theorem e_Sc_foulnessBy_L5  {a0 : Nat} {x1 : Int32} {x2 : Int32} {μ : MM} {n : Nat} {x3 : Int32} {x4 : Int32} : f_Sc_foulnessBy_L5 a0 x1 x2 μ (n + 1) x3 x4 = (
  if (6 : Int32) ≤ x4 then (
    some x3)
  else
  (f_Sc_tearBy a0 x4 x1 x2 μ).bind fun y18 =>
  (f_Mt_abs_I y18).bind fun y21 =>
  (f_Sc_foulnessBy_L5 a0 x1 x2 μ n) (x3 + y21) (x4 + (1 : Int32))) := rfl
theorem e_Sc_foulness_L4  {a0 : Nat} {μ : MM} {n : Nat} {x1 : Int32} {x2 : Int32} : f_Sc_foulness_L4 a0 μ (n + 1) x1 x2 = (
  if (24 : Int32) ≤ x2 then (
    some x1)
  else
  (rR μ a0 8 5).bind fun y14 =>
  (aI μ y14 x2).bind fun y18 =>
  (rR μ a0 8 5).bind fun y20 =>
  (aI μ y20 (x2 - (1 : Int32))).bind fun y26 =>
  (f_Sc_foulnessBy a0 x2 (y18 - y26) μ).bind fun y28 =>
  (f_Sc_foulness_L4 a0 μ n) (x1 + y28) (x2 + (1 : Int32))) := rfl
theorem e_M_lastBeat_L12  {k4 : Int32 → Int32 → Option (Int32)} {a0 : Nat} {x2 : Int32} {μ : MM} {n : Nat} {x1 : Int32} {x3 : Int32} : f_M_lastBeat_L12 k4 a0 x2 μ (n + 1) x1 x3 = (
  if (6 : Int32) ≤ x3 then (
    k4 x1 (x2 + (1 : Int32)))
  else
  (f_M_isNote a0 x3 x2 μ).bind fun y21 =>
  if y21 = 0 then (
    (f_M_lastBeat_L12 k4 a0 x2 μ n) x1 (x3 + (1 : Int32)))
  else
  (f_M_lastBeat_L12 k4 a0 x2 μ n) x2 (x3 + (1 : Int32))) := rfl
theorem e_M_lastBeat_L4  {a0 : Nat} {μ : MM} {n : Nat} {x1 : Int32} {x2 : Int32} : f_M_lastBeat_L4 a0 μ (n + 1) x1 x2 = (
  if (24 : Int32) ≤ x2 then (
    some x1)
  else
  f_M_lastBeat_L12 (f_M_lastBeat_L4 a0 μ n) a0 x2 μ FU x1 (0 : Int32)) := rfl
theorem e_M_foulBy_L5  {a0 : Nat} {x1 : Int32} {x2 : Int32} {μ : MM} {n : Nat} {x3 : Int64} {x5 : Int32} : f_M_foulBy_L5 a0 x1 x2 μ (n + 1) x3 x5 = (
  if (6 : Int32) ≤ x5 then (
    some x3)
  else
  (f_M_isHeld a0 x5 x1 μ).bind fun y16 =>
  if y16 = 0 then (
    (f_M_foulBy_L5 a0 x1 x2 μ n) x3 (x5 + (1 : Int32)))
  else
  (f_M_tornBy a0 x5 x1 x2 μ).bind fun y28 =>
  (f_M_plain y28.toInt64).bind fun y32 =>
  (f_M_foulBy_L5 a0 x1 x2 μ n) (x3 + y32) (x5 + (1 : Int32))) := rfl
theorem e_M_sink_L42  {a0 : Nat} {x2 : Int32} {μ : MM} {n : Nat} {x3 : Int64} {x5 : Int32} : f_M_sink_L42 a0 x2 μ (n + 1) x3 x5 = (
  if x2 < x5 then (
    some (x3.toInt32, μ))
  else
  (rR μ a0 1 7).bind fun y53 =>
  (aI μ y53 x5).bind fun y58 =>
  (f_M_foulBy a0 x5 y58 μ).bind fun y59 =>
  (f_M_sink_L42 a0 x2 μ n) (x3 + y59) (x5 + (1 : Int32))) := rfl
theorem e_Wa_spread_L24  {a0 : Nat} {x1 : Int32} {x2 : Int32} {x3 : Int32} {x4 : Int32} {n : Nat} {x5 : Int32} {x6 : Int32} {x7 : Int32} {μ : MM} : f_Wa_spread_L24 a0 x1 x2 x3 x4 (n + 1) x5 x6 x7 μ = (
  if (300 : Int32) ≤ x7 then (
    f_Wa_spread_J179 a0 x1 x4 x5 x6 x7 μ)
  else
  (rR μ a0 11 3).bind fun y35 =>
  (aI μ y35 (x1 - (1 : Int32))).bind fun y41 =>
  if x5 < y41 then (
    f_Wa_spread_J56 (f_Wa_spread_L24 a0 x1 x2 x3 x4 n) a0 x1 x2 x3 x4 x5 x6 x7 μ)
  else
  (rR μ a0 11 3).bind fun y48 =>
  (aI μ y48 x1).bind fun y52 =>
  if y52 ≤ x6 then (
    f_Wa_spread_J179 a0 x1 x4 x5 x6 x7 μ)
  else
  f_Wa_spread_J56 (f_Wa_spread_L24 a0 x1 x2 x3 x4 n) a0 x1 x2 x3 x4 x5 x6 x7 μ) := rfl
theorem e_Wa_explore_L80  {k27 : Int32 → MM → Option (Int32 × MM)} {a0 : Nat} {x1 : Int32} {n : Nat} {x2 : Int32} {μ : MM} : f_Wa_explore_L80 k27 a0 x1 (n + 1) x2 μ = (
  if (6 : Int32) ≤ x2 then (
    k27 (x1 + (1 : Int32)) μ)
  else
  (rR μ a0 11 0).bind fun y87 =>
  (f_Sc_shift y87 x2 x1 μ).bind fun y92 =>
  (rR μ a0 11 5).bind fun y97 =>
  (uI μ y97 (((x1 * (7 : Int32)) + x2) + (1 : Int32)) y92).bind fun μ109 =>
  (rR μ109 a0 11 0).bind fun y111 =>
  (f_Sc_holds y111 x2 x1 μ109).bind fun y116 =>
  if y116 = 0 then (
    (f_Wa_explore_L80 k27 a0 x1 n) (x2 + (1 : Int32)) μ109)
  else
  (f_Wa_spread a0 x1 y92 μ109).bind fun q125 =>
  if q125.1 = 0 then (
    some ((0 : Int32), q125.2))
  else
  (f_Wa_explore_L80 k27 a0 x1 n) (x2 + (1 : Int32)) q125.2) := rfl
theorem e_Wa_explore_L27  {a0 : Nat} {n : Nat} {x1 : Int32} {μ : MM} : f_Wa_explore_L27 a0 (n + 1) x1 μ = (
  (rI μ a0 11 9).bind fun y29 =>
  if y29 < x1 then (
    (rI μ a0 11 9).bind fun y146 =>
    if y146 = (-1 : Int32) then (
      some ((0 : Int32), μ))
    else
    some ((1 : Int32), μ))
  else
  (rR μ a0 11 3).bind fun y36 =>
  (rR μ a0 11 3).bind fun y41 =>
  (aI μ y41 (x1 - (1 : Int32))).bind fun y47 =>
  (uI μ y36 x1 y47).bind fun μ48 =>
  (rR μ48 a0 11 1).bind fun y50 =>
  (rR μ48 a0 11 1).bind fun y61 =>
  (rR μ48 a0 11 3).bind fun y70 =>
  (aI μ48 y70 x1).bind fun y74 =>
  (cpI μ48 y50 ((x1 - (1 : Int32)) * (300 : Int32)) y61 (x1 * (300 : Int32)) y74).bind fun μ75 =>
  f_Wa_explore_L80 (f_Wa_explore_L27 a0 n) a0 x1 FU (0 : Int32) μ75) := rfl
theorem e_Wa_find_L2  {a0 : Nat} {x1 : Int32} {x2 : Int32} {μ : MM} {n : Nat} {x3 : Int32} : f_Wa_find_L2 a0 x1 x2 μ (n + 1) x3 = (
  if x1 < 0 then (
    some (-1 : Int32))
  else
  if (24 : Int32) ≤ x1 then (
    some (-1 : Int32))
  else
  (rR μ a0 11 3).bind fun y14 =>
  (aI μ y14 x1).bind fun y18 =>
  if y18 ≤ x3 then (
    some (-1 : Int32))
  else
  (rR μ a0 11 1).bind fun y23 =>
  (aI μ y23 ((x1 * (300 : Int32)) + x3)).bind fun y33 =>
  if y33 = x2 then (
    some ((x1 * (300 : Int32)) + x3))
  else
  (f_Wa_find_L2 a0 x1 x2 μ n) (x3 + (1 : Int32))) := rfl
theorem e_Wa_price_L12  {k2 : Int32 → MM → Option (MM)} {a0 : Nat} {x1 : Int32} {x2 : Int32} {n : Nat} {x3 : Int32} {μ : MM} : f_Wa_price_L12 k2 a0 x1 x2 (n + 1) x3 μ = (
  if (7 : Int32) ≤ x3 then (
    k2 (x2 + (1 : Int32)) μ)
  else
  if x3 = 0 then (
    f_Wa_price_J29 k2 (f_Wa_price_L12 k2 a0 x1 x2 n) a0 x1 x2 x3 (-1 : Int32) μ)
  else
  f_Wa_price_J29 k2 (f_Wa_price_L12 k2 a0 x1 x2 n) a0 x1 x2 x3 (x3 - (1 : Int32)) μ) := rfl
theorem e_Wa_price_L2  {a0 : Nat} {x1 : Int32} {n : Nat} {x2 : Int32} {μ : MM} : f_Wa_price_L2 a0 x1 (n + 1) x2 μ = (
  (rI μ a0 11 9).bind fun y4 =>
  if y4 < x2 then (
    some μ)
  else
  f_Wa_price_L12 (f_Wa_price_L2 a0 x1 n) a0 x1 x2 FU (0 : Int32) μ) := rfl
theorem e_Wa_relax_L72  {k19 : Int32 → Int32 → MM → Option (MM)} {a0 : Nat} {x1 : Int32} {x2 : Int32} {x3 : Int32} {x4 : Int32} {x6 : Int32} {x7 : Int32} {x8 : Int32} {μ : MM} {n : Nat} {x5 : Int32} : f_Wa_relax_L72 k19 a0 x1 x2 x3 x4 x6 x7 x8 μ (n + 1) x5 = (
  (rR μ a0 11 3).bind fun y75 =>
  (aI μ y75 x1).bind fun y79 =>
  if (y79 - (1 : Int32)) ≤ x5 then (
    f_Wa_relax_J109 k19 a0 x1 x2 x3 x4 x5 x6 x7 x8 μ)
  else
  (rR μ a0 11 1).bind fun y86 =>
  (aI μ y86 ((x1 * (300 : Int32)) + x5)).bind fun y97 =>
  if x8 ≤ y97 then (
    f_Wa_relax_J109 k19 a0 x1 x2 x3 x4 x5 x6 x7 x8 μ)
  else
  (f_Wa_relax_L72 k19 a0 x1 x2 x3 x4 x6 x7 x8 μ n) (x5 + (1 : Int32))) := rfl
theorem e_Wa_relax_L19  {a0 : Nat} {x1 : Int32} {x2 : Int32} {x3 : Int32} {x4 : Int32} {n : Nat} {x5 : Int32} {x6 : Int32} {μ : MM} : f_Wa_relax_L19 a0 x1 x2 x3 x4 (n + 1) x5 x6 μ = (
  (rR μ a0 11 3).bind fun y22 =>
  (aI μ y22 (x1 - (1 : Int32))).bind fun y28 =>
  if y28 ≤ x6 then (
    some μ)
  else
  if x4 = (2147483647 : Int32) then (
    some μ)
  else
  (rR μ a0 11 1).bind fun y52 =>
  (aI μ y52 (((x1 - (1 : Int32)) * (300 : Int32)) + x6)).bind fun y57 =>
  (rR μ a0 11 5).bind fun y59 =>
  (aI μ y59 ((x1 * (7 : Int32)) + x2)).bind fun y68 =>
  f_Wa_relax_L72 (f_Wa_relax_L19 a0 x1 x2 x3 x4 n) a0 x1 x2 x3 x4 x6 (((x1 - (1 : Int32)) * (300 : Int32)) + x6) (y57 + y68) μ FU x5) := rfl
theorem e_Wa_follow_L25  {k12 : Int32 → Int32 → MM → Option (Int32 × MM)} {a0 : Nat} {x1 : Int32} {x2 : Int32} {n : Nat} {x3 : Int32} {x4 : Int32} {μ : MM} : f_Wa_follow_L25 k12 a0 x1 x2 (n + 1) x3 x4 μ = (
  if (7 : Int32) ≤ x4 then (
    f_Wa_follow_J153 k12 a0 x2 x3 μ)
  else
  if x3 = (-1 : Int32) then (
    (rR μ a0 11 6).bind fun y38 =>
    (aI μ y38 ((x2 * (7 : Int32)) + x4)).bind fun y48 =>
    if y48 = (2147483647 : Int32) then (
      f_Wa_follow_J86 k12 (f_Wa_follow_L25 k12 a0 x1 x2 n) a0 x1 x2 x3 x4 y48 (-1 : Int32) μ)
    else
    (rR μ a0 11 1).bind fun y65 =>
    (aI μ y65 x1).bind fun y69 =>
    (rR μ a0 11 5).bind fun y71 =>
    (aI μ y71 ((x2 * (7 : Int32)) + x4)).bind fun y81 =>
    (f_Wa_find a0 x2 (y69 + y81) μ).bind fun y83 =>
    f_Wa_follow_J86 k12 (f_Wa_follow_L25 k12 a0 x1 x2 n) a0 x1 x2 x3 x4 y48 y83 μ)
  else
  f_Wa_follow_J153 k12 a0 x2 x3 μ) := rfl
theorem e_Wa_follow_L12  {a0 : Nat} {n : Nat} {x1 : Int32} {x2 : Int32} {μ : MM} : f_Wa_follow_L12 a0 (n + 1) x1 x2 μ = (
  (rI μ a0 11 9).bind fun y14 =>
  if y14 < x2 then (
    some ((1 : Int32), μ))
  else
  f_Wa_follow_L25 (f_Wa_follow_L12 a0 n) a0 x1 x2 FU (-1 : Int32) (0 : Int32) μ) := rfl
theorem e_Wa_leastRow_L51  {k43 : Int32 → MM → Option (Int32 × MM)} {a0 : Nat} {x3 : Int32} {n : Nat} {x4 : Int32} {μ : MM} : f_Wa_leastRow_L51 k43 a0 x3 (n + 1) x4 μ = (
  if (7 : Int32) ≤ x4 then (
    k43 (x3 + (-1 : Int32)) μ)
  else
  (f_Wa_relax a0 x3 x4 (0 : Int32) μ).bind fun μ63 =>
  (f_Wa_leastRow_L51 k43 a0 x3 n) (x4 + (1 : Int32)) μ63) := rfl
theorem e_Wa_leastRow_L43  {a0 : Nat} {n : Nat} {x3 : Int32} {μ : MM} : f_Wa_leastRow_L43 a0 (n + 1) x3 μ = (
  if x3 < (1 : Int32) then (
    (rR μ a0 11 2).bind fun y80 =>
    (aI μ y80 (0 : Int32)).bind fun y84 =>
    (pI μ a0 11 8 y84).bind fun μ85 =>
    (rI μ85 a0 11 8).bind fun y89 =>
    if y89 = (2147483647 : Int32) then (
      some ((0 : Int32), μ85))
    else
    (f_Wa_follow a0 μ85).bind fun q98 =>
    if q98.1 = 0 then (
      some ((0 : Int32), q98.2))
    else
    some ((1 : Int32), q98.2))
  else
  f_Wa_leastRow_L51 (f_Wa_leastRow_L43 a0 n) a0 x3 FU (0 : Int32) μ) := rfl
theorem e_M_placeOf_L3  {a0 : Nat} {x1 : Int32} {x2 : Int32} {x3 : Int32} {x4 : Int32} {μ : MM} {n : Nat} {x5 : Int32} : f_M_placeOf_L3 a0 x1 x2 x3 x4 μ (n + 1) x5 = (
  (rR μ a0 1 11).bind fun y6 =>
  (aI μ y6 x1).bind fun y10 =>
  if y10 ≤ x5 then (
    (rR μ a0 1 11).bind fun y68 =>
    (aI μ y68 x1).bind fun y72 =>
    if y72 = (300 : Int32) then (
      some ((-1 : Int32), μ))
    else
    (rR μ a0 1 11).bind fun y87 =>
    (aI μ y87 x1).bind fun y91 =>
    (rR μ a0 1 12).bind fun y96 =>
    (uI μ y96 (((300 : Int32) * x1) + y91) x2).bind fun μ102 =>
    (rR μ102 a0 1 13).bind fun y104 =>
    (uI μ102 y104 (((300 : Int32) * x1) + y91) x3).bind fun μ110 =>
    (rR μ110 a0 1 14).bind fun y112 =>
    (uI μ110 y112 (((300 : Int32) * x1) + y91) x4).bind fun μ119 =>
    (rR μ119 a0 1 11).bind fun y121 =>
    (aI μ119 y121 x1).bind fun y126 =>
    (uI μ119 y121 x1 (y126 + (1 : Int32))).bind fun μ129 =>
    (rR μ129 a0 1 11).bind fun y131 =>
    (aI μ129 y131 x1).bind fun y135 =>
    some ((y135 - (1 : Int32)), μ129))
  else
  (rR μ a0 1 12).bind fun y25 =>
  (aI μ y25 (((300 : Int32) * x1) + x5)).bind fun y30 =>
  if y30 = x2 then (
    (rR μ a0 1 13).bind fun y36 =>
    (aI μ y36 (((300 : Int32) * x1) + x5)).bind fun y41 =>
    if y41 = x3 then (
      (rR μ a0 1 14).bind fun y47 =>
      (aI μ y47 (((300 : Int32) * x1) + x5)).bind fun y52 =>
      if y52 = x4 then (
        some (x5, μ))
      else
      (f_M_placeOf_L3 a0 x1 x2 x3 x4 μ n) (x5 + (1 : Int32)))
    else
    (f_M_placeOf_L3 a0 x1 x2 x3 x4 μ n) (x5 + (1 : Int32)))
  else
  (f_M_placeOf_L3 a0 x1 x2 x3 x4 μ n) (x5 + (1 : Int32))) := rfl
theorem e_M_lays_L55  {k31 : Int32 → MM → Option (Int32 × MM)} {k39 : Int32 → MM → Option (Int32 × MM)} {a0 : Nat} {x1 : Int32} {x2 : Int32} {x3 : Int32} {x4 : Int32} {n : Nat} {x5 : Int32} {μ : MM} : f_M_lays_L55 k31 k39 a0 x1 x2 x3 x4 (n + 1) x5 μ = (
  if (6 : Int32) ≤ x5 then (
    k39 (x4 + (1 : Int32)) μ)
  else
  (f_M_mayLink a0 x3 x5 μ).bind fun y66 =>
  if y66 = 0 then (
    (f_M_lays_L55 k31 k39 a0 x1 x2 x3 x4 n) (x5 + (1 : Int32)) μ)
  else
  (f_M_nextOf a0 x3 x4 x5 μ).bind fun q78 =>
  if q78.1 = (-1 : Int32) then (
    some ((0 : Int32), q78.2))
  else
  (f_M_lays_L55 k31 k39 a0 x1 x2 x3 x4 n) (x5 + (1 : Int32)) q78.2) := rfl
theorem e_M_lays_L39  {k31 : Int32 → MM → Option (Int32 × MM)} {a0 : Nat} {x1 : Int32} {x2 : Int32} {x3 : Int32} {n : Nat} {x4 : Int32} {μ : MM} : f_M_lays_L39 k31 a0 x1 x2 x3 (n + 1) x4 μ = (
  (rR μ a0 1 11).bind fun y42 =>
  (aI μ y42 (x3 - (1 : Int32))).bind fun y48 =>
  if y48 ≤ x4 then (
    k31 (x3 + (1 : Int32)) μ)
  else
  f_M_lays_L55 k31 (f_M_lays_L39 k31 a0 x1 x2 x3 n) a0 x1 x2 x3 x4 FU (-1 : Int32) μ) := rfl
theorem e_M_lays_L31  {a0 : Nat} {x1 : Int32} {x2 : Int32} {n : Nat} {x3 : Int32} {μ : MM} : f_M_lays_L31 a0 x1 x2 (n + 1) x3 μ = (
  if x1 < x3 then (
    some ((1 : Int32), μ))
  else
  f_M_lays_L39 (f_M_lays_L31 a0 x1 x2 n) a0 x1 x2 x3 FU x2 μ) := rfl
theorem e_M_lays_L2  {a0 : Nat} {x1 : Int32} {n : Nat} {x2 : Int32} {μ : MM} : f_M_lays_L2 a0 x1 (n + 1) x2 μ = (
  if x1 < x2 then (
    (f_M_placeOf a0 (0 : Int32) (0 : Int32) (0 : Int32) (0 : Int32) μ).bind fun q25 =>
    f_M_lays_L31 a0 x1 q25.1 FU (1 : Int32) q25.2)
  else
  (rR μ a0 1 11).bind fun y8 =>
  (uI μ y8 x2 (0 : Int32)).bind fun μ13 =>
  (f_M_lays_L2 a0 x1 n) (x2 + (1 : Int32)) μ13) := rfl
theorem e_M_finds_L318  {k309 : Int32 → Int32 → MM → Option (Int32 × MM)} {a0 : Nat} {x1 : Int32} {x2 : Int32} {x3 : Int32} {x4 : Int32} {n : Nat} {x5 : Int32} {μ : MM} : f_M_finds_L318 k309 a0 x1 x2 x3 x4 (n + 1) x5 μ = (
  (f_M_mayLink a0 x4 x5 μ).bind fun y323 =>
  if y323 = 0 then (
    (f_M_finds_L318 k309 a0 x1 x2 x3 x4 n) (x5 + (1 : Int32)) μ)
  else
  (f_M_costBy a0 x4 x5 x2 μ).bind fun y335 =>
  (rR μ a0 1 15).bind fun y339 =>
  (f_M_nextOf a0 x4 x3 x5 μ).bind fun q354 =>
  (aL q354.2 y339 (((300 : Int32) * x4) + q354.1)).bind fun y358 =>
  (rR q354.2 a0 1 15).bind fun y361 =>
  (aL q354.2 y361 (((300 : Int32) * (x4 - (1 : Int32))) + x3)).bind fun y374 =>
  if (lg_cmp (y335 + y358) y374) = 0 then (
    (rR q354.2 a0 1 16).bind fun y386 =>
    (uI q354.2 y386 x4 x5).bind fun μ393 =>
    (f_M_nextOf a0 x4 x3 x5 μ393).bind fun q400 =>
    k309 q400.1 (x4 + (1 : Int32)) q400.2)
  else
  (f_M_finds_L318 k309 a0 x1 x2 x3 x4 n) (x5 + (1 : Int32)) q354.2) := rfl
theorem e_M_finds_L309  {a0 : Nat} {x1 : Int32} {x2 : Int32} {n : Nat} {x3 : Int32} {x4 : Int32} {μ : MM} : f_M_finds_L309 a0 x1 x2 (n + 1) x3 x4 μ = (
  if x1 < x4 then (
    some ((1 : Int32), μ))
  else
  f_M_finds_L318 (f_M_finds_L309 a0 x1 x2 n) a0 x1 x2 x3 x4 FU (-1 : Int32) μ) := rfl
theorem e_M_finds_L285  {a0 : Nat} {x1 : Int32} {x2 : Int32} {x3 : Int32} {n : Nat} {x4 : Int32} {μ : MM} : f_M_finds_L285 a0 x1 x2 x3 (n + 1) x4 μ = (
  if (24 : Int32) ≤ x4 then (
    f_M_finds_L309 a0 x1 x2 FU x3 (1 : Int32) μ)
  else
  (rR μ a0 1 16).bind fun y293 =>
  (uI μ y293 x4 (-1 : Int32)).bind fun μ299 =>
  (f_M_finds_L285 a0 x1 x2 x3 n) (x4 + (1 : Int32)) μ299) := rfl
theorem e_M_finds_L163  {k83 : Int32 → MM → Option (Int32 × MM)} {k130 : Int32 → MM → Option (Int32 × MM)} {a0 : Nat} {x1 : Int32} {x2 : Int32} {x3 : Int32} {x4 : Int32} {x5 : Int64} {n : Nat} {x7 : Int32} {μ : MM} : f_M_finds_L163 k83 k130 a0 x1 x2 x3 x4 x5 (n + 1) x7 μ = (
  (rR μ a0 1 11).bind fun y166 =>
  (aI μ y166 (x3 - (1 : Int32))).bind fun y172 =>
  if y172 ≤ x7 then (
    k130 (x4 + (1 : Int32)) μ)
  else
  (rR μ a0 1 15).bind fun y179 =>
  (f_M_nextOf a0 x3 x7 x4 μ).bind fun q193 =>
  (aL q193.2 y179 (((300 : Int32) * x3) + q193.1)).bind fun y197 =>
  (rR q193.2 a0 1 15).bind fun y204 =>
  (aL q193.2 y204 (((300 : Int32) * (x3 - (1 : Int32))) + x7)).bind fun y217 =>
  if 0 ≤ (lg_cmp (x5 + y197) y217) then (
    (f_M_finds_L163 k83 k130 a0 x1 x2 x3 x4 x5 n) (x7 + (1 : Int32)) q193.2)
  else
  (rR q193.2 a0 1 15).bind fun y223 =>
  (uL q193.2 y223 (((300 : Int32) * (x3 - (1 : Int32))) + x7) (x5 + y197)).bind fun μ238 =>
  (f_M_finds_L163 k83 k130 a0 x1 x2 x3 x4 x5 n) (x7 + (1 : Int32)) μ238) := rfl
theorem e_M_finds_L130  {k83 : Int32 → MM → Option (Int32 × MM)} {a0 : Nat} {x1 : Int32} {x2 : Int32} {x3 : Int32} {n : Nat} {x4 : Int32} {μ : MM} : f_M_finds_L130 k83 a0 x1 x2 x3 (n + 1) x4 μ = (
  if (6 : Int32) ≤ x4 then (
    k83 (x3 + (-1 : Int32)) μ)
  else
  (f_M_mayLink a0 x3 x4 μ).bind fun y141 =>
  if y141 = 0 then (
    (f_M_finds_L130 k83 a0 x1 x2 x3 n) (x4 + (1 : Int32)) μ)
  else
  (f_M_costBy a0 x3 x4 x2 μ).bind fun y155 =>
  f_M_finds_L163 k83 (f_M_finds_L130 k83 a0 x1 x2 x3 n) a0 x1 x2 x3 x4 y155 FU (0 : Int32) μ) := rfl
theorem e_M_finds_L90  {k83 : Int32 → MM → Option (Int32 × MM)} {a0 : Nat} {x1 : Int32} {x2 : Int32} {x3 : Int32} {n : Nat} {x4 : Int32} {μ : MM} : f_M_finds_L90 k83 a0 x1 x2 x3 (n + 1) x4 μ = (
  (rR μ a0 1 11).bind fun y93 =>
  (aI μ y93 (x3 - (1 : Int32))).bind fun y99 =>
  if y99 ≤ x4 then (
    f_M_finds_L130 k83 a0 x1 x2 x3 FU (-1 : Int32) μ)
  else
  (rR μ a0 1 15).bind fun y104 =>
  (uL μ y104 (((300 : Int32) * (x3 - (1 : Int32))) + x4) (1000000000000000 : Int64)).bind fun μ120 =>
  (f_M_finds_L90 k83 a0 x1 x2 x3 n) (x4 + (1 : Int32)) μ120) := rfl
theorem e_M_finds_L83  {a0 : Nat} {x1 : Int32} {x2 : Int32} {n : Nat} {x3 : Int32} {μ : MM} : f_M_finds_L83 a0 x1 x2 (n + 1) x3 μ = (
  if x3 ≤ 0 then (
    (rR μ a0 1 15).bind fun y259 =>
    (aL μ y259 (0 : Int32)).bind fun y263 =>
    (pL μ a0 1 17 y263).bind fun μ264 =>
    (rL μ264 a0 1 17).bind fun y268 =>
    if (lg_cmp y268 (1000000000000000 : Int64)) < 0 then (
      f_M_finds_L285 a0 x1 x2 (0 : Int32) FU (0 : Int32) μ264)
    else
    some ((0 : Int32), μ264))
  else
  f_M_finds_L90 (f_M_finds_L83 a0 x1 x2 n) a0 x1 x2 x3 FU (0 : Int32) μ) := rfl
theorem e_M_finds_L12  {a0 : Nat} {x1 : Int32} {x2 : Int32} {n : Nat} {x3 : Int32} {μ : MM} : f_M_finds_L12 a0 x1 x2 (n + 1) x3 μ = (
  (rR μ a0 1 11).bind fun y14 =>
  (aI μ y14 x1).bind fun y18 =>
  if y18 ≤ x3 then (
    f_M_finds_L83 a0 x1 x2 FU x1 μ)
  else
  (rR μ a0 1 15).bind fun y32 =>
  (rR μ a0 1 12).bind fun y38 =>
  (aI μ y38 (((300 : Int32) * x1) + x3)).bind fun y43 =>
  if y43 = 0 then (
    (rR μ a0 1 13).bind fun y48 =>
    (aI μ y48 (((300 : Int32) * x1) + x3)).bind fun y53 =>
    if y53 = 0 then (
      (rR μ a0 1 14).bind fun y58 =>
      (aI μ y58 (((300 : Int32) * x1) + x3)).bind fun y63 =>
      if y63 = 0 then (
        f_M_finds_J74 (f_M_finds_L12 a0 x1 x2 n) a0 x1 x2 x3 y32 (((300 : Int32) * x1) + x3) (0 : Int64) μ)
      else
      f_M_finds_J71 (f_M_finds_L12 a0 x1 x2 n) a0 x1 x2 x3 y32 (((300 : Int32) * x1) + x3) μ)
    else
    f_M_finds_J71 (f_M_finds_L12 a0 x1 x2 n) a0 x1 x2 x3 y32 (((300 : Int32) * x1) + x3) μ)
  else
  f_M_finds_J71 (f_M_finds_L12 a0 x1 x2 n) a0 x1 x2 x3 y32 (((300 : Int32) * x1) + x3) μ) := rfl
theorem e_Wa_nearest_L63  {a0 : Nat} {x1 : Int32} {μ : MM} {n : Nat} {x2 : Int32} {x3 : Int32} : f_Wa_nearest_L63 a0 x1 μ (n + 1) x2 x3 = (
  (rI μ a0 11 9).bind fun y64 =>
  if y64 < 0 then (
    some (x2, μ))
  else
  (rR μ a0 11 3).bind fun y72 =>
  (rI μ a0 11 9).bind fun y76 =>
  (aI μ y72 y76).bind fun y79 =>
  if y79 ≤ x3 then (
    some (x2, μ))
  else
  (rR μ a0 11 2).bind fun y84 =>
  (rI μ a0 11 9).bind fun y88 =>
  (aI μ y84 ((y88 * (300 : Int32)) + x3)).bind fun y97 =>
  if x1 < y97 then (
    (f_Wa_nearest_L63 a0 x1 μ n) x2 (x3 + (1 : Int32)))
  else
  (rR μ a0 11 1).bind fun y104 =>
  (rI μ a0 11 9).bind fun y108 =>
  (aI μ y104 ((y108 * (300 : Int32)) + x3)).bind fun y117 =>
  (f_Fr_mills y117).bind fun y118 =>
  (f_Wa_nearer x2 y118).bind fun y121 =>
  (f_Wa_nearest_L63 a0 x1 μ n) y121 (x3 + (1 : Int32))) := rfl
theorem e_Wa_nearest_L33  {k23 : Int32 → MM → Option (Int32 × MM)} {a0 : Nat} {x1 : Int32} {x2 : Int32} {n : Nat} {x3 : Int32} {μ : MM} : f_Wa_nearest_L33 k23 a0 x1 x2 (n + 1) x3 μ = (
  if (7 : Int32) ≤ x3 then (
    k23 (x2 + (1 : Int32)) μ)
  else
  (f_Wa_relax a0 x2 x3 (1 : Int32) μ).bind fun μ43 =>
  (f_Wa_nearest_L33 k23 a0 x1 x2 n) (x3 + (1 : Int32)) μ43) := rfl
theorem e_Wa_nearest_L23  {a0 : Nat} {x1 : Int32} {n : Nat} {x2 : Int32} {μ : MM} : f_Wa_nearest_L23 a0 x1 (n + 1) x2 μ = (
  (rI μ a0 11 9).bind fun y25 =>
  if y25 < x2 then (
    f_Wa_nearest_L63 a0 x1 μ FU (-1000000000 : Int32) (0 : Int32))
  else
  f_Wa_nearest_L33 (f_Wa_nearest_L23 a0 x1 n) a0 x1 x2 FU (0 : Int32) μ) := rfl
theorem e_M_bounded_L228  {a0 : Nat} {x1 : Int32} {x2 : Int32} {μ : MM} {n : Nat} {x3 : Int32} {x4 : Int32} : f_M_bounded_L228 a0 x1 x2 μ (n + 1) x3 x4 = (
  (rR μ a0 1 11).bind fun y231 =>
  (aI μ y231 x2).bind fun y235 =>
  if y235 ≤ x4 then (
    some (x3, μ))
  else
  (rR μ a0 1 15).bind fun y250 =>
  (aL μ y250 (((300 : Int32) * x2) + x4)).bind fun y255 =>
  if (lg_cmp y255 x1.toInt64) ≤ 0 then (
    (rR μ a0 1 12).bind fun y266 =>
    (aI μ y266 (((300 : Int32) * x2) + x4)).bind fun y271 =>
    (rR μ a0 1 13).bind fun y273 =>
    (aI μ y273 (((300 : Int32) * x2) + x4)).bind fun y278 =>
    (rR μ a0 1 14).bind fun y280 =>
    (aI μ y280 (((300 : Int32) * x2) + x4)).bind fun y285 =>
    (f_M_mills y271 y278 y285).bind fun y286 =>
    if x3 = (-1000000000 : Int32) then (
      (f_M_bounded_L228 a0 x1 x2 μ n) y286 (x4 + (1 : Int32)))
    else
    (f_M_plain y286.toInt64).bind fun y300 =>
    (f_M_plain x3.toInt64).bind fun y305 =>
    if (lg_cmp y300 y305) < 0 then (
      (f_M_bounded_L228 a0 x1 x2 μ n) y286 (x4 + (1 : Int32)))
    else
    (f_M_plain y286.toInt64).bind fun y315 =>
    (f_M_plain x3.toInt64).bind fun y320 =>
    if (lg_cmp y315 y320) = 0 then (
      if x3 ≤ y286 then (
        (f_M_bounded_L228 a0 x1 x2 μ n) x3 (x4 + (1 : Int32)))
      else
      (f_M_bounded_L228 a0 x1 x2 μ n) y286 (x4 + (1 : Int32)))
    else
    (f_M_bounded_L228 a0 x1 x2 μ n) x3 (x4 + (1 : Int32)))
  else
  (f_M_bounded_L228 a0 x1 x2 μ n) x3 (x4 + (1 : Int32))) := rfl
theorem e_M_bounded_L132  {k92 : Int32 → MM → Option (Int32 × MM)} {k100 : Int32 → MM → Option (Int32 × MM)} {a0 : Nat} {x1 : Int32} {x2 : Int32} {x3 : Int32} {x4 : Int32} {x5 : Int64} {n : Nat} {x7 : Int32} {μ : MM} : f_M_bounded_L132 k92 k100 a0 x1 x2 x3 x4 x5 (n + 1) x7 μ = (
  (rR μ a0 1 11).bind fun y135 =>
  (aI μ y135 (x3 - (1 : Int32))).bind fun y141 =>
  if y141 ≤ x7 then (
    k100 (x4 + (1 : Int32)) μ)
  else
  (f_M_nextOf a0 x3 x7 x4 μ).bind fun q156 =>
  (rR q156.2 a0 1 15).bind fun y165 =>
  (aL q156.2 y165 (((300 : Int32) * (x3 - (1 : Int32))) + x7)).bind fun y178 =>
  (rR q156.2 a0 1 15).bind fun y185 =>
  (aL q156.2 y185 (((300 : Int32) * x3) + q156.1)).bind fun y190 =>
  if 0 ≤ (lg_cmp (x5 + y178) y190) then (
    (f_M_bounded_L132 k92 k100 a0 x1 x2 x3 x4 x5 n) (x7 + (1 : Int32)) q156.2)
  else
  (rR q156.2 a0 1 15).bind fun y196 =>
  (uL q156.2 y196 (((300 : Int32) * x3) + q156.1) (x5 + y178)).bind fun μ203 =>
  (f_M_bounded_L132 k92 k100 a0 x1 x2 x3 x4 x5 n) (x7 + (1 : Int32)) μ203) := rfl
theorem e_M_bounded_L100  {k92 : Int32 → MM → Option (Int32 × MM)} {a0 : Nat} {x1 : Int32} {x2 : Int32} {x3 : Int32} {n : Nat} {x4 : Int32} {μ : MM} : f_M_bounded_L100 k92 a0 x1 x2 x3 (n + 1) x4 μ = (
  if (6 : Int32) ≤ x4 then (
    k92 (x3 + (1 : Int32)) μ)
  else
  (f_M_mayLink a0 x3 x4 μ).bind fun y111 =>
  if y111 = 0 then (
    (f_M_bounded_L100 k92 a0 x1 x2 x3 n) (x4 + (1 : Int32)) μ)
  else
  (f_M_foulBy a0 x3 x4 μ).bind fun y124 =>
  f_M_bounded_L132 k92 (f_M_bounded_L100 k92 a0 x1 x2 x3 n) a0 x1 x2 x3 x4 y124 FU (0 : Int32) μ) := rfl
theorem e_M_bounded_L92  {a0 : Nat} {x1 : Int32} {x2 : Int32} {n : Nat} {x3 : Int32} {μ : MM} : f_M_bounded_L92 a0 x1 x2 (n + 1) x3 μ = (
  if x2 < x3 then (
    f_M_bounded_L228 a0 x1 x2 μ FU (-1000000000 : Int32) (0 : Int32))
  else
  f_M_bounded_L100 (f_M_bounded_L92 a0 x1 x2 n) a0 x1 x2 x3 FU (-1 : Int32) μ) := rfl
theorem e_M_bounded_L43  {k35 : Int32 → MM → Option (Int32 × MM)} {a0 : Nat} {x1 : Int32} {x2 : Int32} {x3 : Int32} {n : Nat} {x4 : Int32} {μ : MM} : f_M_bounded_L43 k35 a0 x1 x2 x3 (n + 1) x4 μ = (
  (rR μ a0 1 11).bind fun y46 =>
  (aI μ y46 x3).bind fun y50 =>
  if y50 ≤ x4 then (
    k35 (x3 + (1 : Int32)) μ)
  else
  (rR μ a0 1 15).bind fun y55 =>
  if x3 = 0 then (
    f_M_bounded_J77 k35 (f_M_bounded_L43 k35 a0 x1 x2 x3 n) a0 x1 x2 x3 x4 y55 (((300 : Int32) * x3) + x4) (0 : Int64) μ)
  else
  f_M_bounded_J77 k35 (f_M_bounded_L43 k35 a0 x1 x2 x3 n) a0 x1 x2 x3 x4 y55 (((300 : Int32) * x3) + x4) (1000000000000000 : Int64) μ) := rfl
theorem e_M_bounded_L35  {a0 : Nat} {x1 : Int32} {x2 : Int32} {n : Nat} {x3 : Int32} {μ : MM} : f_M_bounded_L35 a0 x1 x2 (n + 1) x3 μ = (
  if x2 < x3 then (
    f_M_bounded_L92 a0 x1 x2 FU (1 : Int32) μ)
  else
  f_M_bounded_L43 (f_M_bounded_L35 a0 x1 x2 n) a0 x1 x2 x3 FU (0 : Int32) μ) := rfl
theorem e_Rl_add_L3  {a0 : Nat} {x1 : Int32} {n : Nat} {x2 : Int32} {μ : MM} : f_Rl_add_L3 a0 x1 (n + 1) x2 μ = (
  if x2 < 0 then (
    some μ)
  else
  (rI μ a0 7 1).bind fun y8 =>
  if (220 : Int32) ≤ y8 then (
    some μ)
  else
  (rR μ a0 7 0).bind fun y18 =>
  (rI μ a0 7 1).bind fun y22 =>
  (uI μ y18 y22 ((ishr x1 x2) &&& (255 : Int32))).bind fun μ32 =>
  (rI μ32 a0 7 1).bind fun y35 =>
  (pI μ32 a0 7 1 (y35 + (1 : Int32))).bind fun μ40 =>
  (f_Rl_add_L3 a0 x1 n) (x2 + (-8 : Int32)) μ40) := rfl
theorem e_M_push_L3  {a0 : Nat} {x1 : Int32} {n : Nat} {x2 : Int32} {μ : MM} : f_M_push_L3 a0 x1 (n + 1) x2 μ = (
  if x2 < 0 then (
    some μ)
  else
  (rR μ a0 1 0).bind fun y8 =>
  (rI μ a0 1 1).bind fun y12 =>
  (uB μ y8 y12 ((ishr x1 x2).toInt8.toInt32)).bind fun μ19 =>
  (rI μ19 a0 1 1).bind fun y22 =>
  (pI μ19 a0 1 1 (y22 + (1 : Int32))).bind fun μ27 =>
  (f_M_push_L3 a0 x1 n) (x2 + (-8 : Int32)) μ27) := rfl
theorem e_SL_indexOfChar_L7  {a0 : Nat} {x3 : Int32} {x4 : Int32} {n : Nat} {x5 : Int32} : f_SL_indexOfChar_L7 a0 x3 x4 (n + 1) x5 = (
  if x3 ≤ x5 then (
    some (-1 : Int32))
  else
  (sB a0 x5).bind fun y16 =>
  if y16 = x4 then (
    some x5)
  else
  (f_SL_indexOfChar_L7 a0 x3 x4 n) (x5 + (1 : Int32))) := rfl
theorem e_Re_number_L4  {a0 : Nat} {n : Nat} {x1 : Int32} {x2 : Int32} {μ : MM} : f_Re_number_L4 a0 (n + 1) x1 x2 μ = (
  if (5 : Int32) ≤ x2 then (
    f_Re_number_J48 a0 x1 μ)
  else
  (f_Re_here a0 μ).bind fun y10 =>
  (f_Re_isDigit y10).bind fun y13 =>
  if y13 = 0 then (
    f_Re_number_J48 a0 x1 μ)
  else
  (f_Re_here a0 μ).bind fun y24 =>
  (rI μ a0 6 3).bind fun y34 =>
  (pI μ a0 6 3 (y34 + (1 : Int32))).bind fun μ39 =>
  (f_Re_number_L4 a0 n) ((((10 : Int32) * x1) + y24) - (48 : Int32)) (x2 + (1 : Int32)) μ39) := rfl
theorem e_Re_either_L7 {rc : Nat → Nat → Int32 → MM → Option MM}  {a0 : Nat} {x1 : Int32} {n : Nat} {x2 : Int32} {μ : MM} : f_Re_either_L7 rc a0 x1 (n + 1) x2 μ = (
  if (200 : Int32) ≤ x2 then (
    some μ)
  else
  (f_Re_here a0 μ).bind fun y15 =>
  if y15 = (124 : Int32) then (
    (rI μ a0 6 3).bind fun y25 =>
    (pI μ a0 6 3 (y25 + (1 : Int32))).bind fun μ30 =>
    (rR μ30 a0 6 1).bind fun y34 =>
    (f_Pr_add y34 (12 : Int32) (0 : Int32) μ30).bind fun q40 =>
    (rc 1 a0 x1 q40.2).bind fun μ46 =>
    (rR μ46 a0 6 1).bind fun y50 =>
    (f_Pr_land y50 q40.1 μ46).bind fun μ54 =>
    (f_Re_either_L7 rc a0 x1 n) (x2 + (1 : Int32)) μ54)
  else
  some μ) := rfl
theorem e_Re_all_L7 {rc : Nat → Nat → Int32 → MM → Option MM}  {a0 : Nat} {x1 : Int32} {n : Nat} {x2 : Int32} {μ : MM} : f_Re_all_L7 rc a0 x1 (n + 1) x2 μ = (
  if (200 : Int32) ≤ x2 then (
    some μ)
  else
  (f_Re_here a0 μ).bind fun y15 =>
  if y15 = (38 : Int32) then (
    (rI μ a0 6 3).bind fun y25 =>
    (pI μ a0 6 3 (y25 + (1 : Int32))).bind fun μ30 =>
    (rR μ30 a0 6 1).bind fun y34 =>
    (f_Pr_add y34 (11 : Int32) (0 : Int32) μ30).bind fun q40 =>
    (rc 2 a0 x1 q40.2).bind fun μ46 =>
    (rR μ46 a0 6 1).bind fun y50 =>
    (f_Pr_land y50 q40.1 μ46).bind fun μ54 =>
    (f_Re_all_L7 rc a0 x1 n) (x2 + (1 : Int32)) μ54)
  else
  some μ) := rfl
theorem e_Re_sum_L7 {rc : Nat → Nat → Int32 → MM → Option MM}  {a0 : Nat} {x1 : Int32} {n : Nat} {x2 : Int32} {μ : MM} : f_Re_sum_L7 rc a0 x1 (n + 1) x2 μ = (
  if (200 : Int32) ≤ x2 then (
    some μ)
  else
  (f_Re_here a0 μ).bind fun y15 =>
  if y15 = (43 : Int32) then (
    f_Re_sum_J32 rc (f_Re_sum_L7 rc a0 x1 n) a0 x1 x2 μ)
  else
  (f_Re_here a0 μ).bind fun y24 =>
  if y24 = (45 : Int32) then (
    f_Re_sum_J32 rc (f_Re_sum_L7 rc a0 x1 n) a0 x1 x2 μ)
  else
  some μ) := rfl
theorem e_Re_product_L7 {rc : Nat → Nat → Int32 → MM → Option MM}  {a0 : Nat} {x1 : Int32} {n : Nat} {x2 : Int32} {μ : MM} : f_Re_product_L7 rc a0 x1 (n + 1) x2 μ = (
  if (200 : Int32) ≤ x2 then (
    some μ)
  else
  (f_Re_here a0 μ).bind fun y15 =>
  if y15 = (42 : Int32) then (
    f_Re_product_J41 rc (f_Re_product_L7 rc a0 x1 n) a0 x1 x2 μ)
  else
  (f_Re_here a0 μ).bind fun y24 =>
  if y24 = (47 : Int32) then (
    f_Re_product_J41 rc (f_Re_product_L7 rc a0 x1 n) a0 x1 x2 μ)
  else
  (f_Re_here a0 μ).bind fun y33 =>
  if y33 = (37 : Int32) then (
    f_Re_product_J41 rc (f_Re_product_L7 rc a0 x1 n) a0 x1 x2 μ)
  else
  some μ) := rfl
theorem e_Re_read_L54  {a0 : Nat} {n : Nat} {x3 : Int32} {μ : MM} : f_Re_read_L54 a0 (n + 1) x3 μ = (
  if (14 : Int32) < x3 then (
    f_Re_read_J95 a0 μ)
  else
  (rI μ a0 6 4).bind fun y61 =>
  if y61 = 0 then (
    (rI μ a0 6 3).bind fun y68 =>
    (rI μ a0 6 2).bind fun y72 =>
    if y72 ≤ y68 then (
      f_Re_read_J95 a0 μ)
    else
    (f_Re_take a0 (59 : Int32) μ).bind fun μ81 =>
    (f_Re_clause a0 x3 μ81).bind fun μ86 =>
    (f_Re_read_L54 a0 n) (x3 + (1 : Int32)) μ86)
  else
  f_Re_read_J95 a0 μ) := rfl
theorem e_M_reads_L7  {a0 : Nat} {x1 : Int32} {n : Nat} {x2 : Int32} {μ : MM} : f_M_reads_L7 a0 x1 (n + 1) x2 μ = (
  (f_M_isGood a0 μ).bind fun y8 =>
  if y8 = 0 then (
    some (x2, μ))
  else
  (f_M_seesDigit a0 μ).bind fun y15 =>
  if y15 = 0 then (
    some (x2, μ))
  else
  (rI μ a0 1 40).bind fun y22 =>
  if y22 = (x1 + (5 : Int32)) then (
    (rI μ a0 1 40).bind fun y34 =>
    (f_M_wrongs a0 (2 : Int32) y34 μ).bind fun μ37 =>
    f_M_reads_J40 (f_M_reads_L7 a0 x1 n) a0 x1 x2 μ37)
  else
  f_M_reads_J40 (f_M_reads_L7 a0 x1 n) a0 x1 x2 μ) := rfl
theorem e_M_factor_L0  {a0 : Nat} {n : Nat} {μ : MM} : f_M_factor_L0 a0 (n + 1) μ = (
  (f_M_isGood a0 μ).bind fun y1 =>
  if y1 = 0 then (
    f_M_factor_J23 a0 μ)
  else
  (f_M_here a0 μ).bind fun y8 =>
  if y8 = (91 : Int32) then (
    (f_M_opens a0 μ).bind fun μ17 =>
    (f_M_factor_L0 a0 n) μ17)
  else
  f_M_factor_J23 a0 μ) := rfl
theorem e_M_sums_L0  {a0 : Nat} {x1 : Int32} {n : Nat} {μ : MM} : f_M_sums_L0 a0 x1 (n + 1) μ = (
  (f_M_top a0 μ).bind fun y1 =>
  (f_M_isTimes y1).bind fun y4 =>
  if y4 = 0 then (
    if x1 = 0 then (
      some μ)
    else
    (f_M_top a0 μ).bind fun y15 =>
    (f_M_isPlus y15).bind fun y18 =>
    if y18 = 0 then (
      some μ)
    else
    f_M_sums_J24 (f_M_sums_L0 a0 x1 n) a0 x1 μ)
  else
  f_M_sums_J24 (f_M_sums_L0 a0 x1 n) a0 x1 μ) := rfl
theorem e_M_value_L7  {a0 : Nat} {n : Nat} {x1 : Int32} {μ : MM} : f_M_value_L7 a0 (n + 1) x1 μ = (
  if x1 = 0 then (
    f_M_value_J57 a0 μ)
  else
  (f_M_isGood a0 μ).bind fun y12 =>
  if y12 = 0 then (
    f_M_value_J57 a0 μ)
  else
  (rI μ a0 1 48).bind fun y19 =>
  if y19 = 0 then (
    (f_M_factor a0 μ).bind fun μ26 =>
    f_M_value_J29 (f_M_value_L7 a0 n) a0 μ26)
  else
  f_M_value_J29 (f_M_value_L7 a0 n) a0 μ) := rfl
theorem e_M_ends_L0  {a0 : Nat} {n : Nat} {μ : MM} : f_M_ends_L0 a0 (n + 1) μ = (
  (f_M_top a0 μ).bind fun y1 =>
  if y1 = (33 : Int32) then (
    (f_M_emit a0 (2 : Int32) (0 : Int32) μ).bind fun μ12 =>
    (rI μ12 a0 1 46).bind fun y17 =>
    (pI μ12 a0 1 46 (y17 - (1 : Int32))).bind fun μ22 =>
    (rI μ22 a0 1 45).bind fun y27 =>
    (pI μ22 a0 1 45 (y27 - (1 : Int32))).bind fun μ32 =>
    (f_M_ends_L0 a0 n) μ32)
  else
  some μ) := rfl
theorem e_M_pieceOfC_L0  {a0 : Nat} {n : Nat} {μ : MM} : f_M_pieceOfC_L0 a0 (n + 1) μ = (
  (f_M_isGood a0 μ).bind fun y1 =>
  if y1 = 0 then (
    f_M_pieceOfC_J32 a0 μ)
  else
  (f_M_here a0 μ).bind fun y8 =>
  if y8 = (33 : Int32) then (
    f_M_pieceOfC_J25 (f_M_pieceOfC_L0 a0 n) a0 μ)
  else
  (f_M_here a0 μ).bind fun y17 =>
  if y17 = (40 : Int32) then (
    f_M_pieceOfC_J25 (f_M_pieceOfC_L0 a0 n) a0 μ)
  else
  f_M_pieceOfC_J32 a0 μ) := rfl
theorem e_M_joins_L0  {a0 : Nat} {x1 : Int32} {n : Nat} {μ : MM} : f_M_joins_L0 a0 x1 (n + 1) μ = (
  (f_M_top a0 μ).bind fun y1 =>
  if y1 = (38 : Int32) then (
    f_M_joins_J22 (f_M_joins_L0 a0 x1 n) a0 x1 μ)
  else
  if x1 = 0 then (
    some μ)
  else
  (f_M_top a0 μ).bind fun y14 =>
  if y14 = (124 : Int32) then (
    f_M_joins_J22 (f_M_joins_L0 a0 x1 n) a0 x1 μ)
  else
  some μ) := rfl
theorem e_M_condition_L37  {a0 : Nat} {n : Nat} {x1 : Int32} {μ : MM} : f_M_condition_L37 a0 (n + 1) x1 μ = (
  (f_M_isGood a0 μ).bind fun y38 =>
  if y38 = 0 then (
    some μ)
  else
  (rI μ a0 1 47).bind fun y45 =>
  if y45 = 0 then (
    if x1 = 0 then (
      f_M_condition_J59 (f_M_condition_L37 a0 n) a0 x1 μ)
    else
    (f_M_pieceOfC a0 μ).bind fun μ56 =>
    f_M_condition_J59 (f_M_condition_L37 a0 n) a0 x1 μ56)
  else
  some μ) := rfl
theorem e_M_text_L206  {a0 : Nat} {n : Nat} {x3 : Int32} {μ : MM} : f_M_text_L206 a0 (n + 1) x3 μ = (
  (rI μ a0 1 44).bind fun y208 =>
  if y208 ≤ x3 then (
    (rI μ a0 1 43).bind fun y246 =>
    (pI μ a0 1 27 y246).bind fun μ249 =>
    (rI μ249 a0 1 27).bind fun y253 =>
    some (y253, μ249))
  else
  (rR μ a0 1 32).bind fun y215 =>
  (rR μ a0 1 38).bind fun y220 =>
  (aI μ y220 x3).bind fun y224 =>
  (uI μ y215 x3 y224).bind fun μ225 =>
  (rR μ225 a0 1 33).bind fun y227 =>
  (rR μ225 a0 1 39).bind fun y232 =>
  (aI μ225 y232 x3).bind fun y236 =>
  (uI μ225 y227 x3 y236).bind fun μ237 =>
  (f_M_text_L206 a0 n) (x3 + (1 : Int32)) μ237) := rfl
theorem e_M_text_L142  {a0 : Nat} {n : Nat} {x3 : Int32} {μ : MM} : f_M_text_L142 a0 (n + 1) x3 μ = (
  (rI μ a0 1 43).bind fun y144 =>
  if y144 ≤ x3 then (
    f_M_text_L206 a0 FU (0 : Int32) μ)
  else
  (rR μ a0 1 28).bind fun y151 =>
  (rR μ a0 1 34).bind fun y156 =>
  (aI μ y156 x3).bind fun y160 =>
  (uI μ y151 x3 y160).bind fun μ161 =>
  (rR μ161 a0 1 29).bind fun y163 =>
  (rR μ161 a0 1 35).bind fun y168 =>
  (aI μ161 y168 x3).bind fun y172 =>
  (uI μ161 y163 x3 y172).bind fun μ173 =>
  (rR μ173 a0 1 30).bind fun y175 =>
  (rR μ173 a0 1 36).bind fun y180 =>
  (aI μ173 y180 x3).bind fun y184 =>
  (uI μ173 y175 x3 y184).bind fun μ185 =>
  (rR μ185 a0 1 31).bind fun y187 =>
  (rR μ185 a0 1 37).bind fun y192 =>
  (aI μ185 y192 x3).bind fun y196 =>
  (uI μ185 y187 x3 y196).bind fun μ197 =>
  (f_M_text_L142 a0 n) (x3 + (1 : Int32)) μ197) := rfl
theorem e_M_text_L54  {a0 : Nat} {n : Nat} {x2 : Int32} {μ : MM} : f_M_text_L54 a0 (n + 1) x2 μ = (
  if x2 = 0 then (
    f_M_text_J128 a0 μ)
  else
  (f_M_isGood a0 μ).bind fun y59 =>
  if y59 = 0 then (
    f_M_text_J128 a0 μ)
  else
  (f_M_clause a0 μ).bind fun μ66 =>
  (f_M_isGood a0 μ66).bind fun y70 =>
  if y70 = 0 then (
    f_M_text_J91 (f_M_text_L54 a0 n) a0 μ66)
  else
  (rI μ66 a0 1 40).bind fun y77 =>
  (rI μ66 a0 1 41).bind fun y81 =>
  if y81 ≤ y77 then (
    f_M_text_J91 (f_M_text_L54 a0 n) a0 μ66)
  else
  f_M_text_J92 (f_M_text_L54 a0 n) a0 (1 : Int32) μ66) := rfl
theorem e_Ch_howMany_L4  {a0 : Nat} {x1 : Int32} {μ : MM} {n : Nat} {x2 : Int32} {x3 : Int32} : f_Ch_howMany_L4 a0 x1 μ (n + 1) x2 x3 = (
  (rI μ a0 2 9).bind fun y6 =>
  if y6 ≤ x3 then (
    some x2)
  else
  (f_Ch_sings a0 x3 x1 μ).bind fun y16 =>
  if y16 = 0 then (
    (f_Ch_howMany_L4 a0 x1 μ n) (x2 + (0 : Int32)) (x3 + (1 : Int32)))
  else
  (f_Ch_howMany_L4 a0 x1 μ n) (x2 + (1 : Int32)) (x3 + (1 : Int32))) := rfl
theorem e_Ch_lastNote_L4  {a0 : Nat} {x1 : Int32} {μ : MM} {n : Nat} {x3 : Int32} : f_Ch_lastNote_L4 a0 x1 μ (n + 1) x3 = (
  if x3 < 0 then (
    some (-1 : Int32))
  else
  (f_Ch_sings a0 x1 x3 μ).bind fun y11 =>
  if y11 = 0 then (
    (f_Ch_lastNote_L4 a0 x1 μ n) (x3 + (-1 : Int32)))
  else
  some x3) := rfl
theorem e_Si_giveAgain_L2  {a0 : Nat} {x1 : Int32} {n : Nat} {x2 : Int32} {μ : MM} : f_Si_giveAgain_L2 a0 x1 (n + 1) x2 μ = (
  (rR μ a0 9 1).bind fun y4 =>
  (rI μ y4 2 9).bind fun y7 =>
  if y7 ≤ x2 then (
    some μ)
  else
  (rR μ a0 9 1).bind fun y14 =>
  (f_Ch_lastNote y14 x2 x1 μ).bind fun y19 =>
  if y19 = (-1 : Int32) then (
    (f_Si_giveAgain_L2 a0 x1 n) (x2 + (1 : Int32)) μ)
  else
  (rR μ a0 9 3).bind fun y29 =>
  (f_Si_tableOf a0 x2 y19 μ).bind fun y36 =>
  (uL μ y29 x2 y36).bind fun μ39 =>
  (f_Si_giveAgain_L2 a0 x1 n) (x2 + (1 : Int32)) μ39) := rfl
theorem e_Pr_reckon_L6  {a0 : Nat} {x2 : Int32} {a3 : Nat} {n : Nat} {x4 : Int32} {x5 : Int32} {μ : MM} : f_Pr_reckon_L6 a0 x2 a3 (n + 1) x4 x5 μ = (
  if x2 ≤ x5 then (
    f_Pr_reckon_J269 x4 μ)
  else
  (rI μ a0 5 6).bind fun y15 =>
  if y15 ≤ x5 then (
    f_Pr_reckon_J269 x4 μ)
  else
  (rR μ a0 5 0).bind fun y22 =>
  (aI μ y22 x5).bind fun y27 =>
  (rR μ a0 5 1).bind fun y31 =>
  (aI μ y31 x5).bind fun y36 =>
  if y27 = 0 then (
    f_Pr_reckon_J50 (f_Pr_reckon_L6 a0 x2 a3 n) a0 x2 a3 x4 x5 y27 y36 μ)
  else
  if y27 = (1 : Int32) then (
    f_Pr_reckon_J50 (f_Pr_reckon_L6 a0 x2 a3 n) a0 x2 a3 x4 x5 y27 y36 μ)
  else
  if 0 ≤ x4 then (
    if y27 = (10 : Int32) then (
      (rR μ a0 5 2).bind fun y119 =>
      (rR μ a0 5 2).bind fun y126 =>
      (aI μ y126 x4).bind fun y131 =>
      (uI μ y119 x4 ((1 : Int32) - y131)).bind fun μ133 =>
      (f_Pr_reckon_L6 a0 x2 a3 n) x4 (x5 + (1 : Int32)) μ133)
    else
    if y27 = (11 : Int32) then (
      f_Pr_reckon_J151 (f_Pr_reckon_L6 a0 x2 a3 n) a0 x2 a3 x4 x5 y27 y36 μ)
    else
    if y27 = (12 : Int32) then (
      f_Pr_reckon_J151 (f_Pr_reckon_L6 a0 x2 a3 n) a0 x2 a3 x4 x5 y27 y36 μ)
    else
    if x4 < (1 : Int32) then (
      some ((0 : Int32), μ))
    else
    (rR μ a0 5 2).bind fun y208 =>
    (aI μ y208 x4).bind fun y213 =>
    if y213 = 0 then (
      if y27 = (5 : Int32) then (
        some ((0 : Int32), μ))
      else
      if y27 = (6 : Int32) then (
        some ((0 : Int32), μ))
      else
      f_Pr_reckon_J232 (f_Pr_reckon_L6 a0 x2 a3 n) a0 x2 a3 x4 x5 y27 μ)
    else
    f_Pr_reckon_J232 (f_Pr_reckon_L6 a0 x2 a3 n) a0 x2 a3 x4 x5 y27 μ)
  else
  some ((0 : Int32), μ)) := rfl
theorem e_Pr_weigh_L10  {a0 : Nat} {a1 : Nat} {a2 : Nat} {n : Nat} {x3 : Int32} {x4 : Int32} {μ : MM} : f_Pr_weigh_L10 a0 a1 a2 (n + 1) x3 x4 μ = (
  (rI μ a0 5 7).bind fun y13 =>
  if y13 ≤ x4 then (
    some μ)
  else
  (rR μ a0 5 3).bind fun y20 =>
  (aI μ y20 x4).bind fun y25 =>
  if y25 < 0 then (
    f_Pr_weigh_J53 (f_Pr_weigh_L10 a0 a1 a2 n) a0 a1 a2 x3 x4 y25 μ)
  else
  (aN μ a2).bind fun y36 =>
  if y36 ≤ y25 then (
    f_Pr_weigh_J53 (f_Pr_weigh_L10 a0 a1 a2 n) a0 a1 a2 x3 x4 y25 μ)
  else
  if ((ishr x3 y25) &&& (1 : Int32)) = 0 then (
    f_Pr_weigh_J54 (f_Pr_weigh_L10 a0 a1 a2 n) a0 a1 a2 x3 x4 y25 (1 : Int32) μ)
  else
  f_Pr_weigh_J53 (f_Pr_weigh_L10 a0 a1 a2 n) a0 a1 a2 x3 x4 y25 μ) := rfl
theorem e_Si_aim_L9  {a0 : Nat} {x1 : Int32} {x2 : Int32} {x3 : Int32} {x4 : Int64} {μ : MM} {n : Nat} {x6 : Int64} {x8 : Int64} {x10 : Int32} : f_Si_aim_L9 a0 x1 x2 x3 x4 μ (n + 1) x6 x8 x10 = (
  if x1 ≤ x10 then (
    (rR μ a0 9 7).bind fun y107 =>
    if (lg_cmp x6 (0 : Int64)) ≤ 0 then (
      f_Si_aim_J123 a0 x1 x2 x3 x4 x6 x8 y107 (0 : Int32) (0 : Int32) μ)
    else
    f_Si_aim_J123 a0 x1 x2 x3 x4 x6 x8 y107 (0 : Int32) (1 : Int32) μ)
  else
  (rR μ a0 9 1).bind fun y16 =>
  (f_Ch_sings y16 x10 x2 μ).bind fun y22 =>
  if y22 = 0 then (
    (f_Si_aim_L9 a0 x1 x2 x3 x4 μ n) x6 x8 (x10 + (1 : Int32)))
  else
  (rR μ a0 9 1).bind fun y29 =>
  (rR μ y29 2 3).bind fun y32 =>
  (aI μ y32 x10).bind fun y37 =>
  (rR μ a0 9 8).bind fun y39 =>
  (aI μ y39 x1).bind fun y43 =>
  (rR μ a0 9 8).bind fun y45 =>
  (aI μ y45 x10).bind fun y50 =>
  (f_Ch_heard y37 y43 y50).bind fun y51 =>
  (rR μ a0 9 2).bind fun y70 =>
  (aL μ y70 ((x10 * (24 : Int32)) + x2)).bind fun y80 =>
  (f_Si_millsOf a0 x1 x2 μ).bind fun y84 =>
  (f_Si_millsOf a0 x10 x2 μ).bind fun y92 =>
  (f_Si_aim_L9 a0 x1 x2 x3 x4 μ n) (x6 + y51.toInt64) (x8 + (y51.toInt64 * ((y80 + y84) - y92))) (x10 + (1 : Int32))) := rfl
theorem e_Si_blend_L9  {a0 : Nat} {x1 : Int32} {x2 : Int32} {x3 : Int32} {x4 : Int32} {μ : MM} {n : Nat} {x5 : Int64} {x7 : Int64} {x9 : Int32} : f_Si_blend_L9 a0 x1 x2 x3 x4 μ (n + 1) x5 x7 x9 = (
  (rR μ a0 9 6).bind fun y12 =>
  (aN μ y12).bind fun y15 =>
  if y15 ≤ x9 then (
    if (lg_cmp x7 (0 : Int64)) ≤ 0 then (
      (rR μ a0 9 6).bind fun y110 =>
      (aL μ y110 (2 : Int32)).bind fun y114 =>
      some y114)
    else
    (f_Mt_floorDiv x5 x7).bind fun y103 =>
    some y103)
  else
  if x9 = 0 then (
    f_Si_blend_J50 (f_Si_blend_L9 a0 x1 x2 x3 x4 μ n) a0 x1 x2 x3 x4 x5 x7 x9 x1 μ)
  else
  if x9 = (1 : Int32) then (
    f_Si_blend_J50 (f_Si_blend_L9 a0 x1 x2 x3 x4 μ n) a0 x1 x2 x3 x4 x5 x7 x9 x2 μ)
  else
  if x9 = (2 : Int32) then (
    f_Si_blend_J50 (f_Si_blend_L9 a0 x1 x2 x3 x4 μ n) a0 x1 x2 x3 x4 x5 x7 x9 x3 μ)
  else
  f_Si_blend_J50 (f_Si_blend_L9 a0 x1 x2 x3 x4 μ n) a0 x1 x2 x3 x4 x5 x7 x9 x4 μ) := rfl
theorem e_Si_sing_L82  {k40 : Int32 → MM → Option (MM)} {a0 : Nat} {x5 : Int32} {n : Nat} {x6 : Int32} {μ : MM} : f_Si_sing_L82 k40 a0 x5 (n + 1) x6 μ = (
  (rR μ a0 9 1).bind fun y85 =>
  (rI μ y85 2 9).bind fun y88 =>
  if y88 ≤ x6 then (
    k40 (x5 + (1 : Int32)) μ)
  else
  (rI μ a0 9 14).bind fun y95 =>
  if y95 ≤ 0 then (
    k40 (x5 + (1 : Int32)) μ)
  else
  (rR μ a0 9 1).bind fun y102 =>
  (f_Ch_sings y102 x6 x5 μ).bind fun y109 =>
  if y109 = 0 then (
    (f_Si_sing_L82 k40 a0 x5 n) (x6 + (1 : Int32)) μ)
  else
  (f_Si_singNote a0 x6 x5 μ).bind fun μ120 =>
  (f_Si_sing_L82 k40 a0 x5 n) (x6 + (1 : Int32)) μ120) := rfl
theorem e_Si_sing_L40  {a0 : Nat} {n : Nat} {x5 : Int32} {μ : MM} : f_Si_sing_L40 a0 (n + 1) x5 μ = (
  if (24 : Int32) ≤ x5 then (
    some μ)
  else
  (rR μ a0 9 1).bind fun y49 =>
  (f_Ch_howMany y49 x5 μ).bind fun y54 =>
  (pI μ a0 9 14 y54).bind fun μ57 =>
  (rI μ57 a0 9 9).bind fun y61 =>
  if ((ishr y61 x5) &&& (1 : Int32)) = (1 : Int32) then (
    (f_Si_giveAgain a0 x5 μ57).bind fun μ76 =>
    f_Si_sing_J79 (f_Si_sing_L40 a0 n) a0 x5 μ76)
  else
  f_Si_sing_J79 (f_Si_sing_L40 a0 n) a0 x5 μ57) := rfl
theorem e_M_readies_L2  {a0 : Nat} {n : Nat} {x1 : Int32} {μ : MM} : f_M_readies_L2 a0 (n + 1) x1 μ = (
  (rI μ a0 1 18).bind fun y4 =>
  if y4 ≤ x1 then (
    (rI μ a0 1 21).bind fun y42 =>
    (pI μ a0 1 52 y42).bind fun μ45 =>
    (pI μ45 a0 1 53 (0 : Int32)).bind fun μ50 =>
    some μ50)
  else
  (rR μ a0 1 50).bind fun y11 =>
  (rR μ a0 1 23).bind fun y16 =>
  (aI μ y16 x1).bind fun y20 =>
  (uI μ y11 x1 y20).bind fun μ21 =>
  (rR μ21 a0 1 51).bind fun y23 =>
  (rR μ21 a0 1 25).bind fun y28 =>
  (aI μ21 y28 x1).bind fun y32 =>
  (uI μ21 y23 x1 y32).bind fun μ33 =>
  (f_M_readies_L2 a0 n) (x1 + (1 : Int32)) μ33) := rfl
theorem e_M_listens_L8  {a0 : Nat} {x1 : Int32} {x2 : Int32} {μ : MM} {n : Nat} {x3 : Int64} {x5 : Int64} {x7 : Int32} : f_M_listens_L8 a0 x1 x2 μ (n + 1) x3 x5 x7 = (
  if x1 ≤ x7 then (
    if (lg_cmp x5 (0 : Int64)) ≤ 0 then (
      f_M_listens_J99 a0 x3 x5 a0 (0 : Int32) μ)
    else
    f_M_listens_J99 a0 x3 x5 a0 (1 : Int32) μ)
  else
  (f_M_sings a0 x7 x2 μ).bind fun y18 =>
  if y18 = 0 then (
    (f_M_listens_L8 a0 x1 x2 μ n) x3 x5 (x7 + (1 : Int32)))
  else
  (f_M_hearsOf a0 x1 x7 μ).bind fun y31 =>
  (rR μ a0 1 54).bind fun y41 =>
  (aI μ y41 (((24 : Int32) * x7) + x2)).bind fun y51 =>
  (f_M_sizeFor a0 x1 x2 μ).bind fun y56 =>
  (f_M_sizeFor a0 x7 x2 μ).bind fun y65 =>
  (f_M_listens_L8 a0 x1 x2 μ n) (x3 + (y31.toInt64 * ((y51.toInt64 + y56.toInt64) - y65.toInt64))) (x5 + y31.toInt64) (x7 + (1 : Int32))) := rfl
theorem e_M_singing_L4  {a0 : Nat} {x1 : Int32} {μ : MM} {n : Nat} {x2 : Int32} {x3 : Int32} : f_M_singing_L4 a0 x1 μ (n + 1) x2 x3 = (
  (rI μ a0 1 18).bind fun y6 =>
  if y6 ≤ x3 then (
    some x2)
  else
  (f_M_sings a0 x3 x1 μ).bind fun y16 =>
  if y16 = 0 then (
    (f_M_singing_L4 a0 x1 μ n) (x2 + (0 : Int32)) (x3 + (1 : Int32)))
  else
  (f_M_singing_L4 a0 x1 μ n) (x2 + (1 : Int32)) (x3 + (1 : Int32))) := rfl
theorem e_M_works_L5  {a0 : Nat} {x2 : Int32} {n : Nat} {x3 : Int32} {x4 : Int32} {μ : MM} : f_M_works_L5 a0 x2 (n + 1) x3 x4 μ = (
  if x2 ≤ x4 then (
    some μ)
  else
  (rR μ a0 1 32).bind fun y12 =>
  (aI μ y12 x4).bind fun y17 =>
  if y17 ≤ (2 : Int32) then (
    (rR μ a0 1 32).bind fun y43 =>
    (aI μ y43 x4).bind fun y48 =>
    if y48 = (2 : Int32) then (
      (rR μ a0 1 62).bind fun y54 =>
      (rR μ a0 1 62).bind fun y62 =>
      (aI μ y62 (x3 - (1 : Int32))).bind fun y68 =>
      (uI μ y54 (x3 - (1 : Int32)) ((1 : Int32) - y68)).bind fun μ70 =>
      (f_M_works_L5 a0 x2 n) x3 (x4 + (1 : Int32)) μ70)
    else
    (rR μ a0 1 63).bind fun y75 =>
    (uB μ y75 x3 (0 : Int32)).bind fun μ80 =>
    (rR μ80 a0 1 62).bind fun y82 =>
    (rR μ80 a0 1 32).bind fun y87 =>
    (aI μ80 y87 x4).bind fun y92 =>
    if y92 = 0 then (
      (rR μ80 a0 1 33).bind fun y97 =>
      (aI μ80 y97 x4).bind fun y102 =>
      f_M_works_J117 (f_M_works_L5 a0 x2 n) a0 x2 x3 x4 y82 x3 y102 μ80)
    else
    (rR μ80 a0 1 33).bind fun y108 =>
    (aI μ80 y108 x4).bind fun y113 =>
    (f_M_valueOf a0 y113 μ80).bind fun y114 =>
    f_M_works_J117 (f_M_works_L5 a0 x2 n) a0 x2 x3 x4 y82 x3 y114 μ80)
  else
  (rR μ a0 1 32).bind fun y27 =>
  (aI μ y27 x4).bind fun y32 =>
  (f_M_does a0 y32 ((x3 + (-1 : Int32)) - (1 : Int32)) μ).bind fun μ36 =>
  (f_M_works_L5 a0 x2 n) (x3 + (-1 : Int32)) (x4 + (1 : Int32)) μ36) := rfl
theorem e_M_tells_L3  {a0 : Nat} {x1 : Int32} {x2 : Int32} {x3 : Int32} {n : Nat} {x4 : Int32} {μ : MM} : f_M_tells_L3 a0 x1 x2 x3 (n + 1) x4 μ = (
  (rI μ a0 1 27).bind fun y6 =>
  if y6 ≤ x4 then (
    some ((0 : Int32), μ))
  else
  (rR μ a0 1 28).bind fun y13 =>
  (aI μ y13 x4).bind fun y18 =>
  if y18 = x1 then (
    (rR μ a0 1 30).bind fun y28 =>
    (aI μ y28 x4).bind fun y33 =>
    (rR μ a0 1 31).bind fun y35 =>
    (aI μ y35 x4).bind fun y40 =>
    (f_M_works a0 y33 y40 μ).bind fun μ41 =>
    (rR μ41 a0 1 63).bind fun y45 =>
    (aB μ41 y45 (0 : Int32)).bind fun y49 =>
    if y49 = 0 then (
      (rR μ41 a0 1 62).bind fun y54 =>
      (aI μ41 y54 (0 : Int32)).bind fun y58 =>
      if y58 = (1 : Int32) then (
        (rR μ41 a0 1 29).bind fun y68 =>
        (aI μ41 y68 x4).bind fun y73 =>
        (rR μ41 a0 1 30).bind fun y75 =>
        (aI μ41 y75 x4).bind fun y80 =>
        (f_M_works a0 y73 y80 μ41).bind fun μ81 =>
        (rR μ81 a0 1 63).bind fun y85 =>
        (aB μ81 y85 (0 : Int32)).bind fun y89 =>
        if y89 = 0 then (
          (rR μ81 a0 1 62).bind fun y98 =>
          (aI μ81 y98 (0 : Int32)).bind fun y102 =>
          f_M_tells_J103 x2 x3 y102 μ81)
        else
        f_M_tells_J103 x2 x3 (0 : Int32) μ81)
      else
      (f_M_tells_L3 a0 x1 x2 x3 n) (x4 + (1 : Int32)) μ41)
    else
    (f_M_tells_L3 a0 x1 x2 x3 n) (x4 + (1 : Int32)) μ41)
  else
  (f_M_tells_L3 a0 x1 x2 x3 n) (x4 + (1 : Int32)) μ) := rfl
theorem e_M_isSung_L118  {k43 : Int32 → Int32 → MM → Option (MM)} {a0 : Nat} {x1 : Int32} {x2 : Int32} {n : Nat} {x3 : Int32} {μ : MM} : f_M_isSung_L118 k43 a0 x1 x2 (n + 1) x3 μ = (
  (rI μ a0 1 18).bind fun y120 =>
  if y120 ≤ x3 then (
    k43 x1 (x2 + (1 : Int32)) μ)
  else
  (f_M_sings a0 x3 x2 μ).bind fun y129 =>
  if y129 = 0 then (
    (f_M_isSung_L118 k43 a0 x1 x2 n) (x3 + (1 : Int32)) μ)
  else
  (f_M_singsNote a0 x3 x2 μ).bind fun μ138 =>
  (f_M_isSung_L118 k43 a0 x1 x2 n) (x3 + (1 : Int32)) μ138) := rfl
theorem e_M_isSung_L64  {k43 : Int32 → Int32 → MM → Option (MM)} {a0 : Nat} {x1 : Int32} {x2 : Int32} {n : Nat} {x3 : Int32} {μ : MM} : f_M_isSung_L64 k43 a0 x1 x2 (n + 1) x3 μ = (
  (rI μ a0 1 18).bind fun y66 =>
  if y66 ≤ x3 then (
    f_M_isSung_J109 k43 a0 x1 x2 μ)
  else
  (rR μ a0 1 56).bind fun y73 =>
  (aI μ y73 x3).bind fun y77 =>
  if y77 = (-1 : Int32) then (
    (f_M_isSung_L64 k43 a0 x1 x2 n) (x3 + (1 : Int32)) μ)
  else
  (rR μ a0 1 55).bind fun y83 =>
  (rR μ a0 1 56).bind fun y91 =>
  (aI μ y91 x3).bind fun y95 =>
  (f_M_keyOf a0 x3 y95 μ).bind fun y96 =>
  (f_M_tableOf a0 y96 μ).bind fun y99 =>
  (uI μ y83 x3 y99).bind fun μ102 =>
  (f_M_isSung_L64 k43 a0 x1 x2 n) (x3 + (1 : Int32)) μ102) := rfl
theorem e_M_isSung_L43  {a0 : Nat} {n : Nat} {x1 : Int32} {x2 : Int32} {μ : MM} : f_M_isSung_L43 a0 (n + 1) x1 x2 μ = (
  if (24 : Int32) ≤ x2 then (
    some μ)
  else
  (rI μ a0 1 52).bind fun y50 =>
  (f_M_has y50 x2).bind fun y54 =>
  if y54 = 0 then (
    f_M_isSung_J109 (f_M_isSung_L43 a0 n) a0 x1 x2 μ)
  else
  f_M_isSung_L64 (f_M_isSung_L43 a0 n) a0 (0 : Int32) x2 FU (0 : Int32) μ) := rfl
theorem e_M_isSung_L20  {a0 : Nat} {x1 : Int32} {n : Nat} {x2 : Int32} {μ : MM} : f_M_isSung_L20 a0 x1 (n + 1) x2 μ = (
  (rI μ a0 1 18).bind fun y22 =>
  if y22 ≤ x2 then (
    f_M_isSung_L43 a0 FU x1 (0 : Int32) μ)
  else
  (rR μ a0 1 56).bind fun y29 =>
  (uI μ y29 x2 (-1 : Int32)).bind fun μ34 =>
  (f_M_isSung_L20 a0 x1 n) (x2 + (1 : Int32)) μ34) := rfl
theorem e_Si_off_L8  {a0 : Nat} {x1 : Int32} {μ : MM} {n : Nat} {x2 : Int64} {x4 : Int64} {x6 : Int32} : f_Si_off_L8 a0 x1 μ (n + 1) x2 x4 x6 = (
  (rR μ a0 9 1).bind fun y11 =>
  (rI μ y11 2 9).bind fun y14 =>
  if y14 ≤ x6 then (
    if (lg_cmp x4 (0 : Int64)) ≤ 0 then (
      some (0 : Int64))
    else
    (f_Mt_floorDiv x2 x4).bind fun y73 =>
    some y73)
  else
  (rR μ a0 9 1).bind fun y21 =>
  (f_Ch_sings y21 x6 x1 μ).bind fun y27 =>
  if y27 = 0 then (
    (f_Si_off_L8 a0 x1 μ n) x2 x4 (x6 + (1 : Int32)))
  else
  (f_Si_sung a0 x6 x1 μ).bind fun y38 =>
  (f_Si_tableOf a0 x6 x1 μ).bind fun y45 =>
  (f_Si_off_L8 a0 x1 μ n) (x2 + (y38 - y45)) (x4 + (1 : Int64)) (x6 + (1 : Int32))) := rfl
theorem e_Si_foul_L20  {k5 : Int64 → Int32 → Option (Int64)} {a0 : Nat} {x1 : Int32} {x4 : Int32} {μ : MM} {n : Nat} {x2 : Int64} {x5 : Int32} : f_Si_foul_L20 k5 a0 x1 x4 μ (n + 1) x2 x5 = (
  if x4 ≤ x5 then (
    k5 x2 (x4 + (1 : Int32)))
  else
  (rR μ a0 9 1).bind fun y28 =>
  (f_Ch_sings y28 x4 x1 μ).bind fun y34 =>
  if y34 = 0 then (
    (f_Si_foul_L20 k5 a0 x1 x4 μ n) x2 (x5 + (1 : Int32)))
  else
  (rR μ a0 9 1).bind fun y41 =>
  (f_Ch_sings y41 x5 x1 μ).bind fun y47 =>
  if y47 = 0 then (
    (f_Si_foul_L20 k5 a0 x1 x4 μ n) x2 (x5 + (1 : Int32)))
  else
  (f_Si_sung a0 x4 x1 μ).bind fun y57 =>
  (f_Si_sung a0 x5 x1 μ).bind fun y64 =>
  (f_Si_millsOf a0 x4 x1 μ).bind fun y77 =>
  (f_Si_millsOf a0 x5 x1 μ).bind fun y84 =>
  (f_Mt_abs_J ((y57 - y64) - (y77 - y84))).bind fun y89 =>
  (f_Si_foul_L20 k5 a0 x1 x4 μ n) (x2 + y89) (x5 + (1 : Int32))) := rfl
theorem e_Si_foul_L5  {a0 : Nat} {x1 : Int32} {μ : MM} {n : Nat} {x2 : Int64} {x4 : Int32} : f_Si_foul_L5 a0 x1 μ (n + 1) x2 x4 = (
  (rR μ a0 9 1).bind fun y8 =>
  (rI μ y8 2 9).bind fun y11 =>
  if y11 ≤ x4 then (
    some x2)
  else
  f_Si_foul_L20 (f_Si_foul_L5 a0 x1 μ n) a0 x1 x4 μ FU x2 (0 : Int32)) := rfl
theorem e_Ch_tableFoul_L15  {k5 : Int64 → Int32 → Option (Int64)} {a0 : Nat} {x1 : Int32} {x4 : Int32} {μ : MM} {n : Nat} {x2 : Int64} {x5 : Int32} : f_Ch_tableFoul_L15 k5 a0 x1 x4 μ (n + 1) x2 x5 = (
  if x4 ≤ x5 then (
    k5 x2 (x4 + (1 : Int32)))
  else
  (rR μ a0 2 0).bind fun y23 =>
  (f_Sc_sounds y23 x4 x1 μ).bind fun y29 =>
  if y29 = 0 then (
    (f_Ch_tableFoul_L15 k5 a0 x1 x4 μ n) x2 (x5 + (1 : Int32)))
  else
  (rR μ a0 2 0).bind fun y36 =>
  (f_Sc_sounds y36 x5 x1 μ).bind fun y42 =>
  if y42 = 0 then (
    (f_Ch_tableFoul_L15 k5 a0 x1 x4 μ n) x2 (x5 + (1 : Int32)))
  else
  (f_Ch_above a0 x4 x1 μ).bind fun y53 =>
  (f_Ch_above a0 x5 x1 μ).bind fun y60 =>
  (f_Mt_abs_I (y53 - y60)).bind fun y64 =>
  (f_Ch_tableFoul_L15 k5 a0 x1 x4 μ n) (x2 + y64.toInt64) (x5 + (1 : Int32))) := rfl
theorem e_Ch_tableFoul_L5  {a0 : Nat} {x1 : Int32} {μ : MM} {n : Nat} {x2 : Int64} {x4 : Int32} : f_Ch_tableFoul_L5 a0 x1 μ (n + 1) x2 x4 = (
  if (6 : Int32) ≤ x4 then (
    some x2)
  else
  f_Ch_tableFoul_L15 (f_Ch_tableFoul_L5 a0 x1 μ n) a0 x1 x4 μ FU x2 (0 : Int32)) := rfl
theorem e_M_offOf_L5  {a0 : Nat} {x1 : Int32} {μ : MM} {n : Nat} {x2 : Int64} {x4 : Int32} : f_M_offOf_L5 a0 x1 μ (n + 1) x2 x4 = (
  (rI μ a0 1 18).bind fun y8 =>
  if y8 ≤ x4 then (
    (f_M_singing a0 x1 μ).bind fun y65 =>
    (f_M_floor x2 y65.toInt64).bind fun y69 =>
    some y69)
  else
  (f_M_sings a0 x4 x1 μ).bind fun y19 =>
  if y19 = 0 then (
    f_M_offOf_J54 (f_M_offOf_L5 a0 x1 μ n) a0 x1 x4 x2 (0 : Int64) μ)
  else
  (rR μ a0 1 54).bind fun y26 =>
  (aI μ y26 (((24 : Int32) * x4) + x1)).bind fun y36 =>
  (f_M_keyOf a0 x4 x1 μ).bind fun y42 =>
  (f_M_tableOf a0 y42 μ).bind fun y45 =>
  f_M_offOf_J54 (f_M_offOf_L5 a0 x1 μ n) a0 x1 x4 x2 ((y36 - y45).toInt64) μ) := rfl
theorem e_M_foulOf_L17  {k5 : Int64 → Int32 → Option (Int64)} {a0 : Nat} {x1 : Int32} {x4 : Int32} {μ : MM} {n : Nat} {x2 : Int64} {x5 : Int32} : f_M_foulOf_L17 k5 a0 x1 x4 μ (n + 1) x2 x5 = (
  if x4 ≤ x5 then (
    k5 x2 (x4 + (1 : Int32)))
  else
  (f_M_sings a0 x4 x1 μ).bind fun y28 =>
  if y28 = 0 then (
    (f_M_foulOf_L17 k5 a0 x1 x4 μ n) x2 (x5 + (1 : Int32)))
  else
  (f_M_sings a0 x5 x1 μ).bind fun y38 =>
  if y38 = 0 then (
    (f_M_foulOf_L17 k5 a0 x1 x4 μ n) x2 (x5 + (1 : Int32)))
  else
  (rR μ a0 1 54).bind fun y49 =>
  (aI μ y49 (((24 : Int32) * x4) + x1)).bind fun y59 =>
  (rR μ a0 1 54).bind fun y62 =>
  (aI μ y62 (((24 : Int32) * x5) + x1)).bind fun y72 =>
  (f_M_sizeFor a0 x4 x1 μ).bind fun y79 =>
  (f_M_sizeFor a0 x5 x1 μ).bind fun y86 =>
  (f_M_plain ((y59.toInt64 - y72.toInt64) - (y79 - y86).toInt64)).bind fun y92 =>
  (f_M_foulOf_L17 k5 a0 x1 x4 μ n) (x2 + y92) (x5 + (1 : Int32))) := rfl
theorem e_M_foulOf_L5  {a0 : Nat} {x1 : Int32} {μ : MM} {n : Nat} {x2 : Int64} {x4 : Int32} : f_M_foulOf_L5 a0 x1 μ (n + 1) x2 x4 = (
  (rI μ a0 1 18).bind fun y8 =>
  if y8 ≤ x4 then (
    some x2)
  else
  f_M_foulOf_L17 (f_M_foulOf_L5 a0 x1 μ n) a0 x1 x4 μ FU x2 (0 : Int32)) := rfl
theorem e_M_tableFoul_L15  {k5 : Int64 → Int32 → Option (Int64)} {a0 : Nat} {x1 : Int32} {x4 : Int32} {μ : MM} {n : Nat} {x2 : Int64} {x5 : Int32} : f_M_tableFoul_L15 k5 a0 x1 x4 μ (n + 1) x2 x5 = (
  if x4 ≤ x5 then (
    k5 x2 (x4 + (1 : Int32)))
  else
  (f_M_isNote a0 x4 x1 μ).bind fun y26 =>
  if y26 = 0 then (
    (f_M_tableFoul_L15 k5 a0 x1 x4 μ n) x2 (x5 + (1 : Int32)))
  else
  (f_M_isNote a0 x5 x1 μ).bind fun y36 =>
  if y36 = 0 then (
    (f_M_tableFoul_L15 k5 a0 x1 x4 μ n) x2 (x5 + (1 : Int32)))
  else
  (rR μ a0 1 2).bind fun y48 =>
  (f_M_cellOf x4 x1).bind fun y54 =>
  (aI μ y48 y54).bind fun y57 =>
  (f_M_tableOf a0 y57 μ).bind fun y58 =>
  (rR μ a0 1 2).bind fun y64 =>
  (f_M_cellOf x5 x1).bind fun y70 =>
  (aI μ y64 y70).bind fun y73 =>
  (f_M_tableOf a0 y73 μ).bind fun y74 =>
  (f_M_sizeAt a0 x4 x1 μ).bind fun y83 =>
  (f_M_sizeAt a0 x5 x1 μ).bind fun y90 =>
  (f_M_plain ((y58.toInt64 - y74.toInt64) - (y83 - y90).toInt64)).bind fun y96 =>
  (f_M_tableFoul_L15 k5 a0 x1 x4 μ n) (x2 + y96) (x5 + (1 : Int32))) := rfl
theorem e_M_tableFoul_L5  {a0 : Nat} {x1 : Int32} {μ : MM} {n : Nat} {x2 : Int64} {x4 : Int32} : f_M_tableFoul_L5 a0 x1 μ (n + 1) x2 x4 = (
  if (6 : Int32) ≤ x4 then (
    some x2)
  else
  f_M_tableFoul_L15 (f_M_tableFoul_L5 a0 x1 μ n) a0 x1 x4 μ FU x2 (0 : Int32)) := rfl
theorem e_Ch_firstBeat_L2  {a0 : Nat} {μ : MM} {n : Nat} {x1 : Int32} : f_Ch_firstBeat_L2 a0 μ (n + 1) x1 = (
  if (24 : Int32) ≤ x1 then (
    some (-1 : Int32))
  else
  (f_Ch_howMany a0 x1 μ).bind fun y10 =>
  if y10 ≤ 0 then (
    (f_Ch_firstBeat_L2 a0 μ n) (x1 + (1 : Int32)))
  else
  some x1) := rfl
theorem e_Ch_lastBeat_L3  {a0 : Nat} {μ : MM} {n : Nat} {x1 : Int32} : f_Ch_lastBeat_L3 a0 μ (n + 1) x1 = (
  if x1 < 0 then (
    some (-1 : Int32))
  else
  (f_Ch_howMany a0 x1 μ).bind fun y9 =>
  if y9 ≤ 0 then (
    (f_Ch_lastBeat_L3 a0 μ n) (x1 + (-1 : Int32)))
  else
  some x1) := rfl
theorem e_Ch_howManySing_L4  {a0 : Nat} {μ : MM} {n : Nat} {x1 : Int32} {x2 : Int32} : f_Ch_howManySing_L4 a0 μ (n + 1) x1 x2 = (
  (rI μ a0 2 9).bind fun y6 =>
  if y6 ≤ x2 then (
    some x1)
  else
  (f_Ch_lastNote a0 x2 (24 : Int32) μ).bind fun y17 =>
  if y17 = (-1 : Int32) then (
    (f_Ch_howManySing_L4 a0 μ n) (x1 + (0 : Int32)) (x2 + (1 : Int32)))
  else
  (f_Ch_howManySing_L4 a0 μ n) (x1 + (1 : Int32)) (x2 + (1 : Int32))) := rfl
theorem e_Si_foulTogether_L4  {a0 : Nat} {μ : MM} {n : Nat} {x1 : Int64} {x3 : Int32} : f_Si_foulTogether_L4 a0 μ (n + 1) x1 x3 = (
  if (24 : Int32) ≤ x3 then (
    some x1)
  else
  (f_Si_foul a0 x3 μ).bind fun y13 =>
  (f_Si_foulTogether_L4 a0 μ n) (x1 + y13) (x3 + (1 : Int32))) := rfl
theorem e_M_firstSung_L2  {a0 : Nat} {μ : MM} {n : Nat} {x1 : Int32} : f_M_firstSung_L2 a0 μ (n + 1) x1 = (
  if (24 : Int32) ≤ x1 then (
    some (-1 : Int32))
  else
  (f_M_singing a0 x1 μ).bind fun y10 =>
  if y10 ≤ 0 then (
    (f_M_firstSung_L2 a0 μ n) (x1 + (1 : Int32)))
  else
  some x1) := rfl
theorem e_M_lastSung_L3  {a0 : Nat} {μ : MM} {n : Nat} {x1 : Int32} : f_M_lastSung_L3 a0 μ (n + 1) x1 = (
  if x1 < 0 then (
    some (-1 : Int32))
  else
  (f_M_singing a0 x1 μ).bind fun y9 =>
  if y9 ≤ 0 then (
    (f_M_lastSung_L3 a0 μ n) (x1 + (-1 : Int32)))
  else
  some x1) := rfl
theorem e_M_sungMany_L17  {k4 : Int32 → Int32 → Option (Int32)} {a0 : Nat} {x1 : Int32} {x2 : Int32} {μ : MM} {n : Nat} {x3 : Int32} {x4 : Int32} : f_M_sungMany_L17 k4 a0 x1 x2 μ (n + 1) x3 x4 = (
  if (24 : Int32) ≤ x4 then (
    if x3 = 0 then (
      k4 (x1 + (0 : Int32)) (x2 + (1 : Int32)))
    else
    k4 (x1 + (1 : Int32)) (x2 + (1 : Int32)))
  else
  if x3 = 0 then (
    (f_M_sings a0 x2 x4 μ).bind fun y32 =>
    if y32 = 0 then (
      (f_M_sungMany_L17 k4 a0 x1 x2 μ n) (0 : Int32) (x4 + (1 : Int32)))
    else
    (f_M_sungMany_L17 k4 a0 x1 x2 μ n) (1 : Int32) (x4 + (1 : Int32)))
  else
  (f_M_sungMany_L17 k4 a0 x1 x2 μ n) (1 : Int32) (x4 + (1 : Int32))) := rfl
theorem e_M_sungMany_L4  {a0 : Nat} {μ : MM} {n : Nat} {x1 : Int32} {x2 : Int32} : f_M_sungMany_L4 a0 μ (n + 1) x1 x2 = (
  (rI μ a0 1 18).bind fun y6 =>
  if y6 ≤ x2 then (
    some x1)
  else
  f_M_sungMany_L17 (f_M_sungMany_L4 a0 μ n) a0 x1 x2 μ FU (0 : Int32) (0 : Int32)) := rfl
theorem e_M_allFoul_L4  {a0 : Nat} {μ : MM} {n : Nat} {x1 : Int64} {x3 : Int32} : f_M_allFoul_L4 a0 μ (n + 1) x1 x3 = (
  if (24 : Int32) ≤ x3 then (
    some x1)
  else
  (f_M_foulOf a0 x3 μ).bind fun y13 =>
  (f_M_allFoul_L4 a0 μ n) (x1 + y13) (x3 + (1 : Int32))) := rfl
theorem e_St_sort_L15  {k2 : Int32 → MM → Option (MM)} {a0 : Nat} {x1 : Int32} {x2 : Int32} {n : Nat} {x3 : Int32} {μ : MM} : f_St_sort_L15 k2 a0 x1 x2 (n + 1) x3 μ = (
  if x3 ≤ x1 then (
    k2 (x2 + (1 : Int32)) μ)
  else
  (rR μ a0 10 2).bind fun y21 =>
  (aI μ y21 x3).bind fun y25 =>
  (rR μ a0 10 2).bind fun y27 =>
  (aI μ y27 (x3 - (1 : Int32))).bind fun y33 =>
  if y33 ≤ y25 then (
    k2 (x2 + (1 : Int32)) μ)
  else
  (f_St_swap a0 x3 (x3 - (1 : Int32)) μ).bind fun μ42 =>
  (f_St_sort_L15 k2 a0 x1 x2 n) (x3 + (-1 : Int32)) μ42) := rfl
theorem e_St_sort_L2  {a0 : Nat} {x1 : Int32} {n : Nat} {x2 : Int32} {μ : MM} : f_St_sort_L2 a0 x1 (n + 1) x2 μ = (
  (rR μ a0 10 0).bind fun y4 =>
  (rI μ y4 2 9).bind fun y7 =>
  if y7 ≤ x2 then (
    some μ)
  else
  f_St_sort_L15 (f_St_sort_L2 a0 x1 n) a0 x1 x2 FU x2 μ) := rfl
theorem e_St_next_L53  {a0 : Nat} {x1 : Int32} {μ : MM} {n : Nat} {x2 : Int32} : f_St_next_L53 a0 x1 μ (n + 1) x2 = (
  if x2 ≤ (x1 + (1 : Int32)) then (
    f_St_next_J81 a0 x1 x2 μ)
  else
  (rR μ a0 10 2).bind fun y61 =>
  (aI μ y61 x2).bind fun y65 =>
  (rR μ a0 10 2).bind fun y67 =>
  (aI μ y67 x1).bind fun y71 =>
  if y71 < y65 then (
    f_St_next_J81 a0 x1 x2 μ)
  else
  (f_St_next_L53 a0 x1 μ n) (x2 + (-1 : Int32))) := rfl
theorem e_St_next_L10  {a0 : Nat} {μ : MM} {n : Nat} {x1 : Int32} : f_St_next_L10 a0 μ (n + 1) x1 = (
  if x1 < 0 then (
    f_St_next_J37 a0 x1 μ)
  else
  (rR μ a0 10 2).bind fun y15 =>
  (aI μ y15 x1).bind fun y19 =>
  (rR μ a0 10 2).bind fun y21 =>
  (aI μ y21 (x1 + (1 : Int32))).bind fun y27 =>
  if y19 < y27 then (
    f_St_next_J37 a0 x1 μ)
  else
  (f_St_next_L10 a0 μ n) (x1 + (-1 : Int32))) := rfl
theorem e_St_find_L41  {a0 : Nat} {n : Nat} {x2 : Int32} {x3 : Int32} {μ : MM} : f_St_find_L41 a0 (n + 1) x2 x3 μ = (
  if (720 : Int32) ≤ x3 then (
    some μ)
  else
  if x2 = 0 then (
    some μ)
  else
  (rR μ a0 10 1).bind fun y53 =>
  (rR μ a0 10 2).bind fun y57 =>
  (rR μ a0 10 0).bind fun y61 =>
  (rI μ y61 2 12).bind fun y64 =>
  (f_Si_sing y53 y57 y64 (0 : Int32) (0 : Int32) μ).bind fun μ69 =>
  (rR μ69 a0 10 1).bind fun y73 =>
  (f_Si_sinking y73 μ69).bind fun y76 =>
  (f_Mt_abs_J y76).bind fun y83 =>
  (rL μ69 a0 10 4).bind fun y87 =>
  (f_Mt_abs_J y87).bind fun y90 =>
  if x3 = 0 then (
    f_St_find_J129 (f_St_find_L41 a0 n) a0 x3 y76 μ69)
  else
  if (lg_cmp (y83 - y90) (0 : Int64)) < 0 then (
    f_St_find_J129 (f_St_find_L41 a0 n) a0 x3 y76 μ69)
  else
  if (lg_cmp (y83 - y90) (0 : Int64)) = 0 then (
    (rR μ69 a0 10 1).bind fun y115 =>
    (f_Si_foulTogether y115 μ69).bind fun y118 =>
    (rL μ69 a0 10 5).bind fun y122 =>
    if 0 ≤ (lg_cmp y118 y122) then (
      f_St_find_J161 (f_St_find_L41 a0 n) a0 x3 μ69)
    else
    f_St_find_J129 (f_St_find_L41 a0 n) a0 x3 y76 μ69)
  else
  f_St_find_J161 (f_St_find_L41 a0 n) a0 x3 μ69) := rfl
theorem e_M_stepsOn_L86  {a0 : Nat} {n : Nat} {x3 : Int32} {x4 : Int32} {μ : MM} : f_M_stepsOn_L86 a0 (n + 1) x3 x4 μ = (
  if x4 ≤ x3 then (
    some ((1 : Int32), μ))
  else
  (f_M_swaps a0 x3 x4 μ).bind fun μ96 =>
  (f_M_stepsOn_L86 a0 n) (x3 + (1 : Int32)) (x4 + (-1 : Int32)) μ96) := rfl
theorem e_M_stepsOn_L47  {a0 : Nat} {x1 : Int32} {μ : MM} {n : Nat} {x2 : Int32} : f_M_stepsOn_L47 a0 x1 μ (n + 1) x2 = (
  (rR μ a0 1 50).bind fun y48 =>
  (aI μ y48 x2).bind fun y52 =>
  (rR μ a0 1 50).bind fun y54 =>
  (aI μ y54 x1).bind fun y58 =>
  if y58 < y52 then (
    (f_M_swaps a0 x1 x2 μ).bind fun μ71 =>
    (rI μ71 a0 1 18).bind fun y79 =>
    f_M_stepsOn_L86 a0 FU (x1 + (1 : Int32)) (y79 - (1 : Int32)) μ71)
  else
  (f_M_stepsOn_L47 a0 x1 μ n) (x2 + (-1 : Int32))) := rfl
theorem e_M_stepsOn_L7  {a0 : Nat} {μ : MM} {n : Nat} {x1 : Int32} : f_M_stepsOn_L7 a0 μ (n + 1) x1 = (
  if x1 < 0 then (
    f_M_stepsOn_J34 a0 x1 μ)
  else
  (rR μ a0 1 50).bind fun y12 =>
  (aI μ y12 x1).bind fun y16 =>
  (rR μ a0 1 50).bind fun y18 =>
  (aI μ y18 (x1 + (1 : Int32))).bind fun y24 =>
  if y16 < y24 then (
    f_M_stepsOn_J34 a0 x1 μ)
  else
  (f_M_stepsOn_L7 a0 μ n) (x1 + (-1 : Int32))) := rfl
theorem e_M_standing_L186  {k115 : Int32 → Int64 → Int64 → Int32 → MM → Option (Int64 × MM)} {a0 : Nat} {x1 : Int32} {x2 : Int32} {x3 : Int64} {x5 : Int64} {n : Nat} {x12 : Int32} {μ : MM} : f_M_standing_L186 k115 a0 x1 x2 x3 x5 (n + 1) x12 μ = (
  (rI μ a0 1 18).bind fun y189 =>
  if y189 ≤ x12 then (
    f_M_standing_J215 k115 a0 x1 x2 x3 x5 μ)
  else
  (rR μ a0 1 68).bind fun y196 =>
  (rR μ a0 1 50).bind fun y202 =>
  (aI μ y202 x12).bind fun y207 =>
  (uI μ y196 x12 y207).bind fun μ208 =>
  (f_M_standing_L186 k115 a0 x1 x2 x3 x5 n) (x12 + (1 : Int32)) μ208) := rfl
theorem e_M_standing_L115  {a0 : Nat} {x1 : Int32} {n : Nat} {x2 : Int32} {x3 : Int64} {x5 : Int64} {x7 : Int32} {μ : MM} : f_M_standing_L115 a0 x1 (n + 1) x2 x3 x5 x7 μ = (
  if x7 = 0 then (
    if x1 = (-1 : Int32) then (
      some (x3, μ))
    else
    if x1 = (8 : Int32) then (
      some (x5, μ))
    else
    (rR μ a0 1 68).bind fun y245 =>
    (aI μ y245 x1).bind fun y249 =>
    some (y249.toInt64, μ))
  else
  (f_M_isSung a0 μ).bind fun μ121 =>
  (f_M_sunkNow a0 μ121).bind fun y125 =>
  (f_M_allFoul a0 μ121).bind fun y131 =>
  if x2 = 0 then (
    f_M_standing_J174 (f_M_standing_L115 a0 x1 n) a0 x1 y125 y131 μ121)
  else
  (f_M_plain y125).bind fun y142 =>
  (f_M_plain x3).bind fun y146 =>
  if (lg_cmp y142 y146) < 0 then (
    f_M_standing_J174 (f_M_standing_L115 a0 x1 n) a0 x1 y125 y131 μ121)
  else
  (f_M_plain y125).bind fun y155 =>
  (f_M_plain x3).bind fun y159 =>
  if (lg_cmp y155 y159) = 0 then (
    if 0 ≤ (lg_cmp y131 x5) then (
      f_M_standing_J215 (f_M_standing_L115 a0 x1 n) a0 x1 x2 x3 x5 μ121)
    else
    f_M_standing_J174 (f_M_standing_L115 a0 x1 n) a0 x1 y125 y131 μ121)
  else
  f_M_standing_J215 (f_M_standing_L115 a0 x1 n) a0 x1 x2 x3 x5 μ121) := rfl
theorem e_M_standing_L64  {k54 : Int32 → MM → Option (Int64 × MM)} {a0 : Nat} {x1 : Int32} {x2 : Int32} {n : Nat} {x3 : Int32} {μ : MM} : f_M_standing_L64 k54 a0 x1 x2 (n + 1) x3 μ = (
  if x3 ≤ 0 then (
    k54 (x2 + (1 : Int32)) μ)
  else
  (rR μ a0 1 50).bind fun y69 =>
  (aI μ y69 (x3 - (1 : Int32))).bind fun y75 =>
  (rR μ a0 1 50).bind fun y77 =>
  (aI μ y77 x3).bind fun y81 =>
  if y75 ≤ y81 then (
    k54 (x2 + (1 : Int32)) μ)
  else
  (f_M_swaps a0 (x3 - (1 : Int32)) x3 μ).bind fun μ90 =>
  (f_M_standing_L64 k54 a0 x1 x2 n) (x3 + (-1 : Int32)) μ90) := rfl
theorem e_M_standing_L54  {a0 : Nat} {x1 : Int32} {n : Nat} {x2 : Int32} {μ : MM} : f_M_standing_L54 a0 x1 (n + 1) x2 μ = (
  (rI μ a0 1 18).bind fun y56 =>
  if y56 ≤ x2 then (
    f_M_standing_L115 a0 x1 FU (0 : Int32) (0 : Int64) (0 : Int64) (1 : Int32) μ)
  else
  f_M_standing_L64 (f_M_standing_L54 a0 x1 n) a0 x1 x2 FU x2 μ) := rfl
theorem e_Le_chart_L5  {a0 : Nat} {x1 : Int32} {x2 : Int32} {n : Nat} {x3 : Int64} {x5 : Int32} {μ : MM} : f_Le_chart_L5 a0 x1 x2 (n + 1) x3 x5 μ = (
  if x2 < x5 then (
    some μ)
  else
  (rR μ a0 4 1).bind fun y13 =>
  (f_Si_off y13 x5 μ).bind fun y18 =>
  (f_Mt_abs_J y18).bind fun y21 =>
  (f_Mt_max_JJ x3 y21).bind fun y24 =>
  (rR μ a0 4 2).bind fun y29 =>
  (uL μ y29 ((x1 * (24 : Int32)) + x5) y24).bind fun μ40 =>
  (f_Le_chart_L5 a0 x1 x2 n) y24 (x5 + (1 : Int32)) μ40) := rfl
theorem e_Le_find_L175  {k100 : Int32 → MM → Option (MM)} {k137 : Int32 → MM → Option (MM)} {a0 : Nat} {x1 : Int32} {x2 : Int32} {x3 : Int32} {x4 : Int32} {x5 : Int32} {x6 : Int32} {x7 : Int32} {n : Nat} {x8 : Int32} {μ : MM} : f_Le_find_L175 k100 k137 a0 x1 x2 x3 x4 x5 x6 x7 (n + 1) x8 μ = (
  if x7 < x8 then (
    k137 (x6 + (1 : Int32)) μ)
  else
  (f_Le_farthest a0 (0 : Int32) (x8 - (1 : Int32)) μ).bind fun y188 =>
  (f_Le_farthest a0 x8 (x6 - (1 : Int32)) μ).bind fun y198 =>
  (f_Mt_max_JJ y188 y198).bind fun y201 =>
  (f_Le_farthest a0 x6 (x4 - (1 : Int32)) μ).bind fun y213 =>
  (f_Le_farthest a0 x4 x3 μ).bind fun y220 =>
  (f_Mt_max_JJ y213 y220).bind fun y223 =>
  (f_Mt_max_JJ y201 y223).bind fun y247 =>
  (f_Le_consider a0 (((ishl (1 : Int32) x8) ||| (ishl (1 : Int32) x6)) ||| (ishl (1 : Int32) x4)) y247 μ).bind fun μ250 =>
  (f_Le_find_L175 k100 k137 a0 x1 x2 x3 x4 x5 x6 x7 n) (x8 + (1 : Int32)) μ250) := rfl
theorem e_Le_find_L137  {k100 : Int32 → MM → Option (MM)} {a0 : Nat} {x1 : Int32} {x2 : Int32} {x3 : Int32} {x4 : Int32} {x5 : Int32} {n : Nat} {x6 : Int32} {μ : MM} : f_Le_find_L137 k100 a0 x1 x2 x3 x4 x5 (n + 1) x6 μ = (
  if x5 < x6 then (
    k100 (x4 + (1 : Int32)) μ)
  else
  if x1 ≤ (2 : Int32) then (
    f_Le_find_J158 k100 (f_Le_find_L137 k100 a0 x1 x2 x3 x4 x5 n) a0 x1 x2 x3 x4 x5 x6 x6 μ)
  else
  f_Le_find_J158 k100 (f_Le_find_L137 k100 a0 x1 x2 x3 x4 x5 n) a0 x1 x2 x3 x4 x5 x6 (x6 - (1 : Int32)) μ) := rfl
theorem e_Le_find_L100  {a0 : Nat} {x1 : Int32} {x2 : Int32} {x3 : Int32} {n : Nat} {x4 : Int32} {μ : MM} : f_Le_find_L100 a0 x1 x2 x3 (n + 1) x4 μ = (
  if x3 < x4 then (
    some μ)
  else
  if x1 ≤ (1 : Int32) then (
    f_Le_find_J120 (f_Le_find_L100 a0 x1 x2 x3 n) a0 x1 x2 x3 x4 x4 μ)
  else
  f_Le_find_J120 (f_Le_find_L100 a0 x1 x2 x3 n) a0 x1 x2 x3 x4 (x4 - (1 : Int32)) μ) := rfl
theorem e_Le_find_L44  {a0 : Nat} {x1 : Int32} {x2 : Int32} {x3 : Int32} {n : Nat} {x4 : Int32} {μ : MM} : f_Le_find_L44 a0 x1 x2 x3 (n + 1) x4 μ = (
  if x3 < x4 then (
    (pI μ a0 4 3 (0 : Int32)).bind fun μ85 =>
    (pL μ85 a0 4 4 (9223372036854775807 : Int64)).bind fun μ92 =>
    f_Le_find_L100 a0 x1 x2 x3 FU (x2 + (1 : Int32)) μ92)
  else
  (rR μ a0 4 1).bind fun y51 =>
  (rR μ a0 4 0).bind fun y55 =>
  (rR μ y55 2 2).bind fun y58 =>
  (f_Si_sing y51 y58 (ishl (1 : Int32) x4) (0 : Int32) (0 : Int32) μ).bind fun μ67 =>
  (f_Le_chart a0 x4 x3 μ67).bind fun μ74 =>
  (f_Le_find_L44 a0 x1 x2 x3 n) (x4 + (1 : Int32)) μ74) := rfl
theorem e_M_farthest_L4  {a0 : Nat} {μ : MM} {n : Nat} {x1 : Int64} {x3 : Int32} : f_M_farthest_L4 a0 μ (n + 1) x1 x3 = (
  if (24 : Int32) ≤ x3 then (
    some x1)
  else
  (f_M_singing a0 x3 μ).bind fun y12 =>
  if y12 = 0 then (
    (f_M_farthest_L4 a0 μ n) x1 (x3 + (1 : Int32)))
  else
  (f_M_offOf a0 x3 μ).bind fun y23 =>
  (f_M_plain y23).bind fun y26 =>
  if (lg_cmp y26 x1) ≤ 0 then (
    (f_M_farthest_L4 a0 μ n) x1 (x3 + (1 : Int32)))
  else
  (f_M_farthest_L4 a0 μ n) y26 (x3 + (1 : Int32))) := rfl
theorem e_M_leader_L148  {k87 : Int32 → Int64 → Int32 → MM → Option (Int64 × MM)} {k117 : Int32 → Int64 → Int32 → MM → Option (Int64 × MM)} {a0 : Nat} {x1 : Int32} {x2 : Int32} {x3 : Int32} {x4 : Int32} {x8 : Int32} {x9 : Int32} {n : Nat} {x5 : Int32} {x6 : Int64} {x10 : Int32} {μ : MM} : f_M_leader_L148 k87 k117 a0 x1 x2 x3 x4 x8 x9 (n + 1) x5 x6 x10 μ = (
  if x1 ≤ (1 : Int32) then (
    f_M_leader_J164 k87 k117 (f_M_leader_L148 k87 k117 a0 x1 x2 x3 x4 x8 x9 n) a0 x1 x2 x3 x4 x5 x6 x8 x9 x10 x10 x4 μ)
  else
  f_M_leader_J164 k87 k117 (f_M_leader_L148 k87 k117 a0 x1 x2 x3 x4 x8 x9 n) a0 x1 x2 x3 x4 x5 x6 x8 x9 x10 x10 (x9 - (1 : Int32)) μ) := rfl
theorem e_M_leader_L117  {k87 : Int32 → Int64 → Int32 → MM → Option (Int64 × MM)} {a0 : Nat} {x1 : Int32} {x2 : Int32} {x3 : Int32} {x4 : Int32} {x8 : Int32} {n : Nat} {x5 : Int32} {x6 : Int64} {x9 : Int32} {μ : MM} : f_M_leader_L117 k87 a0 x1 x2 x3 x4 x8 (n + 1) x5 x6 x9 μ = (
  if x1 ≤ (2 : Int32) then (
    if x1 ≤ (1 : Int32) then (
      f_M_leader_J142 k87 (f_M_leader_L117 k87 a0 x1 x2 x3 x4 x8 n) a0 x1 x2 x3 x4 x5 x6 x8 x9 x9 (-1 : Int32) μ)
    else
    f_M_leader_J142 k87 (f_M_leader_L117 k87 a0 x1 x2 x3 x4 x8 n) a0 x1 x2 x3 x4 x5 x6 x8 x9 x9 x4 μ)
  else
  f_M_leader_J142 k87 (f_M_leader_L117 k87 a0 x1 x2 x3 x4 x8 n) a0 x1 x2 x3 x4 x5 x6 x8 x9 x9 (x8 - (1 : Int32)) μ) := rfl
theorem e_M_leader_L87  {a0 : Nat} {x1 : Int32} {x2 : Int32} {x3 : Int32} {x4 : Int32} {n : Nat} {x5 : Int32} {x6 : Int64} {x8 : Int32} {μ : MM} : f_M_leader_L87 a0 x1 x2 x3 x4 (n + 1) x5 x6 x8 μ = (
  if x1 ≤ (2 : Int32) then (
    f_M_leader_J100 (f_M_leader_L87 a0 x1 x2 x3 x4 n) a0 x1 x2 x3 x4 x5 x6 x8 x8 (-1 : Int32) μ)
  else
  f_M_leader_J100 (f_M_leader_L87 a0 x1 x2 x3 x4 n) a0 x1 x2 x3 x4 x5 x6 x8 x8 x4 μ) := rfl
theorem e_X_worst_L4  {a0 : Nat} {μ : MM} {n : Nat} {x1 : Int32} {x2 : Int32} : f_X_worst_L4 a0 μ (n + 1) x1 x2 = (
  if (24 : Int32) ≤ x2 then (
    some x1)
  else
  (rR μ a0 0 0).bind fun y11 =>
  (f_Sc_soundsIn y11 x2 μ).bind fun y15 =>
  if y15 = 0 then (
    (f_X_worst_L4 a0 μ n) x1 (x2 + (1 : Int32)))
  else
  if x1 = (-1 : Int32) then (
    (f_X_worst_L4 a0 μ n) x2 (x2 + (1 : Int32)))
  else
  (rR μ a0 0 1).bind fun y27 =>
  (f_Ch_tableFoul y27 x2 μ).bind fun y31 =>
  (rR μ a0 0 1).bind fun y35 =>
  (f_Ch_tableFoul y35 x1 μ).bind fun y39 =>
  if (lg_cmp y31 y39) ≤ 0 then (
    (f_X_worst_L4 a0 μ n) x1 (x2 + (1 : Int32)))
  else
  (f_X_worst_L4 a0 μ n) x2 (x2 + (1 : Int32))) := rfl
theorem e_M_worst_L19  {k8 : Int32 → Int32 → Option (Int32 × MM)} {a0 : Nat} {x1 : Int32} {x2 : Int32} {μ : MM} {n : Nat} {x3 : Int32} {x4 : Int32} : f_M_worst_L19 k8 a0 x1 x2 μ (n + 1) x3 x4 = (
  if (6 : Int32) ≤ x4 then (
    if x3 = 0 then (
      k8 x1 (x2 + (1 : Int32)))
    else
    if x1 = (-1 : Int32) then (
      k8 x2 (x2 + (1 : Int32)))
    else
    (f_M_tableFoul a0 x2 μ).bind fun y63 =>
    (f_M_tableFoul a0 x1 μ).bind fun y68 =>
    if (lg_cmp y63 y68) ≤ 0 then (
      k8 x1 (x2 + (1 : Int32)))
    else
    k8 x2 (x2 + (1 : Int32)))
  else
  if x3 = 0 then (
    (f_M_isNote a0 x4 x2 μ).bind fun y34 =>
    if y34 = 0 then (
      (f_M_worst_L19 k8 a0 x1 x2 μ n) (0 : Int32) (x4 + (1 : Int32)))
    else
    (f_M_worst_L19 k8 a0 x1 x2 μ n) (1 : Int32) (x4 + (1 : Int32)))
  else
  (f_M_worst_L19 k8 a0 x1 x2 μ n) (1 : Int32) (x4 + (1 : Int32))) := rfl
theorem e_M_worst_L8  {a0 : Nat} {μ : MM} {n : Nat} {x1 : Int32} {x2 : Int32} : f_M_worst_L8 a0 μ (n + 1) x1 x2 = (
  if (24 : Int32) ≤ x2 then (
    some (x1, μ))
  else
  f_M_worst_L19 (f_M_worst_L8 a0 μ n) a0 x1 x2 μ FU (0 : Int32) (0 : Int32)) := rfl
theorem e_M_knows_L23  {a0 : Nat} {x1 : Int64} {n : Nat} {x3 : Int32} {μ : MM} : f_M_knows_L23 a0 x1 (n + 1) x3 μ = (
  (rI μ a0 1 18).bind fun y25 =>
  if y25 ≤ x3 then (
    (f_M_isSung a0 μ).bind fun μ45 =>
    (f_M_sunkNow a0 μ45).bind fun y50 =>
    some ((x1 - y50), μ45))
  else
  (rR μ a0 1 51).bind fun y32 =>
  (uI μ y32 x3 (0 : Int32)).bind fun μ37 =>
  (f_M_knows_L23 a0 x1 n) (x3 + (1 : Int32)) μ37) := rfl
theorem e_Ar_fill_BJ_L6  {a0 : Nat} {x1 : Int64} {x4 : Int32} {n : Nat} {x3 : Int32} {μ : MM} : f_Ar_fill_BJ_L6 a0 x1 x4 (n + 1) x3 μ = (
  if x4 ≤ x3 then (
    some μ)
  else
  (uL μ a0 x3 x1).bind fun μ15 =>
  (f_Ar_fill_BJ_L6 a0 x1 x4 n) (x3 + (1 : Int32)) μ15) := rfl
theorem e_Ch_lastRecord_L4  {a0 : Nat} {x1 : Int32} {μ : MM} {n : Nat} {x3 : Int32} : f_Ch_lastRecord_L4 a0 x1 μ (n + 1) x3 = (
  if x3 < 0 then (
    some (-1 : Int32))
  else
  (f_Ch_isRecorded a0 x1 x3 μ).bind fun y11 =>
  if y11 = 0 then (
    (f_Ch_lastRecord_L4 a0 x1 μ n) (x3 + (-1 : Int32)))
  else
  some x3) := rfl
theorem e_Fi_addBeat_L33  {a0 : Nat} {x1 : Int32} {x2 : Int32} {n : Nat} {x4 : Int32} {μ : MM} : f_Fi_addBeat_L33 a0 x1 x2 (n + 1) x4 μ = (
  if (64 : Int32) ≤ x4 then (
    some μ)
  else
  (rR μ a0 3 2).bind fun y41 =>
  (f_Si_blend y41 (ishr x4 (4 : Int32)) ((ishr x4 (2 : Int32)) &&& (3 : Int32)) (x4 &&& (3 : Int32)) (0 : Int32) μ).bind fun y59 =>
  (rR μ a0 3 3).bind fun y65 =>
  (aL μ y65 x4).bind fun y71 =>
  (rR μ a0 3 1).bind fun y75 =>
  (f_Ch_recordOf y75 x1 x2 μ).bind fun y80 =>
  (f_Mt_abs_J (y59 - y80.toInt64)).bind fun y85 =>
  (uL μ y65 x4 (y71 + y85)).bind fun μ89 =>
  (f_Fi_addBeat_L33 a0 x1 x2 n) (x4 + (1 : Int32)) μ89) := rfl
theorem e_Fi_find_L47  {a0 : Nat} {x1 : Int32} {n : Nat} {x2 : Int32} {μ : MM} : f_Fi_find_L47 a0 x1 (n + 1) x2 μ = (
  if (64 : Int32) ≤ x2 then (
    (rR μ a0 3 1).bind fun y84 =>
    (f_Ch_lastRecord y84 x1 (24 : Int32) μ).bind fun y90 =>
    if y90 = (-1 : Int32) then (
      some ((0 : Int32), μ))
    else
    some ((1 : Int32), μ))
  else
  (rR μ a0 3 3).bind fun y54 =>
  (aL μ y54 x2).bind fun y58 =>
  (rR μ a0 3 3).bind fun y60 =>
  (rI μ a0 3 4).bind fun y64 =>
  (aL μ y60 y64).bind fun y67 =>
  if 0 ≤ (lg_cmp y58 y67) then (
    (f_Fi_find_L47 a0 x1 n) (x2 + (1 : Int32)) μ)
  else
  (pI μ a0 3 4 x2).bind fun μ74 =>
  (f_Fi_find_L47 a0 x1 n) (x2 + (1 : Int32)) μ74) := rfl
theorem e_Fi_find_L10  {a0 : Nat} {x1 : Int32} {n : Nat} {x2 : Int32} {μ : MM} : f_Fi_find_L10 a0 x1 (n + 1) x2 μ = (
  if (24 : Int32) ≤ x2 then (
    (pI μ a0 3 4 (1 : Int32)).bind fun μ42 =>
    f_Fi_find_L47 a0 x1 FU (2 : Int32) μ42)
  else
  (rR μ a0 3 1).bind fun y17 =>
  (f_Ch_isRecorded y17 x1 x2 μ).bind fun y22 =>
  if y22 = 0 then (
    (f_Fi_find_L10 a0 x1 n) (x2 + (1 : Int32)) μ)
  else
  (f_Fi_addBeat a0 x1 x2 μ).bind fun μ31 =>
  (f_Fi_find_L10 a0 x1 n) (x2 + (1 : Int32)) μ31) := rfl
theorem e_M_differs_L9  {a0 : Nat} {x1 : Int32} {x2 : Int32} {x3 : Int32} {x4 : Int32} {n : Nat} {x5 : Int64} {x7 : Int32} {x8 : Int32} {μ : MM} : f_M_differs_L9 a0 x1 x2 x3 x4 (n + 1) x5 x7 x8 μ = (
  if (24 : Int32) ≤ x8 then (
    some (x5, μ))
  else
  (f_M_isTaped a0 x1 x8 μ).bind fun y20 =>
  if y20 = 0 then (
    (f_M_differs_L9 a0 x1 x2 x3 x4 n) x5 x7 (x8 + (1 : Int32)) μ)
  else
  (f_M_listens a0 x1 x8 μ).bind fun μ33 =>
  if x7 = (-1 : Int32) then (
    f_M_differs_J48 (f_M_differs_L9 a0 x1 x2 x3 x4 n) a0 x1 x2 x3 x4 x5 x7 x8 a0 (0 : Int32) μ33)
  else
  f_M_differs_J48 (f_M_differs_L9 a0 x1 x2 x3 x4 n) a0 x1 x2 x3 x4 x5 x7 x8 a0 (1 : Int32) μ33) := rfl
theorem e_M_fit_L85  {a0 : Nat} {x1 : Int32} {x2 : Int32} {n : Nat} {x4 : Int32} {x5 : Int64} {x7 : Int32} {μ : MM} : f_M_fit_L85 a0 x1 x2 (n + 1) x4 x5 x7 μ = (
  if (64 : Int32) ≤ x7 then (
    if x2 = 0 then (
      some ((x4 / (16 : Int32)).toInt64, μ))
    else
    if x2 = (1 : Int32) then (
      some ((irem (x4 / (4 : Int32)) (4 : Int32)).toInt64, μ))
    else
    if x2 = (2 : Int32) then (
      some ((irem x4 (4 : Int32)).toInt64, μ))
    else
    some (x5, μ))
  else
  (f_M_differs a0 x1 (x7 / (16 : Int32)) (irem (x7 / (4 : Int32)) (4 : Int32)) (irem x7 (4 : Int32)) μ).bind fun q109 =>
  if (lg_cmp q109.1 x5) < 0 then (
    (f_M_fit_L85 a0 x1 x2 n) x7 q109.1 (x7 + (1 : Int32)) q109.2)
  else
  (f_M_fit_L85 a0 x1 x2 n) x4 x5 (x7 + (1 : Int32)) q109.2) := rfl
theorem e_M_fit_L29  {a0 : Nat} {x1 : Int32} {x2 : Int32} {μ : MM} {n : Nat} {x3 : Int32} {x4 : Int32} : f_M_fit_L29 a0 x1 x2 μ (n + 1) x3 x4 = (
  if (24 : Int32) ≤ x4 then (
    if x3 = 0 then (
      some ((-2 : Int64), μ))
    else
    (f_M_plainly a0 μ).bind fun μ71 =>
    f_M_fit_L85 a0 x1 x2 FU (0 : Int32) (1000000000000000 : Int64) (1 : Int32) μ71)
  else
  if x3 = 0 then (
    (f_M_isTaped a0 x1 x4 μ).bind fun y44 =>
    if y44 = 0 then (
      (f_M_fit_L29 a0 x1 x2 μ n) (0 : Int32) (x4 + (1 : Int32)))
    else
    (f_M_fit_L29 a0 x1 x2 μ n) (1 : Int32) (x4 + (1 : Int32)))
  else
  (f_M_fit_L29 a0 x1 x2 μ n) (1 : Int32) (x4 + (1 : Int32))) := rfl
theorem e_X_mind_L71  {a0 : Nat} {x1 : Int32} {x2 : Int32} {x3 : Int32} {n : Nat} {x5 : Int64} {x7 : Int32} {x8 : Int32} {μ : MM} : f_X_mind_L71 a0 x1 x2 x3 (n + 1) x5 x7 x8 μ = (
  if (12 : Int32) ≤ x8 then (
    f_X_mind_J114 x3 x5 x7 μ)
  else
  if x3 ≤ 0 then (
    f_X_mind_J114 x3 x5 x7 μ)
  else
  (f_X_minded a0 x1 x2 x8 μ).bind fun q87 =>
  if 0 ≤ (lg_cmp q87.1 x5) then (
    (f_X_mind_L71 a0 x1 x2 x3 n) x5 x7 (x8 + (1 : Int32)) q87.2)
  else
  (f_X_mind_L71 a0 x1 x2 x3 n) q87.1 x8 (x8 + (1 : Int32)) q87.2) := rfl
theorem e_M_mind_L77  {a0 : Nat} {x1 : Int32} {x2 : Int32} {x3 : Int32} {n : Nat} {x6 : Int32} {x7 : Int64} {x9 : Int32} {μ : MM} : f_M_mind_L77 a0 x1 x2 x3 (n + 1) x6 x7 x9 μ = (
  if (12 : Int32) ≤ x9 then (
    (pI μ a0 1 53 (0 : Int32)).bind fun μ129 =>
    if x3 = (1 : Int32) then (
      some (x7, μ129))
    else
    some (x6.toInt64, μ129))
  else
  (pI μ a0 1 53 x9).bind fun μ87 =>
  (f_M_isSung a0 μ87).bind fun μ91 =>
  (f_M_minds a0 x1 x2 μ91).bind fun y97 =>
  if (lg_cmp y97 x7) < 0 then (
    (f_M_mind_L77 a0 x1 x2 x3 n) x9 y97 (x9 + (1 : Int32)) μ91)
  else
  (f_M_mind_L77 a0 x1 x2 x3 n) x6 x7 (x9 + (1 : Int32)) μ91) := rfl
theorem e_X_firstWrong_L18  {k4 : Int32 → Int32 → Option (Int32)} {a0 : Nat} {x1 : Int32} {x3 : Int32} {μ : MM} {n : Nat} {x2 : Int32} {x4 : Int32} : f_X_firstWrong_L18 k4 a0 x1 x3 μ (n + 1) x2 x4 = (
  if (24 : Int32) ≤ x4 then (
    k4 x2 (x3 + (1 : Int32)))
  else
  (rR μ a0 0 1).bind fun y26 =>
  (f_Ch_sings y26 x3 x4 μ).bind fun y32 =>
  if y32 = 0 then (
    (f_X_firstWrong_L18 k4 a0 x1 x3 μ n) x2 (x4 + (1 : Int32)))
  else
  if x2 = x1 then (
    f_X_firstWrong_J60 x2 μ)
  else
  (rR μ a0 0 6).bind fun y47 =>
  (f_Rl_number y47 ((3 : Int32) * x2) μ).bind fun y53 =>
  if y53 = x3 then (
    (rR μ a0 0 6).bind fun y65 =>
    (f_Rl_number y65 (((3 : Int32) * x2) + (1 : Int32)) μ).bind fun y73 =>
    if y73 = x4 then (
      (rR μ a0 0 6).bind fun y88 =>
      (f_Rl_number y88 (((3 : Int32) * x2) + (2 : Int32)) μ).bind fun y96 =>
      (rR μ a0 0 2).bind fun y101 =>
      (f_Si_sung y101 x3 x4 μ).bind fun y107 =>
      if (lg_cmp y96.toInt64 y107) = 0 then (
        (f_X_firstWrong_L18 k4 a0 x1 x3 μ n) (x2 + (1 : Int32)) (x4 + (1 : Int32)))
      else
      some (((3 : Int32) * x2) + (2 : Int32)))
    else
    some (((3 : Int32) * x2) + (1 : Int32)))
  else
  f_X_firstWrong_J60 x2 μ) := rfl
theorem e_X_firstWrong_L4  {a0 : Nat} {x1 : Int32} {μ : MM} {n : Nat} {x2 : Int32} {x3 : Int32} : f_X_firstWrong_L4 a0 x1 μ (n + 1) x2 x3 = (
  (rR μ a0 0 1).bind fun y6 =>
  (rI μ y6 2 9).bind fun y9 =>
  if y9 ≤ x3 then (
    if x2 = x1 then (
      some (-1 : Int32))
    else
    some ((3 : Int32) * x2))
  else
  f_X_firstWrong_L18 (f_X_firstWrong_L4 a0 x1 μ n) a0 x1 x3 μ FU x2 (0 : Int32)) := rfl
theorem e_M_numberAt_L4  {a0 : Nat} {x1 : Int32} {μ : MM} {n : Nat} {x2 : Int32} {x3 : Int32} : f_M_numberAt_L4 a0 x1 μ (n + 1) x2 x3 = (
  if (4 : Int32) ≤ x3 then (
    some x2)
  else
  (rR μ a0 1 0).bind fun y14 =>
  (aB μ y14 (((4 : Int32) * x1) + x3)).bind fun y22 =>
  (f_M_numberAt_L4 a0 x1 μ n) ((ishl x2 (8 : Int32)) ||| (y22 &&& (255 : Int32))) (x3 + (1 : Int32))) := rfl
theorem e_M_check_L42  {k31 : Int32 → Int32 → Option (Int32 × MM)} {a0 : Nat} {x1 : Int32} {x3 : Int32} {μ : MM} {n : Nat} {x2 : Int32} {x4 : Int32} : f_M_check_L42 k31 a0 x1 x3 μ (n + 1) x2 x4 = (
  if (24 : Int32) ≤ x4 then (
    k31 x2 (x3 + (1 : Int32)))
  else
  (f_M_sings a0 x3 x4 μ).bind fun y53 =>
  if y53 = 0 then (
    (f_M_check_L42 k31 a0 x1 x3 μ n) x2 (x4 + (1 : Int32)))
  else
  if x2 = x1 then (
    some (((3 : Int32) * x1), μ))
  else
  (f_M_numberAt a0 ((3 : Int32) * x2) μ).bind fun y75 =>
  if y75 = x3 then (
    (f_M_numberAt a0 (((3 : Int32) * x2) + (1 : Int32)) μ).bind fun y92 =>
    if y92 = x4 then (
      (f_M_numberAt a0 (((3 : Int32) * x2) + (2 : Int32)) μ).bind fun y112 =>
      (rR μ a0 1 54).bind fun y116 =>
      (aI μ y116 (((24 : Int32) * x3) + x4)).bind fun y126 =>
      if y112 = y126 then (
        (f_M_check_L42 k31 a0 x1 x3 μ n) (x2 + (1 : Int32)) (x4 + (1 : Int32)))
      else
      some ((((3 : Int32) * x2) + (2 : Int32)), μ))
    else
    some ((((3 : Int32) * x2) + (1 : Int32)), μ))
  else
  some (((3 : Int32) * x2), μ)) := rfl
theorem e_M_check_L31  {a0 : Nat} {x1 : Int32} {μ : MM} {n : Nat} {x2 : Int32} {x3 : Int32} : f_M_check_L31 a0 x1 μ (n + 1) x2 x3 = (
  (rI μ a0 1 18).bind fun y33 =>
  if y33 ≤ x3 then (
    if x2 = x1 then (
      some ((-1 : Int32), μ))
    else
    some (((3 : Int32) * x2), μ))
  else
  f_M_check_L42 (f_M_check_L31 a0 x1 μ n) a0 x1 x3 μ FU x2 (0 : Int32)) := rfl
theorem e_Sc_noteCount_L4  {a0 : Nat} {μ : MM} {n : Nat} {x1 : Int32} {x2 : Int32} : f_Sc_noteCount_L4 a0 μ (n + 1) x1 x2 = (
  if (144 : Int32) ≤ x2 then (
    some x1)
  else
  (rR μ a0 8 0).bind fun y13 =>
  (aI μ y13 x2).bind fun y17 =>
  if y17 = (-1 : Int32) then (
    (f_Sc_noteCount_L4 a0 μ n) (x1 + (0 : Int32)) (x2 + (1 : Int32)))
  else
  (f_Sc_noteCount_L4 a0 μ n) (x1 + (1 : Int32)) (x2 + (1 : Int32))) := rfl
theorem e_Sc_linkCount_L4  {a0 : Nat} {μ : MM} {n : Nat} {x1 : Int32} {x2 : Int32} : f_Sc_linkCount_L4 a0 μ (n + 1) x1 x2 = (
  if (24 : Int32) ≤ x2 then (
    some x1)
  else
  (rR μ a0 8 4).bind fun y12 =>
  (aI μ y12 x2).bind fun y16 =>
  if y16 = (-1 : Int32) then (
    (f_Sc_linkCount_L4 a0 μ n) (x1 + (0 : Int32)) (x2 + (1 : Int32)))
  else
  (f_Sc_linkCount_L4 a0 μ n) (x1 + (1 : Int32)) (x2 + (1 : Int32))) := rfl
theorem e_M_sizeOf_L4  {n : Nat} {x1 : Int32} {x2 : Int32} : f_M_sizeOf_L4 (n + 1) x1 x2 = (
  if x2 = 0 then (
    some x1)
  else
  (f_M_sizeOf_L4 n) (x1 + (1 : Int32)) (x2 &&& (x2 - (1 : Int32)))) := rfl
theorem e_M_count_L64  {a0 : Nat} {x1 : Int32} {x2 : Int32} {μ : MM} {n : Nat} {x3 : Int32} {x4 : Int32} : f_M_count_L64 a0 x1 x2 μ (n + 1) x3 x4 = (
  if (24 : Int32) ≤ x4 then (
    if x1 = (0 : Int32) then (
      (rI μ a0 1 18).bind fun y145 =>
      some y145)
    else
    if x1 = (1 : Int32) then (
      (rI μ a0 1 1).bind fun y150 =>
      some y150)
    else
    if x1 = (2 : Int32) then (
      (rI μ a0 1 27).bind fun y155 =>
      some y155)
    else
    if x1 = (3 : Int32) then (
      some x2)
    else
    if x1 = (4 : Int32) then (
      some x3)
    else
    if x1 = (5 : Int32) then (
      (rI μ a0 1 19).bind fun y164 =>
      some y164)
    else
    if x1 = (6 : Int32) then (
      (rI μ a0 1 20).bind fun y169 =>
      some y169)
    else
    if x1 = (7 : Int32) then (
      (rI μ a0 1 21).bind fun y174 =>
      (f_M_sizeOf y174).bind fun y177 =>
      some y177)
    else
    some (-1 : Int32))
  else
  (rR μ a0 1 7).bind fun y73 =>
  (aI μ y73 x4).bind fun y78 =>
  if y78 = (-1 : Int32) then (
    (f_M_count_L64 a0 x1 x2 μ n) (x3 + (0 : Int32)) (x4 + (1 : Int32)))
  else
  (f_M_count_L64 a0 x1 x2 μ n) (x3 + (1 : Int32)) (x4 + (1 : Int32))) := rfl
theorem e_M_count_L28  {a0 : Nat} {x1 : Int32} {x3 : Int32} {μ : MM} {n : Nat} {x2 : Int32} {x4 : Int32} : f_M_count_L28 a0 x1 x3 μ (n + 1) x2 x4 = (
  if (144 : Int32) ≤ x4 then (
    f_M_count_L64 a0 x1 x2 μ FU x3 (0 : Int32))
  else
  (rR μ a0 1 2).bind fun y38 =>
  (aI μ y38 x4).bind fun y43 =>
  if y43 = (-1 : Int32) then (
    (f_M_count_L28 a0 x1 x3 μ n) (x2 + (0 : Int32)) (x4 + (1 : Int32)))
  else
  (f_M_count_L28 a0 x1 x3 μ n) (x2 + (1 : Int32)) (x4 + (1 : Int32))) := rfl
