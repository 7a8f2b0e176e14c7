theorem bp_6 : (Int8.ofInt 6).toInt32 = 6 := by decide
theorem bp_31 : (Int8.ofInt 31).toInt32 = 31 := by decide
theorem ic_5 : Int32.ofInt 5 = 5 := by decide
theorem ic_6 : Int32.ofInt 6 = 6 := by decide
theorem wm_RL_13 : Cond.methodLink "LitWindowsLaw" 13 yX10_feed ∈ TW := TW_of 479 (by decide +kernel) (by decide +kernel)
theorem wm_RL_17 : Cond.methodLink "LitWindowsLaw" 17 yX11_feed ∈ TW := TW_of 1184 (by decide +kernel) (by decide +kernel)
theorem wm_RL_18 : Cond.methodLink "LitWindowsLaw" 18 yX10_end ∈ TW := TW_of 491 (by decide +kernel) (by decide +kernel)
theorem wm_RL_22 : Cond.methodLink "LitWindowsLaw" 22 yX11_end ∈ TW := TW_of 1188 (by decide +kernel) (by decide +kernel)
theorem wm_RL_23 : Cond.methodLink "LitWindowsLaw" 23 yX10_fault ∈ TW := TW_of 495 (by decide +kernel) (by decide +kernel)
theorem wm_RL_27 : Cond.methodLink "LitWindowsLaw" 27 yX11_fault ∈ TW := TW_of 1195 (by decide +kernel) (by decide +kernel)
theorem wm_RL_28 : Cond.methodLink "LitWindowsLaw" 28 yX10_plant ∈ TW := TW_of 690 (by decide +kernel) (by decide +kernel)
theorem wm_RL_31 : Cond.methodLink "LitWindowsLaw" 31 yX11_plant ∈ TW := TW_of 1272 (by decide +kernel) (by decide +kernel)
theorem wm_RL_32 : Cond.methodLink "LitWindowsLaw" 32 yX10_stick ∈ TW := TW_of 714 (by decide +kernel) (by decide +kernel)
theorem wm_RL_36 : Cond.methodLink "LitWindowsLaw" 36 yX11_stick ∈ TW := TW_of 1277 (by decide +kernel) (by decide +kernel)
theorem wm_RL_37 : Cond.methodLink "LitWindowsLaw" 37 yX10_window ∈ TW := TW_of 722 (by decide +kernel) (by decide +kernel)
theorem wm_RL_41 : Cond.methodLink "LitWindowsLaw" 41 yX11_window ∈ TW := TW_of 1285 (by decide +kernel) (by decide +kernel)
theorem wm_RL_42 : Cond.methodLink "LitWindowsLaw" 42 yX10_fails ∈ TW := TW_of 730 (by decide +kernel) (by decide +kernel)
theorem wm_RL_45 : Cond.methodLink "LitWindowsLaw" 45 yX11_fails ∈ TW := TW_of 1289 (by decide +kernel) (by decide +kernel)
theorem wm_RL_46 : Cond.methodLink "LitWindowsLaw" 46 yX10_lit ∈ TW := TW_of 771 (by decide +kernel) (by decide +kernel)
theorem wm_RL_49 : Cond.methodLink "LitWindowsLaw" 49 yX11_lit ∈ TW := TW_of 1310 (by decide +kernel) (by decide +kernel)
theorem wm_RL_50 : Cond.methodLink "LitWindowsLaw" 50 yX10_first ∈ TW := TW_of 785 (by decide +kernel) (by decide +kernel)
theorem wm_RL_53 : Cond.methodLink "LitWindowsLaw" 53 yX11_first ∈ TW := TW_of 1318 (by decide +kernel) (by decide +kernel)
theorem wm_RL_54 : Cond.methodLink "LitWindowsLaw" 54 yX10_horns ∈ TW := TW_of 794 (by decide +kernel) (by decide +kernel)
theorem wm_RL_57 : Cond.methodLink "LitWindowsLaw" 57 yX11_horns ∈ TW := TW_of 1326 (by decide +kernel) (by decide +kernel)
theorem wm_RL_58 : Cond.methodLink "LitWindowsLaw" 58 yX10_log ∈ TW := TW_of 807 (by decide +kernel) (by decide +kernel)
theorem wm_RL_61 : Cond.methodLink "LitWindowsLaw" 61 yX11_log ∈ TW := TW_of 1330 (by decide +kernel) (by decide +kernel)
theorem wm_RL_62 : Cond.methodLink "LitWindowsLaw" 62 yX10_erase ∈ TW := TW_of 822 (by decide +kernel) (by decide +kernel)
theorem wm_RL_65 : Cond.methodLink "LitWindowsLaw" 65 yX11_erase ∈ TW := TW_of 1334 (by decide +kernel) (by decide +kernel)
theorem wm_RL_66 : Cond.methodLink "LitWindowsLaw" 66 yX10_joined ∈ TW := TW_of 826 (by decide +kernel) (by decide +kernel)
theorem wm_RL_70 : Cond.methodLink "LitWindowsLaw" 70 yX11_joined ∈ TW := TW_of 1338 (by decide +kernel) (by decide +kernel)
theorem wm_RL_71 : Cond.methodLink "LitWindowsLaw" 71 yX10_off ∈ TW := TW_of 838 (by decide +kernel) (by decide +kernel)
theorem wm_RL_74 : Cond.methodLink "LitWindowsLaw" 74 yX11_off ∈ TW := TW_of 1342 (by decide +kernel) (by decide +kernel)
theorem wm_RL_75 : Cond.methodLink "LitWindowsLaw" 75 yX10_explain ∈ TW := TW_of 842 (by decide +kernel) (by decide +kernel)
theorem wm_RL_78 : Cond.methodLink "LitWindowsLaw" 78 yX11_explain ∈ TW := TW_of 1346 (by decide +kernel) (by decide +kernel)
theorem wm_RL_79 : Cond.methodLink "LitWindowsLaw" 79 yX10_altered ∈ TW := TW_of 889 (by decide +kernel) (by decide +kernel)
theorem wm_RL_82 : Cond.methodLink "LitWindowsLaw" 82 yX11_altered ∈ TW := TW_of 1365 (by decide +kernel) (by decide +kernel)
theorem wm_RL_83 : Cond.methodLink "LitWindowsLaw" 83 yX10_rest ∈ TW := TW_of 893 (by decide +kernel) (by decide +kernel)
theorem wm_RL_87 : Cond.methodLink "LitWindowsLaw" 87 yX11_rest ∈ TW := TW_of 1369 (by decide +kernel) (by decide +kernel)
theorem wm_RL_88 : Cond.methodLink "LitWindowsLaw" 88 yX10_till ∈ TW := TW_of 897 (by decide +kernel) (by decide +kernel)
theorem wm_RL_91 : Cond.methodLink "LitWindowsLaw" 91 yX11_till ∈ TW := TW_of 1373 (by decide +kernel) (by decide +kernel)
theorem wm_RL_92 : Cond.methodLink "LitWindowsLaw" 92 yX10_board ∈ TW := TW_of 901 (by decide +kernel) (by decide +kernel)
theorem wm_RL_96 : Cond.methodLink "LitWindowsLaw" 96 yX11_board ∈ TW := TW_of 1377 (by decide +kernel) (by decide +kernel)
theorem wm_RL_97 : Cond.methodLink "LitWindowsLaw" 97 yX10_harm ∈ TW := TW_of 914 (by decide +kernel) (by decide +kernel)
theorem wm_RL_100 : Cond.methodLink "LitWindowsLaw" 100 yX11_harm ∈ TW := TW_of 1389 (by decide +kernel) (by decide +kernel)
theorem wm_RL_101 : Cond.methodLink "LitWindowsLaw" 101 yX10_change ∈ TW := TW_of 949 (by decide +kernel) (by decide +kernel)
theorem wm_RL_104 : Cond.methodLink "LitWindowsLaw" 104 yX11_change ∈ TW := TW_of 1405 (by decide +kernel) (by decide +kernel)
theorem wm_RL_105 : Cond.methodLink "LitWindowsLaw" 105 yX10_told ∈ TW := TW_of 957 (by decide +kernel) (by decide +kernel)
theorem wm_RL_108 : Cond.methodLink "LitWindowsLaw" 108 yX11_told ∈ TW := TW_of 1417 (by decide +kernel) (by decide +kernel)
theorem wm_RL_109 : Cond.methodLink "LitWindowsLaw" 109 yX10_wall ∈ TW := TW_of 1002 (by decide +kernel) (by decide +kernel)
theorem wm_RL_112 : Cond.methodLink "LitWindowsLaw" 112 yX11_wall ∈ TW := TW_of 1433 (by decide +kernel) (by decide +kernel)
theorem wm_RL_113 : Cond.methodLink "LitWindowsLaw" 113 yX10_count ∈ TW := TW_of 1017 (by decide +kernel) (by decide +kernel)
theorem wm_RL_116 : Cond.methodLink "LitWindowsLaw" 116 yX11_count ∈ TW := TW_of 1441 (by decide +kernel) (by decide +kernel)
def j_L_law_621 (xs : Nat → Int32) (L : Nat) (rec18 : Int32 → St → Option (Int32 × St)) (x3 : Int32) (t1 : Int32) (t2 : Int32) (s : St) : Option (Int32 × St) :=
  bd (f_X10_rest t1 t2 s) fun r_621 s_621 =>
  gi (x3 + 1) L <|
  gi (x3 + 2) L <|
  if (xs (x3 + 2).toNatClampNeg) = 0 then (
    bd (f_X11_rest (xs (x3 + 1).toNatClampNeg) 0 s_621) fun r_643 s_643 =>
    if r_621 = r_643 then (
      let x3_862 : Int32 := x3 + 6
      rec18 x3_862 s_643)
    else (
      some (0, s_643)))
  else (
    bd (f_X11_rest (xs (x3 + 1).toNatClampNeg) 1 s_621) fun r_643 s_643 =>
    if r_621 = r_643 then (
      let x3_862 : Int32 := x3 + 6
      rec18 x3_862 s_643)
    else (
      some (0, s_643)))
def b_L_law_18 (xs : Nat → Int32) (L : Nat) (rec18 : Int32 → St → Option (Int32 × St)) (x3 : Int32) (s : St) : Option (Int32 × St) :=
  if ((nI L) - 6) < x3 then (
    some (1, s))
  else (
    gi x3 L <|
    if ((xs x3.toNatClampNeg) &&& 31) = 0 then (
      gi (x3 + 1) L <|
      gi (x3 + 2) L <|
      gi (x3 + 3) L <|
      gi (x3 + 4) L <|
      gi (x3 + 5) L <|
      bd (f_X10_feed (xs (x3 + 1).toNatClampNeg) (xs (x3 + 2).toNatClampNeg) (xs (x3 + 3).toNatClampNeg) (xs (x3 + 4).toNatClampNeg) (xs (x3 + 5).toNatClampNeg) s) fun r_170 s_170 =>
      gi (x3 + 1) L <|
      gi (x3 + 2) L <|
      gi (x3 + 3) L <|
      gi (x3 + 4) L <|
      gi (x3 + 5) L <|
      bd (f_X11_feed (xs (x3 + 1).toNatClampNeg) (xs (x3 + 2).toNatClampNeg) (xs (x3 + 3).toNatClampNeg) (xs (x3 + 4).toNatClampNeg) (xs (x3 + 5).toNatClampNeg) s_170) fun r_199 s_199 =>
      if r_170 = r_199 then (
        let x3_862 : Int32 := x3 + 6
        rec18 x3_862 s_199)
      else (
        some (0, s_199)))
    else
    if ((xs x3.toNatClampNeg) &&& 31) = 1 then (
      gi (x3 + 1) L <|
      bd (f_X10_end (xs (x3 + 1).toNatClampNeg) s) fun r_213 s_213 =>
      gi (x3 + 1) L <|
      bd (f_X11_end (xs (x3 + 1).toNatClampNeg) s_213) fun r_222 s_222 =>
      if r_213 = r_222 then (
        let x3_862 : Int32 := x3 + 6
        rec18 x3_862 s_222)
      else (
        some (0, s_222)))
    else
    if ((xs x3.toNatClampNeg) &&& 31) = 2 then (
      bd (f_X10_fault s) fun r_231 s_231 =>
      bd (f_X11_fault s_231) fun r_235 s_235 =>
      if r_231 = r_235 then (
        let x3_862 : Int32 := x3 + 6
        rec18 x3_862 s_235)
      else (
        some (0, s_235)))
    else
    if ((xs x3.toNatClampNeg) &&& 31) = 3 then (
      bd (f_X10_plant s) fun r_244 s_244 =>
      bd (f_X11_plant s_244) fun r_248 s_248 =>
      if r_244 = r_248 then (
        let x3_862 : Int32 := x3 + 6
        rec18 x3_862 s_248)
      else (
        some (0, s_248)))
    else
    if ((xs x3.toNatClampNeg) &&& 31) = 4 then (
      gi (x3 + 1) L <|
      gi (x3 + 2) L <|
      bd (f_X10_stick (xs (x3 + 1).toNatClampNeg) (xs (x3 + 2).toNatClampNeg) s) fun r_267 s_267 =>
      gi (x3 + 1) L <|
      gi (x3 + 2) L <|
      bd (f_X11_stick (xs (x3 + 1).toNatClampNeg) (xs (x3 + 2).toNatClampNeg) s_267) fun r_281 s_281 =>
      if r_267 = r_281 then (
        let x3_862 : Int32 := x3 + 6
        rec18 x3_862 s_281)
      else (
        some (0, s_281)))
    else
    if ((xs x3.toNatClampNeg) &&& 31) = 5 then (
      gi (x3 + 1) L <|
      gi (x3 + 2) L <|
      bd (f_X10_window (xs (x3 + 1).toNatClampNeg) (xs (x3 + 2).toNatClampNeg) s) fun r_300 s_300 =>
      gi (x3 + 1) L <|
      gi (x3 + 2) L <|
      bd (f_X11_window (xs (x3 + 1).toNatClampNeg) (xs (x3 + 2).toNatClampNeg) s_300) fun r_314 s_314 =>
      if r_300 = r_314 then (
        let x3_862 : Int32 := x3 + 6
        rec18 x3_862 s_314)
      else (
        some (0, s_314)))
    else
    if ((xs x3.toNatClampNeg) &&& 31) = 6 then (
      gi (x3 + 1) L <|
      gi (x3 + 2) L <|
      bd (f_X10_fails (xs (x3 + 1).toNatClampNeg) (xs (x3 + 2).toNatClampNeg) s) fun r_333 s_333 =>
      gi (x3 + 1) L <|
      gi (x3 + 2) L <|
      bd (f_X11_fails (xs (x3 + 1).toNatClampNeg) (xs (x3 + 2).toNatClampNeg) s_333) fun r_347 s_347 =>
      if r_333 = r_347 then (
        let x3_862 : Int32 := x3 + 6
        rec18 x3_862 s_347)
      else (
        some (0, s_347)))
    else
    if ((xs x3.toNatClampNeg) &&& 31) = 7 then (
      gi (x3 + 1) L <|
      gi (x3 + 2) L <|
      bd (f_X10_lit (xs (x3 + 1).toNatClampNeg) (xs (x3 + 2).toNatClampNeg) s) fun r_366 s_366 =>
      gi (x3 + 1) L <|
      gi (x3 + 2) L <|
      bd (f_X11_lit (xs (x3 + 1).toNatClampNeg) (xs (x3 + 2).toNatClampNeg) s_366) fun r_380 s_380 =>
      if r_366 = r_380 then (
        let x3_862 : Int32 := x3 + 6
        rec18 x3_862 s_380)
      else (
        some (0, s_380)))
    else
    if ((xs x3.toNatClampNeg) &&& 31) = 8 then (
      gi (x3 + 1) L <|
      gi (x3 + 2) L <|
      bd (f_X10_first (xs (x3 + 1).toNatClampNeg) (xs (x3 + 2).toNatClampNeg) s) fun r_399 s_399 =>
      gi (x3 + 1) L <|
      gi (x3 + 2) L <|
      bd (f_X11_first (xs (x3 + 1).toNatClampNeg) (xs (x3 + 2).toNatClampNeg) s_399) fun r_413 s_413 =>
      if r_399 = r_413 then (
        let x3_862 : Int32 := x3 + 6
        rec18 x3_862 s_413)
      else (
        some (0, s_413)))
    else
    if ((xs x3.toNatClampNeg) &&& 31) = 9 then (
      gi (x3 + 1) L <|
      gi (x3 + 2) L <|
      bd (f_X10_horns (xs (x3 + 1).toNatClampNeg) (xs (x3 + 2).toNatClampNeg) s) fun r_432 s_432 =>
      gi (x3 + 1) L <|
      gi (x3 + 2) L <|
      bd (f_X11_horns (xs (x3 + 1).toNatClampNeg) (xs (x3 + 2).toNatClampNeg) s_432) fun r_446 s_446 =>
      if r_432 = r_446 then (
        let x3_862 : Int32 := x3 + 6
        rec18 x3_862 s_446)
      else (
        some (0, s_446)))
    else
    if ((xs x3.toNatClampNeg) &&& 31) = 10 then (
      gi (x3 + 1) L <|
      gi (x3 + 2) L <|
      bd (f_X10_log (xs (x3 + 1).toNatClampNeg) (xs (x3 + 2).toNatClampNeg) s) fun r_465 s_465 =>
      gi (x3 + 1) L <|
      gi (x3 + 2) L <|
      bd (f_X11_log (xs (x3 + 1).toNatClampNeg) (xs (x3 + 2).toNatClampNeg) s_465) fun r_479 s_479 =>
      if r_465 = r_479 then (
        let x3_862 : Int32 := x3 + 6
        rec18 x3_862 s_479)
      else (
        some (0, s_479)))
    else
    if ((xs x3.toNatClampNeg) &&& 31) = 11 then (
      bd (f_X10_erase s) fun r_488 s_488 =>
      bd (f_X11_erase s_488) fun r_492 s_492 =>
      if r_488 = r_492 then (
        let x3_862 : Int32 := x3 + 6
        rec18 x3_862 s_492)
      else (
        some (0, s_492)))
    else
    if ((xs x3.toNatClampNeg) &&& 31) = 12 then (
      gi (x3 + 1) L <|
      bd (f_X10_joined (xs (x3 + 1).toNatClampNeg) s) fun r_506 s_506 =>
      gi (x3 + 1) L <|
      bd (f_X11_joined (xs (x3 + 1).toNatClampNeg) s_506) fun r_515 s_515 =>
      if r_506 = r_515 then (
        let x3_862 : Int32 := x3 + 6
        rec18 x3_862 s_515)
      else (
        some (0, s_515)))
    else
    if ((xs x3.toNatClampNeg) &&& 31) = 13 then (
      gi (x3 + 1) L <|
      bd (f_X10_off (xs (x3 + 1).toNatClampNeg) s) fun r_529 s_529 =>
      gi (x3 + 1) L <|
      bd (f_X11_off (xs (x3 + 1).toNatClampNeg) s_529) fun r_538 s_538 =>
      if r_529 = r_538 then (
        let x3_862 : Int32 := x3 + 6
        rec18 x3_862 s_538)
      else (
        some (0, s_538)))
    else
    if ((xs x3.toNatClampNeg) &&& 31) = 14 then (
      gi (x3 + 1) L <|
      bd (f_X10_explain (xs (x3 + 1).toNatClampNeg) s) fun r_552 s_552 =>
      gi (x3 + 1) L <|
      bd (f_X11_explain (xs (x3 + 1).toNatClampNeg) s_552) fun r_561 s_561 =>
      if r_552 = r_561 then (
        let x3_862 : Int32 := x3 + 6
        rec18 x3_862 s_561)
      else (
        some (0, s_561)))
    else
    if ((xs x3.toNatClampNeg) &&& 31) = 15 then (
      gi (x3 + 1) L <|
      gi (x3 + 2) L <|
      bd (f_X10_altered (xs (x3 + 1).toNatClampNeg) (xs (x3 + 2).toNatClampNeg) s) fun r_580 s_580 =>
      gi (x3 + 1) L <|
      gi (x3 + 2) L <|
      bd (f_X11_altered (xs (x3 + 1).toNatClampNeg) (xs (x3 + 2).toNatClampNeg) s_580) fun r_594 s_594 =>
      if r_580 = r_594 then (
        let x3_862 : Int32 := x3 + 6
        rec18 x3_862 s_594)
      else (
        some (0, s_594)))
    else
    if ((xs x3.toNatClampNeg) &&& 31) = 16 then (
      gi (x3 + 1) L <|
      gi (x3 + 2) L <|
      if (xs (x3 + 2).toNatClampNeg) = 0 then (
        j_L_law_621 xs L rec18 x3 (xs (x3 + 1).toNatClampNeg) 0 s)
      else (
        j_L_law_621 xs L rec18 x3 (xs (x3 + 1).toNatClampNeg) 1 s))
    else
    if ((xs x3.toNatClampNeg) &&& 31) = 17 then (
      gi (x3 + 1) L <|
      bd (f_X10_till (xs (x3 + 1).toNatClampNeg) s) fun r_657 s_657 =>
      gi (x3 + 1) L <|
      bd (f_X11_till (xs (x3 + 1).toNatClampNeg) s_657) fun r_666 s_666 =>
      if r_657 = r_666 then (
        let x3_862 : Int32 := x3 + 6
        rec18 x3_862 s_666)
      else (
        some (0, s_666)))
    else
    if ((xs x3.toNatClampNeg) &&& 31) = 18 then (
      gi (x3 + 1) L <|
      gi (x3 + 2) L <|
      gi (x3 + 3) L <|
      bd (f_X10_board (xs (x3 + 1).toNatClampNeg) (xs (x3 + 2).toNatClampNeg) (xs (x3 + 3).toNatClampNeg) s) fun r_690 s_690 =>
      gi (x3 + 1) L <|
      gi (x3 + 2) L <|
      gi (x3 + 3) L <|
      bd (f_X11_board (xs (x3 + 1).toNatClampNeg) (xs (x3 + 2).toNatClampNeg) (xs (x3 + 3).toNatClampNeg) s_690) fun r_709 s_709 =>
      if r_690 = r_709 then (
        let x3_862 : Int32 := x3 + 6
        rec18 x3_862 s_709)
      else (
        some (0, s_709)))
    else
    if ((xs x3.toNatClampNeg) &&& 31) = 19 then (
      gi (x3 + 1) L <|
      bd (f_X10_harm (xs (x3 + 1).toNatClampNeg) s) fun r_723 s_723 =>
      gi (x3 + 1) L <|
      bd (f_X11_harm (xs (x3 + 1).toNatClampNeg) s_723) fun r_732 s_732 =>
      if r_723 = r_732 then (
        let x3_862 : Int32 := x3 + 6
        rec18 x3_862 s_732)
      else (
        some (0, s_732)))
    else
    if ((xs x3.toNatClampNeg) &&& 31) = 20 then (
      gi (x3 + 1) L <|
      gi (x3 + 2) L <|
      bd (f_X10_change (xs (x3 + 1).toNatClampNeg) (xs (x3 + 2).toNatClampNeg) s) fun r_751 s_751 =>
      gi (x3 + 1) L <|
      gi (x3 + 2) L <|
      bd (f_X11_change (xs (x3 + 1).toNatClampNeg) (xs (x3 + 2).toNatClampNeg) s_751) fun r_765 s_765 =>
      if r_751 = r_765 then (
        let x3_862 : Int32 := x3 + 6
        rec18 x3_862 s_765)
      else (
        some (0, s_765)))
    else
    if ((xs x3.toNatClampNeg) &&& 31) = 21 then (
      gi (x3 + 1) L <|
      gi (x3 + 2) L <|
      bd (f_X10_told (xs (x3 + 1).toNatClampNeg) (xs (x3 + 2).toNatClampNeg) s) fun r_784 s_784 =>
      gi (x3 + 1) L <|
      gi (x3 + 2) L <|
      bd (f_X11_told (xs (x3 + 1).toNatClampNeg) (xs (x3 + 2).toNatClampNeg) s_784) fun r_798 s_798 =>
      if r_784 = r_798 then (
        let x3_862 : Int32 := x3 + 6
        rec18 x3_862 s_798)
      else (
        some (0, s_798)))
    else
    if ((xs x3.toNatClampNeg) &&& 31) = 22 then (
      gi (x3 + 1) L <|
      gi (x3 + 2) L <|
      bd (f_X10_wall (xs (x3 + 1).toNatClampNeg) (xs (x3 + 2).toNatClampNeg) s) fun r_817 s_817 =>
      gi (x3 + 1) L <|
      gi (x3 + 2) L <|
      bd (f_X11_wall (xs (x3 + 1).toNatClampNeg) (xs (x3 + 2).toNatClampNeg) s_817) fun r_831 s_831 =>
      if r_817 = r_831 then (
        let x3_862 : Int32 := x3 + 6
        rec18 x3_862 s_831)
      else (
        some (0, s_831)))
    else
    if ((xs x3.toNatClampNeg) &&& 31) = 23 then (
      gi (x3 + 1) L <|
      bd (f_X10_count (xs (x3 + 1).toNatClampNeg) s) fun r_845 s_845 =>
      gi (x3 + 1) L <|
      bd (f_X11_count (xs (x3 + 1).toNatClampNeg) s_845) fun r_854 s_854 =>
      if r_845 = r_854 then (
        let x3_862 : Int32 := x3 + 6
        rec18 x3_862 s_854)
      else (
        some (0, s_854)))
    else
    (
      let x3_862 : Int32 := x3 + 6
      rec18 x3_862 s))
def l_L_law_18 (xs : Nat → Int32) (L : Nat)  : Nat → Int32 → St → Option (Int32 × St)
  | 0 => fun _ _ => none
  | n + 1 => b_L_law_18 xs L  (l_L_law_18 xs L  n)
/-- the law behind its two constructors -/
def lawF (xs : Nat → Int32) (L : Nat) (s : St) : Option (Int32 × St) := l_L_law_18 xs L FU 0 s
/-- the script's cell -/
def ScP (X : CX) (b L : Nat) (xs : Nat → Int32) : Prop := match X with
  | (p, l, e, R, s, m, args, below, meth, c, Q, A, cn, sn, w) => va_X b L xs s s.heap ∧ b < s.heap.size ∧ ¬ A b
theorem v_slen {X : CX} {own : String} {cc : ByteArray} {nL fr lo : Nat} {st : St} {pc : Nat} {L1 : List (Nat × Value)} {S : List Value} {b L : Nat} {xs : Nat → Int32} (C : Cx X own cc nL fr lo) (Sc : ScP X b L xs) (d : decode cc pc = .ok (.arraylength, 1)) (k : V X st (pc + 1) L1 (.int (nI L) :: S)) : V X st pc L1 (.ref b :: S) := by
  obtain ⟨p, l, e, R, s, m, args, below, meth, c, Q, A, cn, sn, w⟩ := X
  obtain ⟨hx, hb, hml, hown, hts, hK, hD, hA, hfr, hlo, hcn, hsn⟩ := C
  obtain ⟨hX, hbl, hbA⟩ := Sc
  intro H locs ls hP hS hl
  exact va_slen hx hb hX hbl hbA hS d (k H locs ls hP hS hl)
theorem v_sld {X : CX} {own : String} {cc : ByteArray} {nL fr lo : Nat} {st : St} {pc : Nat} {L1 : List (Nat × Value)} {S : List Value} {b L : Nat} {xs : Nat → Int32} {i : Int32} (C : Cx X own cc nL fr lo) (Sc : ScP X b L xs) (hin : vp_in i L) (d : decode cc pc = .ok (.iaload, 1)) (k : V X st (pc + 1) L1 (.int (xs i.toNatClampNeg) :: S)) : V X st pc L1 (.int i :: .ref b :: S) := by
  obtain ⟨p, l, e, R, s, m, args, below, meth, c, Q, A, cn, sn, w⟩ := X
  obtain ⟨hx, hb, hml, hown, hts, hK, hD, hA, hfr, hlo, hcn, hsn⟩ := C
  obtain ⟨hX, hbl, hbA⟩ := Sc
  intro H locs ls hP hS hl
  exact va_sld hx hb hX hbl hbA hS hin d (k H locs ls hP hS hl)
set_option maxRecDepth 4000 in
theorem tj_L_law_621 {rec18 : Int32 → St → Option (Int32 × St)} {X : CX} {r : Int32} {fin : St} (C : Cx X "LitWindowsLaw" cL_law 4 15 552) (R1 : RtI X cL_law .boolean r fin) {b L : Nat} {xs : Nat → Int32} (Sc : ScP X b L xs) (hr18 : ∀ (x3 : Int32) (s : St), rec18 x3 s = some (r, fin) → V X s 18 [(0, .ref b), (1, .ref (wA (xw X) 0)), (2, .ref (wA (xw X) 74)), (3, .int x3)] []) {x3 t1 t2 s : _} (h : j_L_law_621 xs L rec18 x3 t1 t2 s = some (r, fin)) : V X s 621 [(0, .ref b), (1, .ref (wA (xw X) 0)), (2, .ref (wA (xw X) 74)), (3, .int x3)] [.int t2, .int t1, .ref (wA (xw X) 0)] := by
  obtain ⟨r_621, s_621, e_621, h⟩ := bd_some h
  refine v_callVi [] C (t_X10_rest e_621) mw_X10_rest (at_0 _ _) rfl wm_RL_83 ⟨by decide, by decide⟩ rfl (Nat.le_of_ble_eq_true rfl) rfl dL_law_621 ?_
  refine v_aload_n 2 C dL_law_624 rfl ?_
  refine v_aload_n 0 C dL_law_625 rfl ?_
  refine v_iload_n 3 C dL_law_626 rfl ?_
  refine v_iconst C dL_law_627 ic_1 ?_
  refine v_iadd C dL_law_628 ?_
  obtain ⟨hi, h⟩ := gi_some h
  refine v_sld C Sc hi dL_law_629 ?_
  refine v_aload_n 0 C dL_law_630 rfl ?_
  refine v_iload_n 3 C dL_law_631 rfl ?_
  refine v_iconst C dL_law_632 ic_2 ?_
  refine v_iadd C dL_law_633 ?_
  obtain ⟨hi, h⟩ := gi_some h
  refine v_sld C Sc hi dL_law_634 ?_
  refine v_if_eq 642 C dL_law_635 (by decide) (fun c => ?_) (fun c => ?_)
  · have h := if_t h c
    refine v_iconst C dL_law_642 ic_0 ?_
    obtain ⟨r_643, s_643, e_643, h⟩ := bd_some h
    refine v_callVi [_] C (t_X11_rest e_643) mw_X11_rest (at_74 _ _) rfl wm_RL_87 ⟨by decide, by decide⟩ rfl (Nat.le_of_ble_eq_true rfl) rfl dL_law_643 ?_
    refine v_icmp_eq 862 C dL_law_646 (by decide) (fun c => ?_) (fun c => ?_)
    · have h := if_t h c
      refine v_iinc (L1 := [(0, _), (1, _), (2, _), (3, _)]) 3 [1, 2, 3, 0] C dL_law_862 rfl ic_6 (by decide) rfl ?_
      refine v_goto 18 C dL_law_865 (by decide) ?_
      exact hr18 _ _ h
    · have h := if_f h c
      refine v_iconst C dL_law_649 ic_0 ?_
      exact v_ireth h R1 rfl dL_law_650
  · have h := if_f h c
    refine v_iconst C dL_law_638 ic_1 ?_
    refine v_goto 643 C dL_law_639 (by decide) ?_
    obtain ⟨r_643, s_643, e_643, h⟩ := bd_some h
    refine v_callVi [_] C (t_X11_rest e_643) mw_X11_rest (at_74 _ _) rfl wm_RL_87 ⟨by decide, by decide⟩ rfl (Nat.le_of_ble_eq_true rfl) rfl dL_law_643 ?_
    refine v_icmp_eq 862 C dL_law_646 (by decide) (fun c => ?_) (fun c => ?_)
    · have h := if_t h c
      refine v_iinc (L1 := [(0, _), (1, _), (2, _), (3, _)]) 3 [1, 2, 3, 0] C dL_law_862 rfl ic_6 (by decide) rfl ?_
      refine v_goto 18 C dL_law_865 (by decide) ?_
      exact hr18 _ _ h
    · have h := if_f h c
      refine v_iconst C dL_law_649 ic_0 ?_
      exact v_ireth h R1 rfl dL_law_650
set_option maxRecDepth 4000 in
theorem tl_L_law_18  {X : CX} {r : Int32} {fin : St} (C : Cx X "LitWindowsLaw" cL_law 4 15 552) (R1 : RtI X cL_law .boolean r fin) {b L : Nat} {xs : Nat → Int32} (Sc : ScP X b L xs)  : ∀ (n : Nat) (x3 : Int32) (s : St), l_L_law_18 xs L  n x3 s = some (r, fin) → V X s 18 [(0, .ref b), (1, .ref (wA (xw X) 0)), (2, .ref (wA (xw X) 74)), (3, .int x3)] [] := by
  intro n
  induction n with
  | zero => intro x3 s h; exact none_no h
  | succ n hr18 =>
    intro x3 s h
    have h : b_L_law_18 xs L  (l_L_law_18 xs L  n) x3 s = some (r, fin) := h
    refine v_iload_n 3 C dL_law_18 rfl ?_
    refine v_aload_n 0 C dL_law_19 rfl ?_
    refine v_slen C Sc dL_law_20 ?_
    refine v_bipush C dL_law_21 bp_6 ?_
    refine v_isub C dL_law_23 ?_
    refine v_icmp_gt 868 C dL_law_24 (by decide) (fun c => ?_) (fun c => ?_)
    · have h := if_t h c
      refine v_iconst C dL_law_868 ic_1 ?_
      exact v_ireth h R1 rfl dL_law_869
    · have h := if_f h c
      refine v_aload_n 0 C dL_law_27 rfl ?_
      refine v_iload_n 3 C dL_law_28 rfl ?_
      obtain ⟨hi, h⟩ := gi_some h
      refine v_sld C Sc hi dL_law_29 ?_
      refine v_bipush C dL_law_30 bp_31 ?_
      refine v_iand C dL_law_32 ?_
      by_cases c0 : ((xs x3.toNatClampNeg) &&& 31) = 0
      · have h := if_t h c0
        refine v_tswI 144 C dL_law_33 (by rw [c0]; decide) (by rw [c0]; decide) (by rw [c0]; rfl) (by decide) ?_
        refine v_aload_n 1 C dL_law_144 rfl ?_
        refine v_aload_n 0 C dL_law_145 rfl ?_
        refine v_iload_n 3 C dL_law_146 rfl ?_
        refine v_iconst C dL_law_147 ic_1 ?_
        refine v_iadd C dL_law_148 ?_
        obtain ⟨hi, h⟩ := gi_some h
        refine v_sld C Sc hi dL_law_149 ?_
        refine v_aload_n 0 C dL_law_150 rfl ?_
        refine v_iload_n 3 C dL_law_151 rfl ?_
        refine v_iconst C dL_law_152 ic_2 ?_
        refine v_iadd C dL_law_153 ?_
        obtain ⟨hi, h⟩ := gi_some h
        refine v_sld C Sc hi dL_law_154 ?_
        refine v_aload_n 0 C dL_law_155 rfl ?_
        refine v_iload_n 3 C dL_law_156 rfl ?_
        refine v_iconst C dL_law_157 ic_3 ?_
        refine v_iadd C dL_law_158 ?_
        obtain ⟨hi, h⟩ := gi_some h
        refine v_sld C Sc hi dL_law_159 ?_
        refine v_aload_n 0 C dL_law_160 rfl ?_
        refine v_iload_n 3 C dL_law_161 rfl ?_
        refine v_iconst C dL_law_162 ic_4 ?_
        refine v_iadd C dL_law_163 ?_
        obtain ⟨hi, h⟩ := gi_some h
        refine v_sld C Sc hi dL_law_164 ?_
        refine v_aload_n 0 C dL_law_165 rfl ?_
        refine v_iload_n 3 C dL_law_166 rfl ?_
        refine v_iconst C dL_law_167 ic_5 ?_
        refine v_iadd C dL_law_168 ?_
        obtain ⟨hi, h⟩ := gi_some h
        refine v_sld C Sc hi dL_law_169 ?_
        obtain ⟨r_170, s_170, e_170, h⟩ := bd_some h
        refine v_callVi [] C (t_X10_feed e_170) mw_X10_feed (at_0 _ _) rfl wm_RL_13 ⟨by decide, by decide⟩ rfl (Nat.le_of_ble_eq_true rfl) rfl dL_law_170 ?_
        refine v_aload_n 2 C dL_law_173 rfl ?_
        refine v_aload_n 0 C dL_law_174 rfl ?_
        refine v_iload_n 3 C dL_law_175 rfl ?_
        refine v_iconst C dL_law_176 ic_1 ?_
        refine v_iadd C dL_law_177 ?_
        obtain ⟨hi, h⟩ := gi_some h
        refine v_sld C Sc hi dL_law_178 ?_
        refine v_aload_n 0 C dL_law_179 rfl ?_
        refine v_iload_n 3 C dL_law_180 rfl ?_
        refine v_iconst C dL_law_181 ic_2 ?_
        refine v_iadd C dL_law_182 ?_
        obtain ⟨hi, h⟩ := gi_some h
        refine v_sld C Sc hi dL_law_183 ?_
        refine v_aload_n 0 C dL_law_184 rfl ?_
        refine v_iload_n 3 C dL_law_185 rfl ?_
        refine v_iconst C dL_law_186 ic_3 ?_
        refine v_iadd C dL_law_187 ?_
        obtain ⟨hi, h⟩ := gi_some h
        refine v_sld C Sc hi dL_law_188 ?_
        refine v_aload_n 0 C dL_law_189 rfl ?_
        refine v_iload_n 3 C dL_law_190 rfl ?_
        refine v_iconst C dL_law_191 ic_4 ?_
        refine v_iadd C dL_law_192 ?_
        obtain ⟨hi, h⟩ := gi_some h
        refine v_sld C Sc hi dL_law_193 ?_
        refine v_aload_n 0 C dL_law_194 rfl ?_
        refine v_iload_n 3 C dL_law_195 rfl ?_
        refine v_iconst C dL_law_196 ic_5 ?_
        refine v_iadd C dL_law_197 ?_
        obtain ⟨hi, h⟩ := gi_some h
        refine v_sld C Sc hi dL_law_198 ?_
        obtain ⟨r_199, s_199, e_199, h⟩ := bd_some h
        refine v_callVi [_] C (t_X11_feed e_199) mw_X11_feed (at_74 _ _) rfl wm_RL_17 ⟨by decide, by decide⟩ rfl (Nat.le_of_ble_eq_true rfl) rfl dL_law_199 ?_
        refine v_icmp_eq 862 C dL_law_202 (by decide) (fun c => ?_) (fun c => ?_)
        · have h := if_t h c
          refine v_iinc (L1 := [(0, _), (1, _), (2, _), (3, _)]) 3 [1, 2, 3, 0] C dL_law_862 rfl ic_6 (by decide) rfl ?_
          refine v_goto 18 C dL_law_865 (by decide) ?_
          exact hr18 _ _ h
        · have h := if_f h c
          refine v_iconst C dL_law_205 ic_0 ?_
          exact v_ireth h R1 rfl dL_law_206
      have h := if_f h c0
      by_cases c1 : ((xs x3.toNatClampNeg) &&& 31) = 1
      · have h := if_t h c1
        refine v_tswI 207 C dL_law_33 (by rw [c1]; decide) (by rw [c1]; decide) (by rw [c1]; rfl) (by decide) ?_
        refine v_aload_n 1 C dL_law_207 rfl ?_
        refine v_aload_n 0 C dL_law_208 rfl ?_
        refine v_iload_n 3 C dL_law_209 rfl ?_
        refine v_iconst C dL_law_210 ic_1 ?_
        refine v_iadd C dL_law_211 ?_
        obtain ⟨hi, h⟩ := gi_some h
        refine v_sld C Sc hi dL_law_212 ?_
        obtain ⟨r_213, s_213, e_213, h⟩ := bd_some h
        refine v_callVi [] C (t_X10_end e_213) mw_X10_end (at_0 _ _) rfl wm_RL_18 ⟨by decide, by decide⟩ rfl (Nat.le_of_ble_eq_true rfl) rfl dL_law_213 ?_
        refine v_aload_n 2 C dL_law_216 rfl ?_
        refine v_aload_n 0 C dL_law_217 rfl ?_
        refine v_iload_n 3 C dL_law_218 rfl ?_
        refine v_iconst C dL_law_219 ic_1 ?_
        refine v_iadd C dL_law_220 ?_
        obtain ⟨hi, h⟩ := gi_some h
        refine v_sld C Sc hi dL_law_221 ?_
        obtain ⟨r_222, s_222, e_222, h⟩ := bd_some h
        refine v_callVi [_] C (t_X11_end e_222) mw_X11_end (at_74 _ _) rfl wm_RL_22 ⟨by decide, by decide⟩ rfl (Nat.le_of_ble_eq_true rfl) rfl dL_law_222 ?_
        refine v_icmp_eq 862 C dL_law_225 (by decide) (fun c => ?_) (fun c => ?_)
        · have h := if_t h c
          refine v_iinc (L1 := [(0, _), (1, _), (2, _), (3, _)]) 3 [1, 2, 3, 0] C dL_law_862 rfl ic_6 (by decide) rfl ?_
          refine v_goto 18 C dL_law_865 (by decide) ?_
          exact hr18 _ _ h
        · have h := if_f h c
          refine v_iconst C dL_law_228 ic_0 ?_
          exact v_ireth h R1 rfl dL_law_229
      have h := if_f h c1
      by_cases c2 : ((xs x3.toNatClampNeg) &&& 31) = 2
      · have h := if_t h c2
        refine v_tswI 230 C dL_law_33 (by rw [c2]; decide) (by rw [c2]; decide) (by rw [c2]; rfl) (by decide) ?_
        refine v_aload_n 1 C dL_law_230 rfl ?_
        obtain ⟨r_231, s_231, e_231, h⟩ := bd_some h
        refine v_callVi [] C (t_X10_fault e_231) mw_X10_fault (at_0 _ _) rfl wm_RL_23 ⟨by decide, by decide⟩ rfl (Nat.le_of_ble_eq_true rfl) rfl dL_law_231 ?_
        refine v_aload_n 2 C dL_law_234 rfl ?_
        obtain ⟨r_235, s_235, e_235, h⟩ := bd_some h
        refine v_callVi [_] C (t_X11_fault e_235) mw_X11_fault (at_74 _ _) rfl wm_RL_27 ⟨by decide, by decide⟩ rfl (Nat.le_of_ble_eq_true rfl) rfl dL_law_235 ?_
        refine v_icmp_eq 862 C dL_law_238 (by decide) (fun c => ?_) (fun c => ?_)
        · have h := if_t h c
          refine v_iinc (L1 := [(0, _), (1, _), (2, _), (3, _)]) 3 [1, 2, 3, 0] C dL_law_862 rfl ic_6 (by decide) rfl ?_
          refine v_goto 18 C dL_law_865 (by decide) ?_
          exact hr18 _ _ h
        · have h := if_f h c
          refine v_iconst C dL_law_241 ic_0 ?_
          exact v_ireth h R1 rfl dL_law_242
      have h := if_f h c2
      by_cases c3 : ((xs x3.toNatClampNeg) &&& 31) = 3
      · have h := if_t h c3
        refine v_tswI 243 C dL_law_33 (by rw [c3]; decide) (by rw [c3]; decide) (by rw [c3]; rfl) (by decide) ?_
        refine v_aload_n 1 C dL_law_243 rfl ?_
        obtain ⟨r_244, s_244, e_244, h⟩ := bd_some h
        refine v_callVi [] C (t_X10_plant e_244) mw_X10_plant (at_0 _ _) rfl wm_RL_28 ⟨by decide, by decide⟩ rfl (Nat.le_of_ble_eq_true rfl) rfl dL_law_244 ?_
        refine v_aload_n 2 C dL_law_247 rfl ?_
        obtain ⟨r_248, s_248, e_248, h⟩ := bd_some h
        refine v_callVi [_] C (t_X11_plant e_248) mw_X11_plant (at_74 _ _) rfl wm_RL_31 ⟨by decide, by decide⟩ rfl (Nat.le_of_ble_eq_true rfl) rfl dL_law_248 ?_
        refine v_icmp_eq 862 C dL_law_251 (by decide) (fun c => ?_) (fun c => ?_)
        · have h := if_t h c
          refine v_iinc (L1 := [(0, _), (1, _), (2, _), (3, _)]) 3 [1, 2, 3, 0] C dL_law_862 rfl ic_6 (by decide) rfl ?_
          refine v_goto 18 C dL_law_865 (by decide) ?_
          exact hr18 _ _ h
        · have h := if_f h c
          refine v_iconst C dL_law_254 ic_0 ?_
          exact v_ireth h R1 rfl dL_law_255
      have h := if_f h c3
      by_cases c4 : ((xs x3.toNatClampNeg) &&& 31) = 4
      · have h := if_t h c4
        refine v_tswI 256 C dL_law_33 (by rw [c4]; decide) (by rw [c4]; decide) (by rw [c4]; rfl) (by decide) ?_
        refine v_aload_n 1 C dL_law_256 rfl ?_
        refine v_aload_n 0 C dL_law_257 rfl ?_
        refine v_iload_n 3 C dL_law_258 rfl ?_
        refine v_iconst C dL_law_259 ic_1 ?_
        refine v_iadd C dL_law_260 ?_
        obtain ⟨hi, h⟩ := gi_some h
        refine v_sld C Sc hi dL_law_261 ?_
        refine v_aload_n 0 C dL_law_262 rfl ?_
        refine v_iload_n 3 C dL_law_263 rfl ?_
        refine v_iconst C dL_law_264 ic_2 ?_
        refine v_iadd C dL_law_265 ?_
        obtain ⟨hi, h⟩ := gi_some h
        refine v_sld C Sc hi dL_law_266 ?_
        obtain ⟨r_267, s_267, e_267, h⟩ := bd_some h
        refine v_callVi [] C (t_X10_stick e_267) mw_X10_stick (at_0 _ _) rfl wm_RL_32 ⟨by decide, by decide⟩ rfl (Nat.le_of_ble_eq_true rfl) rfl dL_law_267 ?_
        refine v_aload_n 2 C dL_law_270 rfl ?_
        refine v_aload_n 0 C dL_law_271 rfl ?_
        refine v_iload_n 3 C dL_law_272 rfl ?_
        refine v_iconst C dL_law_273 ic_1 ?_
        refine v_iadd C dL_law_274 ?_
        obtain ⟨hi, h⟩ := gi_some h
        refine v_sld C Sc hi dL_law_275 ?_
        refine v_aload_n 0 C dL_law_276 rfl ?_
        refine v_iload_n 3 C dL_law_277 rfl ?_
        refine v_iconst C dL_law_278 ic_2 ?_
        refine v_iadd C dL_law_279 ?_
        obtain ⟨hi, h⟩ := gi_some h
        refine v_sld C Sc hi dL_law_280 ?_
        obtain ⟨r_281, s_281, e_281, h⟩ := bd_some h
        refine v_callVi [_] C (t_X11_stick e_281) mw_X11_stick (at_74 _ _) rfl wm_RL_36 ⟨by decide, by decide⟩ rfl (Nat.le_of_ble_eq_true rfl) rfl dL_law_281 ?_
        refine v_icmp_eq 862 C dL_law_284 (by decide) (fun c => ?_) (fun c => ?_)
        · have h := if_t h c
          refine v_iinc (L1 := [(0, _), (1, _), (2, _), (3, _)]) 3 [1, 2, 3, 0] C dL_law_862 rfl ic_6 (by decide) rfl ?_
          refine v_goto 18 C dL_law_865 (by decide) ?_
          exact hr18 _ _ h
        · have h := if_f h c
          refine v_iconst C dL_law_287 ic_0 ?_
          exact v_ireth h R1 rfl dL_law_288
      have h := if_f h c4
      by_cases c5 : ((xs x3.toNatClampNeg) &&& 31) = 5
      · have h := if_t h c5
        refine v_tswI 289 C dL_law_33 (by rw [c5]; decide) (by rw [c5]; decide) (by rw [c5]; rfl) (by decide) ?_
        refine v_aload_n 1 C dL_law_289 rfl ?_
        refine v_aload_n 0 C dL_law_290 rfl ?_
        refine v_iload_n 3 C dL_law_291 rfl ?_
        refine v_iconst C dL_law_292 ic_1 ?_
        refine v_iadd C dL_law_293 ?_
        obtain ⟨hi, h⟩ := gi_some h
        refine v_sld C Sc hi dL_law_294 ?_
        refine v_aload_n 0 C dL_law_295 rfl ?_
        refine v_iload_n 3 C dL_law_296 rfl ?_
        refine v_iconst C dL_law_297 ic_2 ?_
        refine v_iadd C dL_law_298 ?_
        obtain ⟨hi, h⟩ := gi_some h
        refine v_sld C Sc hi dL_law_299 ?_
        obtain ⟨r_300, s_300, e_300, h⟩ := bd_some h
        refine v_callVi [] C (t_X10_window e_300) mw_X10_window (at_0 _ _) rfl wm_RL_37 ⟨by decide, by decide⟩ rfl (Nat.le_of_ble_eq_true rfl) rfl dL_law_300 ?_
        refine v_aload_n 2 C dL_law_303 rfl ?_
        refine v_aload_n 0 C dL_law_304 rfl ?_
        refine v_iload_n 3 C dL_law_305 rfl ?_
        refine v_iconst C dL_law_306 ic_1 ?_
        refine v_iadd C dL_law_307 ?_
        obtain ⟨hi, h⟩ := gi_some h
        refine v_sld C Sc hi dL_law_308 ?_
        refine v_aload_n 0 C dL_law_309 rfl ?_
        refine v_iload_n 3 C dL_law_310 rfl ?_
        refine v_iconst C dL_law_311 ic_2 ?_
        refine v_iadd C dL_law_312 ?_
        obtain ⟨hi, h⟩ := gi_some h
        refine v_sld C Sc hi dL_law_313 ?_
        obtain ⟨r_314, s_314, e_314, h⟩ := bd_some h
        refine v_callVi [_] C (t_X11_window e_314) mw_X11_window (at_74 _ _) rfl wm_RL_41 ⟨by decide, by decide⟩ rfl (Nat.le_of_ble_eq_true rfl) rfl dL_law_314 ?_
        refine v_icmp_eq 862 C dL_law_317 (by decide) (fun c => ?_) (fun c => ?_)
        · have h := if_t h c
          refine v_iinc (L1 := [(0, _), (1, _), (2, _), (3, _)]) 3 [1, 2, 3, 0] C dL_law_862 rfl ic_6 (by decide) rfl ?_
          refine v_goto 18 C dL_law_865 (by decide) ?_
          exact hr18 _ _ h
        · have h := if_f h c
          refine v_iconst C dL_law_320 ic_0 ?_
          exact v_ireth h R1 rfl dL_law_321
      have h := if_f h c5
      by_cases c6 : ((xs x3.toNatClampNeg) &&& 31) = 6
      · have h := if_t h c6
        refine v_tswI 322 C dL_law_33 (by rw [c6]; decide) (by rw [c6]; decide) (by rw [c6]; rfl) (by decide) ?_
        refine v_aload_n 1 C dL_law_322 rfl ?_
        refine v_aload_n 0 C dL_law_323 rfl ?_
        refine v_iload_n 3 C dL_law_324 rfl ?_
        refine v_iconst C dL_law_325 ic_1 ?_
        refine v_iadd C dL_law_326 ?_
        obtain ⟨hi, h⟩ := gi_some h
        refine v_sld C Sc hi dL_law_327 ?_
        refine v_aload_n 0 C dL_law_328 rfl ?_
        refine v_iload_n 3 C dL_law_329 rfl ?_
        refine v_iconst C dL_law_330 ic_2 ?_
        refine v_iadd C dL_law_331 ?_
        obtain ⟨hi, h⟩ := gi_some h
        refine v_sld C Sc hi dL_law_332 ?_
        obtain ⟨r_333, s_333, e_333, h⟩ := bd_some h
        refine v_callVi [] C (t_X10_fails e_333) mw_X10_fails (at_0 _ _) rfl wm_RL_42 ⟨by decide, by decide⟩ rfl (Nat.le_of_ble_eq_true rfl) rfl dL_law_333 ?_
        refine v_aload_n 2 C dL_law_336 rfl ?_
        refine v_aload_n 0 C dL_law_337 rfl ?_
        refine v_iload_n 3 C dL_law_338 rfl ?_
        refine v_iconst C dL_law_339 ic_1 ?_
        refine v_iadd C dL_law_340 ?_
        obtain ⟨hi, h⟩ := gi_some h
        refine v_sld C Sc hi dL_law_341 ?_
        refine v_aload_n 0 C dL_law_342 rfl ?_
        refine v_iload_n 3 C dL_law_343 rfl ?_
        refine v_iconst C dL_law_344 ic_2 ?_
        refine v_iadd C dL_law_345 ?_
        obtain ⟨hi, h⟩ := gi_some h
        refine v_sld C Sc hi dL_law_346 ?_
        obtain ⟨r_347, s_347, e_347, h⟩ := bd_some h
        refine v_callVi [_] C (t_X11_fails e_347) mw_X11_fails (at_74 _ _) rfl wm_RL_45 ⟨by decide, by decide⟩ rfl (Nat.le_of_ble_eq_true rfl) rfl dL_law_347 ?_
        refine v_icmp_eq 862 C dL_law_350 (by decide) (fun c => ?_) (fun c => ?_)
        · have h := if_t h c
          refine v_iinc (L1 := [(0, _), (1, _), (2, _), (3, _)]) 3 [1, 2, 3, 0] C dL_law_862 rfl ic_6 (by decide) rfl ?_
          refine v_goto 18 C dL_law_865 (by decide) ?_
          exact hr18 _ _ h
        · have h := if_f h c
          refine v_iconst C dL_law_353 ic_0 ?_
          exact v_ireth h R1 rfl dL_law_354
      have h := if_f h c6
      by_cases c7 : ((xs x3.toNatClampNeg) &&& 31) = 7
      · have h := if_t h c7
        refine v_tswI 355 C dL_law_33 (by rw [c7]; decide) (by rw [c7]; decide) (by rw [c7]; rfl) (by decide) ?_
        refine v_aload_n 1 C dL_law_355 rfl ?_
        refine v_aload_n 0 C dL_law_356 rfl ?_
        refine v_iload_n 3 C dL_law_357 rfl ?_
        refine v_iconst C dL_law_358 ic_1 ?_
        refine v_iadd C dL_law_359 ?_
        obtain ⟨hi, h⟩ := gi_some h
        refine v_sld C Sc hi dL_law_360 ?_
        refine v_aload_n 0 C dL_law_361 rfl ?_
        refine v_iload_n 3 C dL_law_362 rfl ?_
        refine v_iconst C dL_law_363 ic_2 ?_
        refine v_iadd C dL_law_364 ?_
        obtain ⟨hi, h⟩ := gi_some h
        refine v_sld C Sc hi dL_law_365 ?_
        obtain ⟨r_366, s_366, e_366, h⟩ := bd_some h
        refine v_callVi [] C (t_X10_lit e_366) mw_X10_lit (at_0 _ _) rfl wm_RL_46 ⟨by decide, by decide⟩ rfl (Nat.le_of_ble_eq_true rfl) rfl dL_law_366 ?_
        refine v_aload_n 2 C dL_law_369 rfl ?_
        refine v_aload_n 0 C dL_law_370 rfl ?_
        refine v_iload_n 3 C dL_law_371 rfl ?_
        refine v_iconst C dL_law_372 ic_1 ?_
        refine v_iadd C dL_law_373 ?_
        obtain ⟨hi, h⟩ := gi_some h
        refine v_sld C Sc hi dL_law_374 ?_
        refine v_aload_n 0 C dL_law_375 rfl ?_
        refine v_iload_n 3 C dL_law_376 rfl ?_
        refine v_iconst C dL_law_377 ic_2 ?_
        refine v_iadd C dL_law_378 ?_
        obtain ⟨hi, h⟩ := gi_some h
        refine v_sld C Sc hi dL_law_379 ?_
        obtain ⟨r_380, s_380, e_380, h⟩ := bd_some h
        refine v_callVi [_] C (t_X11_lit e_380) mw_X11_lit (at_74 _ _) rfl wm_RL_49 ⟨by decide, by decide⟩ rfl (Nat.le_of_ble_eq_true rfl) rfl dL_law_380 ?_
        refine v_icmp_eq 862 C dL_law_383 (by decide) (fun c => ?_) (fun c => ?_)
        · have h := if_t h c
          refine v_iinc (L1 := [(0, _), (1, _), (2, _), (3, _)]) 3 [1, 2, 3, 0] C dL_law_862 rfl ic_6 (by decide) rfl ?_
          refine v_goto 18 C dL_law_865 (by decide) ?_
          exact hr18 _ _ h
        · have h := if_f h c
          refine v_iconst C dL_law_386 ic_0 ?_
          exact v_ireth h R1 rfl dL_law_387
      have h := if_f h c7
      by_cases c8 : ((xs x3.toNatClampNeg) &&& 31) = 8
      · have h := if_t h c8
        refine v_tswI 388 C dL_law_33 (by rw [c8]; decide) (by rw [c8]; decide) (by rw [c8]; rfl) (by decide) ?_
        refine v_aload_n 1 C dL_law_388 rfl ?_
        refine v_aload_n 0 C dL_law_389 rfl ?_
        refine v_iload_n 3 C dL_law_390 rfl ?_
        refine v_iconst C dL_law_391 ic_1 ?_
        refine v_iadd C dL_law_392 ?_
        obtain ⟨hi, h⟩ := gi_some h
        refine v_sld C Sc hi dL_law_393 ?_
        refine v_aload_n 0 C dL_law_394 rfl ?_
        refine v_iload_n 3 C dL_law_395 rfl ?_
        refine v_iconst C dL_law_396 ic_2 ?_
        refine v_iadd C dL_law_397 ?_
        obtain ⟨hi, h⟩ := gi_some h
        refine v_sld C Sc hi dL_law_398 ?_
        obtain ⟨r_399, s_399, e_399, h⟩ := bd_some h
        refine v_callVi [] C (t_X10_first e_399) mw_X10_first (at_0 _ _) rfl wm_RL_50 ⟨by decide, by decide⟩ rfl (Nat.le_of_ble_eq_true rfl) rfl dL_law_399 ?_
        refine v_aload_n 2 C dL_law_402 rfl ?_
        refine v_aload_n 0 C dL_law_403 rfl ?_
        refine v_iload_n 3 C dL_law_404 rfl ?_
        refine v_iconst C dL_law_405 ic_1 ?_
        refine v_iadd C dL_law_406 ?_
        obtain ⟨hi, h⟩ := gi_some h
        refine v_sld C Sc hi dL_law_407 ?_
        refine v_aload_n 0 C dL_law_408 rfl ?_
        refine v_iload_n 3 C dL_law_409 rfl ?_
        refine v_iconst C dL_law_410 ic_2 ?_
        refine v_iadd C dL_law_411 ?_
        obtain ⟨hi, h⟩ := gi_some h
        refine v_sld C Sc hi dL_law_412 ?_
        obtain ⟨r_413, s_413, e_413, h⟩ := bd_some h
        refine v_callVi [_] C (t_X11_first e_413) mw_X11_first (at_74 _ _) rfl wm_RL_53 ⟨by decide, by decide⟩ rfl (Nat.le_of_ble_eq_true rfl) rfl dL_law_413 ?_
        refine v_icmp_eq 862 C dL_law_416 (by decide) (fun c => ?_) (fun c => ?_)
        · have h := if_t h c
          refine v_iinc (L1 := [(0, _), (1, _), (2, _), (3, _)]) 3 [1, 2, 3, 0] C dL_law_862 rfl ic_6 (by decide) rfl ?_
          refine v_goto 18 C dL_law_865 (by decide) ?_
          exact hr18 _ _ h
        · have h := if_f h c
          refine v_iconst C dL_law_419 ic_0 ?_
          exact v_ireth h R1 rfl dL_law_420
      have h := if_f h c8
      by_cases c9 : ((xs x3.toNatClampNeg) &&& 31) = 9
      · have h := if_t h c9
        refine v_tswI 421 C dL_law_33 (by rw [c9]; decide) (by rw [c9]; decide) (by rw [c9]; rfl) (by decide) ?_
        refine v_aload_n 1 C dL_law_421 rfl ?_
        refine v_aload_n 0 C dL_law_422 rfl ?_
        refine v_iload_n 3 C dL_law_423 rfl ?_
        refine v_iconst C dL_law_424 ic_1 ?_
        refine v_iadd C dL_law_425 ?_
        obtain ⟨hi, h⟩ := gi_some h
        refine v_sld C Sc hi dL_law_426 ?_
        refine v_aload_n 0 C dL_law_427 rfl ?_
        refine v_iload_n 3 C dL_law_428 rfl ?_
        refine v_iconst C dL_law_429 ic_2 ?_
        refine v_iadd C dL_law_430 ?_
        obtain ⟨hi, h⟩ := gi_some h
        refine v_sld C Sc hi dL_law_431 ?_
        obtain ⟨r_432, s_432, e_432, h⟩ := bd_some h
        refine v_callVi [] C (t_X10_horns e_432) mw_X10_horns (at_0 _ _) rfl wm_RL_54 ⟨by decide, by decide⟩ rfl (Nat.le_of_ble_eq_true rfl) rfl dL_law_432 ?_
        refine v_aload_n 2 C dL_law_435 rfl ?_
        refine v_aload_n 0 C dL_law_436 rfl ?_
        refine v_iload_n 3 C dL_law_437 rfl ?_
        refine v_iconst C dL_law_438 ic_1 ?_
        refine v_iadd C dL_law_439 ?_
        obtain ⟨hi, h⟩ := gi_some h
        refine v_sld C Sc hi dL_law_440 ?_
        refine v_aload_n 0 C dL_law_441 rfl ?_
        refine v_iload_n 3 C dL_law_442 rfl ?_
        refine v_iconst C dL_law_443 ic_2 ?_
        refine v_iadd C dL_law_444 ?_
        obtain ⟨hi, h⟩ := gi_some h
        refine v_sld C Sc hi dL_law_445 ?_
        obtain ⟨r_446, s_446, e_446, h⟩ := bd_some h
        refine v_callVi [_] C (t_X11_horns e_446) mw_X11_horns (at_74 _ _) rfl wm_RL_57 ⟨by decide, by decide⟩ rfl (Nat.le_of_ble_eq_true rfl) rfl dL_law_446 ?_
        refine v_icmp_eq 862 C dL_law_449 (by decide) (fun c => ?_) (fun c => ?_)
        · have h := if_t h c
          refine v_iinc (L1 := [(0, _), (1, _), (2, _), (3, _)]) 3 [1, 2, 3, 0] C dL_law_862 rfl ic_6 (by decide) rfl ?_
          refine v_goto 18 C dL_law_865 (by decide) ?_
          exact hr18 _ _ h
        · have h := if_f h c
          refine v_iconst C dL_law_452 ic_0 ?_
          exact v_ireth h R1 rfl dL_law_453
      have h := if_f h c9
      by_cases c10 : ((xs x3.toNatClampNeg) &&& 31) = 10
      · have h := if_t h c10
        refine v_tswI 454 C dL_law_33 (by rw [c10]; decide) (by rw [c10]; decide) (by rw [c10]; rfl) (by decide) ?_
        refine v_aload_n 1 C dL_law_454 rfl ?_
        refine v_aload_n 0 C dL_law_455 rfl ?_
        refine v_iload_n 3 C dL_law_456 rfl ?_
        refine v_iconst C dL_law_457 ic_1 ?_
        refine v_iadd C dL_law_458 ?_
        obtain ⟨hi, h⟩ := gi_some h
        refine v_sld C Sc hi dL_law_459 ?_
        refine v_aload_n 0 C dL_law_460 rfl ?_
        refine v_iload_n 3 C dL_law_461 rfl ?_
        refine v_iconst C dL_law_462 ic_2 ?_
        refine v_iadd C dL_law_463 ?_
        obtain ⟨hi, h⟩ := gi_some h
        refine v_sld C Sc hi dL_law_464 ?_
        obtain ⟨r_465, s_465, e_465, h⟩ := bd_some h
        refine v_callVi [] C (t_X10_log e_465) mw_X10_log (at_0 _ _) rfl wm_RL_58 ⟨by decide, by decide⟩ rfl (Nat.le_of_ble_eq_true rfl) rfl dL_law_465 ?_
        refine v_aload_n 2 C dL_law_468 rfl ?_
        refine v_aload_n 0 C dL_law_469 rfl ?_
        refine v_iload_n 3 C dL_law_470 rfl ?_
        refine v_iconst C dL_law_471 ic_1 ?_
        refine v_iadd C dL_law_472 ?_
        obtain ⟨hi, h⟩ := gi_some h
        refine v_sld C Sc hi dL_law_473 ?_
        refine v_aload_n 0 C dL_law_474 rfl ?_
        refine v_iload_n 3 C dL_law_475 rfl ?_
        refine v_iconst C dL_law_476 ic_2 ?_
        refine v_iadd C dL_law_477 ?_
        obtain ⟨hi, h⟩ := gi_some h
        refine v_sld C Sc hi dL_law_478 ?_
        obtain ⟨r_479, s_479, e_479, h⟩ := bd_some h
        refine v_callVi [_] C (t_X11_log e_479) mw_X11_log (at_74 _ _) rfl wm_RL_61 ⟨by decide, by decide⟩ rfl (Nat.le_of_ble_eq_true rfl) rfl dL_law_479 ?_
        refine v_icmp_eq 862 C dL_law_482 (by decide) (fun c => ?_) (fun c => ?_)
        · have h := if_t h c
          refine v_iinc (L1 := [(0, _), (1, _), (2, _), (3, _)]) 3 [1, 2, 3, 0] C dL_law_862 rfl ic_6 (by decide) rfl ?_
          refine v_goto 18 C dL_law_865 (by decide) ?_
          exact hr18 _ _ h
        · have h := if_f h c
          refine v_iconst C dL_law_485 ic_0 ?_
          exact v_ireth h R1 rfl dL_law_486
      have h := if_f h c10
      by_cases c11 : ((xs x3.toNatClampNeg) &&& 31) = 11
      · have h := if_t h c11
        refine v_tswI 487 C dL_law_33 (by rw [c11]; decide) (by rw [c11]; decide) (by rw [c11]; rfl) (by decide) ?_
        refine v_aload_n 1 C dL_law_487 rfl ?_
        obtain ⟨r_488, s_488, e_488, h⟩ := bd_some h
        refine v_callVi [] C (t_X10_erase e_488) mw_X10_erase (at_0 _ _) rfl wm_RL_62 ⟨by decide, by decide⟩ rfl (Nat.le_of_ble_eq_true rfl) rfl dL_law_488 ?_
        refine v_aload_n 2 C dL_law_491 rfl ?_
        obtain ⟨r_492, s_492, e_492, h⟩ := bd_some h
        refine v_callVi [_] C (t_X11_erase e_492) mw_X11_erase (at_74 _ _) rfl wm_RL_65 ⟨by decide, by decide⟩ rfl (Nat.le_of_ble_eq_true rfl) rfl dL_law_492 ?_
        refine v_icmp_eq 862 C dL_law_495 (by decide) (fun c => ?_) (fun c => ?_)
        · have h := if_t h c
          refine v_iinc (L1 := [(0, _), (1, _), (2, _), (3, _)]) 3 [1, 2, 3, 0] C dL_law_862 rfl ic_6 (by decide) rfl ?_
          refine v_goto 18 C dL_law_865 (by decide) ?_
          exact hr18 _ _ h
        · have h := if_f h c
          refine v_iconst C dL_law_498 ic_0 ?_
          exact v_ireth h R1 rfl dL_law_499
      have h := if_f h c11
      by_cases c12 : ((xs x3.toNatClampNeg) &&& 31) = 12
      · have h := if_t h c12
        refine v_tswI 500 C dL_law_33 (by rw [c12]; decide) (by rw [c12]; decide) (by rw [c12]; rfl) (by decide) ?_
        refine v_aload_n 1 C dL_law_500 rfl ?_
        refine v_aload_n 0 C dL_law_501 rfl ?_
        refine v_iload_n 3 C dL_law_502 rfl ?_
        refine v_iconst C dL_law_503 ic_1 ?_
        refine v_iadd C dL_law_504 ?_
        obtain ⟨hi, h⟩ := gi_some h
        refine v_sld C Sc hi dL_law_505 ?_
        obtain ⟨r_506, s_506, e_506, h⟩ := bd_some h
        refine v_callVi [] C (t_X10_joined e_506) mw_X10_joined (at_0 _ _) rfl wm_RL_66 ⟨by decide, by decide⟩ rfl (Nat.le_of_ble_eq_true rfl) rfl dL_law_506 ?_
        refine v_aload_n 2 C dL_law_509 rfl ?_
        refine v_aload_n 0 C dL_law_510 rfl ?_
        refine v_iload_n 3 C dL_law_511 rfl ?_
        refine v_iconst C dL_law_512 ic_1 ?_
        refine v_iadd C dL_law_513 ?_
        obtain ⟨hi, h⟩ := gi_some h
        refine v_sld C Sc hi dL_law_514 ?_
        obtain ⟨r_515, s_515, e_515, h⟩ := bd_some h
        refine v_callVi [_] C (t_X11_joined e_515) mw_X11_joined (at_74 _ _) rfl wm_RL_70 ⟨by decide, by decide⟩ rfl (Nat.le_of_ble_eq_true rfl) rfl dL_law_515 ?_
        refine v_icmp_eq 862 C dL_law_518 (by decide) (fun c => ?_) (fun c => ?_)
        · have h := if_t h c
          refine v_iinc (L1 := [(0, _), (1, _), (2, _), (3, _)]) 3 [1, 2, 3, 0] C dL_law_862 rfl ic_6 (by decide) rfl ?_
          refine v_goto 18 C dL_law_865 (by decide) ?_
          exact hr18 _ _ h
        · have h := if_f h c
          refine v_iconst C dL_law_521 ic_0 ?_
          exact v_ireth h R1 rfl dL_law_522
      have h := if_f h c12
      by_cases c13 : ((xs x3.toNatClampNeg) &&& 31) = 13
      · have h := if_t h c13
        refine v_tswI 523 C dL_law_33 (by rw [c13]; decide) (by rw [c13]; decide) (by rw [c13]; rfl) (by decide) ?_
        refine v_aload_n 1 C dL_law_523 rfl ?_
        refine v_aload_n 0 C dL_law_524 rfl ?_
        refine v_iload_n 3 C dL_law_525 rfl ?_
        refine v_iconst C dL_law_526 ic_1 ?_
        refine v_iadd C dL_law_527 ?_
        obtain ⟨hi, h⟩ := gi_some h
        refine v_sld C Sc hi dL_law_528 ?_
        obtain ⟨r_529, s_529, e_529, h⟩ := bd_some h
        refine v_callVi [] C (t_X10_off e_529) mw_X10_off (at_0 _ _) rfl wm_RL_71 ⟨by decide, by decide⟩ rfl (Nat.le_of_ble_eq_true rfl) rfl dL_law_529 ?_
        refine v_aload_n 2 C dL_law_532 rfl ?_
        refine v_aload_n 0 C dL_law_533 rfl ?_
        refine v_iload_n 3 C dL_law_534 rfl ?_
        refine v_iconst C dL_law_535 ic_1 ?_
        refine v_iadd C dL_law_536 ?_
        obtain ⟨hi, h⟩ := gi_some h
        refine v_sld C Sc hi dL_law_537 ?_
        obtain ⟨r_538, s_538, e_538, h⟩ := bd_some h
        refine v_callVi [_] C (t_X11_off e_538) mw_X11_off (at_74 _ _) rfl wm_RL_74 ⟨by decide, by decide⟩ rfl (Nat.le_of_ble_eq_true rfl) rfl dL_law_538 ?_
        refine v_icmp_eq 862 C dL_law_541 (by decide) (fun c => ?_) (fun c => ?_)
        · have h := if_t h c
          refine v_iinc (L1 := [(0, _), (1, _), (2, _), (3, _)]) 3 [1, 2, 3, 0] C dL_law_862 rfl ic_6 (by decide) rfl ?_
          refine v_goto 18 C dL_law_865 (by decide) ?_
          exact hr18 _ _ h
        · have h := if_f h c
          refine v_iconst C dL_law_544 ic_0 ?_
          exact v_ireth h R1 rfl dL_law_545
      have h := if_f h c13
      by_cases c14 : ((xs x3.toNatClampNeg) &&& 31) = 14
      · have h := if_t h c14
        refine v_tswI 546 C dL_law_33 (by rw [c14]; decide) (by rw [c14]; decide) (by rw [c14]; rfl) (by decide) ?_
        refine v_aload_n 1 C dL_law_546 rfl ?_
        refine v_aload_n 0 C dL_law_547 rfl ?_
        refine v_iload_n 3 C dL_law_548 rfl ?_
        refine v_iconst C dL_law_549 ic_1 ?_
        refine v_iadd C dL_law_550 ?_
        obtain ⟨hi, h⟩ := gi_some h
        refine v_sld C Sc hi dL_law_551 ?_
        obtain ⟨r_552, s_552, e_552, h⟩ := bd_some h
        refine v_callVi [] C (t_X10_explain e_552) mw_X10_explain (at_0 _ _) rfl wm_RL_75 ⟨by decide, by decide⟩ rfl (Nat.le_of_ble_eq_true rfl) rfl dL_law_552 ?_
        refine v_aload_n 2 C dL_law_555 rfl ?_
        refine v_aload_n 0 C dL_law_556 rfl ?_
        refine v_iload_n 3 C dL_law_557 rfl ?_
        refine v_iconst C dL_law_558 ic_1 ?_
        refine v_iadd C dL_law_559 ?_
        obtain ⟨hi, h⟩ := gi_some h
        refine v_sld C Sc hi dL_law_560 ?_
        obtain ⟨r_561, s_561, e_561, h⟩ := bd_some h
        refine v_callVi [_] C (t_X11_explain e_561) mw_X11_explain (at_74 _ _) rfl wm_RL_78 ⟨by decide, by decide⟩ rfl (Nat.le_of_ble_eq_true rfl) rfl dL_law_561 ?_
        refine v_icmp_eq 862 C dL_law_564 (by decide) (fun c => ?_) (fun c => ?_)
        · have h := if_t h c
          refine v_iinc (L1 := [(0, _), (1, _), (2, _), (3, _)]) 3 [1, 2, 3, 0] C dL_law_862 rfl ic_6 (by decide) rfl ?_
          refine v_goto 18 C dL_law_865 (by decide) ?_
          exact hr18 _ _ h
        · have h := if_f h c
          refine v_iconst C dL_law_567 ic_0 ?_
          exact v_ireth h R1 rfl dL_law_568
      have h := if_f h c14
      by_cases c15 : ((xs x3.toNatClampNeg) &&& 31) = 15
      · have h := if_t h c15
        refine v_tswI 569 C dL_law_33 (by rw [c15]; decide) (by rw [c15]; decide) (by rw [c15]; rfl) (by decide) ?_
        refine v_aload_n 1 C dL_law_569 rfl ?_
        refine v_aload_n 0 C dL_law_570 rfl ?_
        refine v_iload_n 3 C dL_law_571 rfl ?_
        refine v_iconst C dL_law_572 ic_1 ?_
        refine v_iadd C dL_law_573 ?_
        obtain ⟨hi, h⟩ := gi_some h
        refine v_sld C Sc hi dL_law_574 ?_
        refine v_aload_n 0 C dL_law_575 rfl ?_
        refine v_iload_n 3 C dL_law_576 rfl ?_
        refine v_iconst C dL_law_577 ic_2 ?_
        refine v_iadd C dL_law_578 ?_
        obtain ⟨hi, h⟩ := gi_some h
        refine v_sld C Sc hi dL_law_579 ?_
        obtain ⟨r_580, s_580, e_580, h⟩ := bd_some h
        refine v_callVi [] C (t_X10_altered e_580) mw_X10_altered (at_0 _ _) rfl wm_RL_79 ⟨by decide, by decide⟩ rfl (Nat.le_of_ble_eq_true rfl) rfl dL_law_580 ?_
        refine v_aload_n 2 C dL_law_583 rfl ?_
        refine v_aload_n 0 C dL_law_584 rfl ?_
        refine v_iload_n 3 C dL_law_585 rfl ?_
        refine v_iconst C dL_law_586 ic_1 ?_
        refine v_iadd C dL_law_587 ?_
        obtain ⟨hi, h⟩ := gi_some h
        refine v_sld C Sc hi dL_law_588 ?_
        refine v_aload_n 0 C dL_law_589 rfl ?_
        refine v_iload_n 3 C dL_law_590 rfl ?_
        refine v_iconst C dL_law_591 ic_2 ?_
        refine v_iadd C dL_law_592 ?_
        obtain ⟨hi, h⟩ := gi_some h
        refine v_sld C Sc hi dL_law_593 ?_
        obtain ⟨r_594, s_594, e_594, h⟩ := bd_some h
        refine v_callVi [_] C (t_X11_altered e_594) mw_X11_altered (at_74 _ _) rfl wm_RL_82 ⟨by decide, by decide⟩ rfl (Nat.le_of_ble_eq_true rfl) rfl dL_law_594 ?_
        refine v_icmp_eq 862 C dL_law_597 (by decide) (fun c => ?_) (fun c => ?_)
        · have h := if_t h c
          refine v_iinc (L1 := [(0, _), (1, _), (2, _), (3, _)]) 3 [1, 2, 3, 0] C dL_law_862 rfl ic_6 (by decide) rfl ?_
          refine v_goto 18 C dL_law_865 (by decide) ?_
          exact hr18 _ _ h
        · have h := if_f h c
          refine v_iconst C dL_law_600 ic_0 ?_
          exact v_ireth h R1 rfl dL_law_601
      have h := if_f h c15
      by_cases c16 : ((xs x3.toNatClampNeg) &&& 31) = 16
      · have h := if_t h c16
        refine v_tswI 602 C dL_law_33 (by rw [c16]; decide) (by rw [c16]; decide) (by rw [c16]; rfl) (by decide) ?_
        refine v_aload_n 1 C dL_law_602 rfl ?_
        refine v_aload_n 0 C dL_law_603 rfl ?_
        refine v_iload_n 3 C dL_law_604 rfl ?_
        refine v_iconst C dL_law_605 ic_1 ?_
        refine v_iadd C dL_law_606 ?_
        obtain ⟨hi, h⟩ := gi_some h
        refine v_sld C Sc hi dL_law_607 ?_
        refine v_aload_n 0 C dL_law_608 rfl ?_
        refine v_iload_n 3 C dL_law_609 rfl ?_
        refine v_iconst C dL_law_610 ic_2 ?_
        refine v_iadd C dL_law_611 ?_
        obtain ⟨hi, h⟩ := gi_some h
        refine v_sld C Sc hi dL_law_612 ?_
        refine v_if_eq 620 C dL_law_613 (by decide) (fun c => ?_) (fun c => ?_)
        · have h := if_t h c
          refine v_iconst C dL_law_620 ic_0 ?_
          exact tj_L_law_621 C R1 Sc hr18 h
        · have h := if_f h c
          refine v_iconst C dL_law_616 ic_1 ?_
          refine v_goto 621 C dL_law_617 (by decide) ?_
          exact tj_L_law_621 C R1 Sc hr18 h
      have h := if_f h c16
      by_cases c17 : ((xs x3.toNatClampNeg) &&& 31) = 17
      · have h := if_t h c17
        refine v_tswI 651 C dL_law_33 (by rw [c17]; decide) (by rw [c17]; decide) (by rw [c17]; rfl) (by decide) ?_
        refine v_aload_n 1 C dL_law_651 rfl ?_
        refine v_aload_n 0 C dL_law_652 rfl ?_
        refine v_iload_n 3 C dL_law_653 rfl ?_
        refine v_iconst C dL_law_654 ic_1 ?_
        refine v_iadd C dL_law_655 ?_
        obtain ⟨hi, h⟩ := gi_some h
        refine v_sld C Sc hi dL_law_656 ?_
        obtain ⟨r_657, s_657, e_657, h⟩ := bd_some h
        refine v_callVi [] C (t_X10_till e_657) mw_X10_till (at_0 _ _) rfl wm_RL_88 ⟨by decide, by decide⟩ rfl (Nat.le_of_ble_eq_true rfl) rfl dL_law_657 ?_
        refine v_aload_n 2 C dL_law_660 rfl ?_
        refine v_aload_n 0 C dL_law_661 rfl ?_
        refine v_iload_n 3 C dL_law_662 rfl ?_
        refine v_iconst C dL_law_663 ic_1 ?_
        refine v_iadd C dL_law_664 ?_
        obtain ⟨hi, h⟩ := gi_some h
        refine v_sld C Sc hi dL_law_665 ?_
        obtain ⟨r_666, s_666, e_666, h⟩ := bd_some h
        refine v_callVi [_] C (t_X11_till e_666) mw_X11_till (at_74 _ _) rfl wm_RL_91 ⟨by decide, by decide⟩ rfl (Nat.le_of_ble_eq_true rfl) rfl dL_law_666 ?_
        refine v_icmp_eq 862 C dL_law_669 (by decide) (fun c => ?_) (fun c => ?_)
        · have h := if_t h c
          refine v_iinc (L1 := [(0, _), (1, _), (2, _), (3, _)]) 3 [1, 2, 3, 0] C dL_law_862 rfl ic_6 (by decide) rfl ?_
          refine v_goto 18 C dL_law_865 (by decide) ?_
          exact hr18 _ _ h
        · have h := if_f h c
          refine v_iconst C dL_law_672 ic_0 ?_
          exact v_ireth h R1 rfl dL_law_673
      have h := if_f h c17
      by_cases c18 : ((xs x3.toNatClampNeg) &&& 31) = 18
      · have h := if_t h c18
        refine v_tswI 674 C dL_law_33 (by rw [c18]; decide) (by rw [c18]; decide) (by rw [c18]; rfl) (by decide) ?_
        refine v_aload_n 1 C dL_law_674 rfl ?_
        refine v_aload_n 0 C dL_law_675 rfl ?_
        refine v_iload_n 3 C dL_law_676 rfl ?_
        refine v_iconst C dL_law_677 ic_1 ?_
        refine v_iadd C dL_law_678 ?_
        obtain ⟨hi, h⟩ := gi_some h
        refine v_sld C Sc hi dL_law_679 ?_
        refine v_aload_n 0 C dL_law_680 rfl ?_
        refine v_iload_n 3 C dL_law_681 rfl ?_
        refine v_iconst C dL_law_682 ic_2 ?_
        refine v_iadd C dL_law_683 ?_
        obtain ⟨hi, h⟩ := gi_some h
        refine v_sld C Sc hi dL_law_684 ?_
        refine v_aload_n 0 C dL_law_685 rfl ?_
        refine v_iload_n 3 C dL_law_686 rfl ?_
        refine v_iconst C dL_law_687 ic_3 ?_
        refine v_iadd C dL_law_688 ?_
        obtain ⟨hi, h⟩ := gi_some h
        refine v_sld C Sc hi dL_law_689 ?_
        obtain ⟨r_690, s_690, e_690, h⟩ := bd_some h
        refine v_callVi [] C (t_X10_board e_690) mw_X10_board (at_0 _ _) rfl wm_RL_92 ⟨by decide, by decide⟩ rfl (Nat.le_of_ble_eq_true rfl) rfl dL_law_690 ?_
        refine v_aload_n 2 C dL_law_693 rfl ?_
        refine v_aload_n 0 C dL_law_694 rfl ?_
        refine v_iload_n 3 C dL_law_695 rfl ?_
        refine v_iconst C dL_law_696 ic_1 ?_
        refine v_iadd C dL_law_697 ?_
        obtain ⟨hi, h⟩ := gi_some h
        refine v_sld C Sc hi dL_law_698 ?_
        refine v_aload_n 0 C dL_law_699 rfl ?_
        refine v_iload_n 3 C dL_law_700 rfl ?_
        refine v_iconst C dL_law_701 ic_2 ?_
        refine v_iadd C dL_law_702 ?_
        obtain ⟨hi, h⟩ := gi_some h
        refine v_sld C Sc hi dL_law_703 ?_
        refine v_aload_n 0 C dL_law_704 rfl ?_
        refine v_iload_n 3 C dL_law_705 rfl ?_
        refine v_iconst C dL_law_706 ic_3 ?_
        refine v_iadd C dL_law_707 ?_
        obtain ⟨hi, h⟩ := gi_some h
        refine v_sld C Sc hi dL_law_708 ?_
        obtain ⟨r_709, s_709, e_709, h⟩ := bd_some h
        refine v_callVi [_] C (t_X11_board e_709) mw_X11_board (at_74 _ _) rfl wm_RL_96 ⟨by decide, by decide⟩ rfl (Nat.le_of_ble_eq_true rfl) rfl dL_law_709 ?_
        refine v_icmp_eq 862 C dL_law_712 (by decide) (fun c => ?_) (fun c => ?_)
        · have h := if_t h c
          refine v_iinc (L1 := [(0, _), (1, _), (2, _), (3, _)]) 3 [1, 2, 3, 0] C dL_law_862 rfl ic_6 (by decide) rfl ?_
          refine v_goto 18 C dL_law_865 (by decide) ?_
          exact hr18 _ _ h
        · have h := if_f h c
          refine v_iconst C dL_law_715 ic_0 ?_
          exact v_ireth h R1 rfl dL_law_716
      have h := if_f h c18
      by_cases c19 : ((xs x3.toNatClampNeg) &&& 31) = 19
      · have h := if_t h c19
        refine v_tswI 717 C dL_law_33 (by rw [c19]; decide) (by rw [c19]; decide) (by rw [c19]; rfl) (by decide) ?_
        refine v_aload_n 1 C dL_law_717 rfl ?_
        refine v_aload_n 0 C dL_law_718 rfl ?_
        refine v_iload_n 3 C dL_law_719 rfl ?_
        refine v_iconst C dL_law_720 ic_1 ?_
        refine v_iadd C dL_law_721 ?_
        obtain ⟨hi, h⟩ := gi_some h
        refine v_sld C Sc hi dL_law_722 ?_
        obtain ⟨r_723, s_723, e_723, h⟩ := bd_some h
        refine v_callVi [] C (t_X10_harm e_723) mw_X10_harm (at_0 _ _) rfl wm_RL_97 ⟨by decide, by decide⟩ rfl (Nat.le_of_ble_eq_true rfl) rfl dL_law_723 ?_
        refine v_aload_n 2 C dL_law_726 rfl ?_
        refine v_aload_n 0 C dL_law_727 rfl ?_
        refine v_iload_n 3 C dL_law_728 rfl ?_
        refine v_iconst C dL_law_729 ic_1 ?_
        refine v_iadd C dL_law_730 ?_
        obtain ⟨hi, h⟩ := gi_some h
        refine v_sld C Sc hi dL_law_731 ?_
        obtain ⟨r_732, s_732, e_732, h⟩ := bd_some h
        refine v_callVi [_] C (t_X11_harm e_732) mw_X11_harm (at_74 _ _) rfl wm_RL_100 ⟨by decide, by decide⟩ rfl (Nat.le_of_ble_eq_true rfl) rfl dL_law_732 ?_
        refine v_icmp_eq 862 C dL_law_735 (by decide) (fun c => ?_) (fun c => ?_)
        · have h := if_t h c
          refine v_iinc (L1 := [(0, _), (1, _), (2, _), (3, _)]) 3 [1, 2, 3, 0] C dL_law_862 rfl ic_6 (by decide) rfl ?_
          refine v_goto 18 C dL_law_865 (by decide) ?_
          exact hr18 _ _ h
        · have h := if_f h c
          refine v_iconst C dL_law_738 ic_0 ?_
          exact v_ireth h R1 rfl dL_law_739
      have h := if_f h c19
      by_cases c20 : ((xs x3.toNatClampNeg) &&& 31) = 20
      · have h := if_t h c20
        refine v_tswI 740 C dL_law_33 (by rw [c20]; decide) (by rw [c20]; decide) (by rw [c20]; rfl) (by decide) ?_
        refine v_aload_n 1 C dL_law_740 rfl ?_
        refine v_aload_n 0 C dL_law_741 rfl ?_
        refine v_iload_n 3 C dL_law_742 rfl ?_
        refine v_iconst C dL_law_743 ic_1 ?_
        refine v_iadd C dL_law_744 ?_
        obtain ⟨hi, h⟩ := gi_some h
        refine v_sld C Sc hi dL_law_745 ?_
        refine v_aload_n 0 C dL_law_746 rfl ?_
        refine v_iload_n 3 C dL_law_747 rfl ?_
        refine v_iconst C dL_law_748 ic_2 ?_
        refine v_iadd C dL_law_749 ?_
        obtain ⟨hi, h⟩ := gi_some h
        refine v_sld C Sc hi dL_law_750 ?_
        obtain ⟨r_751, s_751, e_751, h⟩ := bd_some h
        refine v_callVi [] C (t_X10_change e_751) mw_X10_change (at_0 _ _) rfl wm_RL_101 ⟨by decide, by decide⟩ rfl (Nat.le_of_ble_eq_true rfl) rfl dL_law_751 ?_
        refine v_aload_n 2 C dL_law_754 rfl ?_
        refine v_aload_n 0 C dL_law_755 rfl ?_
        refine v_iload_n 3 C dL_law_756 rfl ?_
        refine v_iconst C dL_law_757 ic_1 ?_
        refine v_iadd C dL_law_758 ?_
        obtain ⟨hi, h⟩ := gi_some h
        refine v_sld C Sc hi dL_law_759 ?_
        refine v_aload_n 0 C dL_law_760 rfl ?_
        refine v_iload_n 3 C dL_law_761 rfl ?_
        refine v_iconst C dL_law_762 ic_2 ?_
        refine v_iadd C dL_law_763 ?_
        obtain ⟨hi, h⟩ := gi_some h
        refine v_sld C Sc hi dL_law_764 ?_
        obtain ⟨r_765, s_765, e_765, h⟩ := bd_some h
        refine v_callVi [_] C (t_X11_change e_765) mw_X11_change (at_74 _ _) rfl wm_RL_104 ⟨by decide, by decide⟩ rfl (Nat.le_of_ble_eq_true rfl) rfl dL_law_765 ?_
        refine v_icmp_eq 862 C dL_law_768 (by decide) (fun c => ?_) (fun c => ?_)
        · have h := if_t h c
          refine v_iinc (L1 := [(0, _), (1, _), (2, _), (3, _)]) 3 [1, 2, 3, 0] C dL_law_862 rfl ic_6 (by decide) rfl ?_
          refine v_goto 18 C dL_law_865 (by decide) ?_
          exact hr18 _ _ h
        · have h := if_f h c
          refine v_iconst C dL_law_771 ic_0 ?_
          exact v_ireth h R1 rfl dL_law_772
      have h := if_f h c20
      by_cases c21 : ((xs x3.toNatClampNeg) &&& 31) = 21
      · have h := if_t h c21
        refine v_tswI 773 C dL_law_33 (by rw [c21]; decide) (by rw [c21]; decide) (by rw [c21]; rfl) (by decide) ?_
        refine v_aload_n 1 C dL_law_773 rfl ?_
        refine v_aload_n 0 C dL_law_774 rfl ?_
        refine v_iload_n 3 C dL_law_775 rfl ?_
        refine v_iconst C dL_law_776 ic_1 ?_
        refine v_iadd C dL_law_777 ?_
        obtain ⟨hi, h⟩ := gi_some h
        refine v_sld C Sc hi dL_law_778 ?_
        refine v_aload_n 0 C dL_law_779 rfl ?_
        refine v_iload_n 3 C dL_law_780 rfl ?_
        refine v_iconst C dL_law_781 ic_2 ?_
        refine v_iadd C dL_law_782 ?_
        obtain ⟨hi, h⟩ := gi_some h
        refine v_sld C Sc hi dL_law_783 ?_
        obtain ⟨r_784, s_784, e_784, h⟩ := bd_some h
        refine v_callVi [] C (t_X10_told e_784) mw_X10_told (at_0 _ _) rfl wm_RL_105 ⟨by decide, by decide⟩ rfl (Nat.le_of_ble_eq_true rfl) rfl dL_law_784 ?_
        refine v_aload_n 2 C dL_law_787 rfl ?_
        refine v_aload_n 0 C dL_law_788 rfl ?_
        refine v_iload_n 3 C dL_law_789 rfl ?_
        refine v_iconst C dL_law_790 ic_1 ?_
        refine v_iadd C dL_law_791 ?_
        obtain ⟨hi, h⟩ := gi_some h
        refine v_sld C Sc hi dL_law_792 ?_
        refine v_aload_n 0 C dL_law_793 rfl ?_
        refine v_iload_n 3 C dL_law_794 rfl ?_
        refine v_iconst C dL_law_795 ic_2 ?_
        refine v_iadd C dL_law_796 ?_
        obtain ⟨hi, h⟩ := gi_some h
        refine v_sld C Sc hi dL_law_797 ?_
        obtain ⟨r_798, s_798, e_798, h⟩ := bd_some h
        refine v_callVi [_] C (t_X11_told e_798) mw_X11_told (at_74 _ _) rfl wm_RL_108 ⟨by decide, by decide⟩ rfl (Nat.le_of_ble_eq_true rfl) rfl dL_law_798 ?_
        refine v_icmp_eq 862 C dL_law_801 (by decide) (fun c => ?_) (fun c => ?_)
        · have h := if_t h c
          refine v_iinc (L1 := [(0, _), (1, _), (2, _), (3, _)]) 3 [1, 2, 3, 0] C dL_law_862 rfl ic_6 (by decide) rfl ?_
          refine v_goto 18 C dL_law_865 (by decide) ?_
          exact hr18 _ _ h
        · have h := if_f h c
          refine v_iconst C dL_law_804 ic_0 ?_
          exact v_ireth h R1 rfl dL_law_805
      have h := if_f h c21
      by_cases c22 : ((xs x3.toNatClampNeg) &&& 31) = 22
      · have h := if_t h c22
        refine v_tswI 806 C dL_law_33 (by rw [c22]; decide) (by rw [c22]; decide) (by rw [c22]; rfl) (by decide) ?_
        refine v_aload_n 1 C dL_law_806 rfl ?_
        refine v_aload_n 0 C dL_law_807 rfl ?_
        refine v_iload_n 3 C dL_law_808 rfl ?_
        refine v_iconst C dL_law_809 ic_1 ?_
        refine v_iadd C dL_law_810 ?_
        obtain ⟨hi, h⟩ := gi_some h
        refine v_sld C Sc hi dL_law_811 ?_
        refine v_aload_n 0 C dL_law_812 rfl ?_
        refine v_iload_n 3 C dL_law_813 rfl ?_
        refine v_iconst C dL_law_814 ic_2 ?_
        refine v_iadd C dL_law_815 ?_
        obtain ⟨hi, h⟩ := gi_some h
        refine v_sld C Sc hi dL_law_816 ?_
        obtain ⟨r_817, s_817, e_817, h⟩ := bd_some h
        refine v_callVi [] C (t_X10_wall e_817) mw_X10_wall (at_0 _ _) rfl wm_RL_109 ⟨by decide, by decide⟩ rfl (Nat.le_of_ble_eq_true rfl) rfl dL_law_817 ?_
        refine v_aload_n 2 C dL_law_820 rfl ?_
        refine v_aload_n 0 C dL_law_821 rfl ?_
        refine v_iload_n 3 C dL_law_822 rfl ?_
        refine v_iconst C dL_law_823 ic_1 ?_
        refine v_iadd C dL_law_824 ?_
        obtain ⟨hi, h⟩ := gi_some h
        refine v_sld C Sc hi dL_law_825 ?_
        refine v_aload_n 0 C dL_law_826 rfl ?_
        refine v_iload_n 3 C dL_law_827 rfl ?_
        refine v_iconst C dL_law_828 ic_2 ?_
        refine v_iadd C dL_law_829 ?_
        obtain ⟨hi, h⟩ := gi_some h
        refine v_sld C Sc hi dL_law_830 ?_
        obtain ⟨r_831, s_831, e_831, h⟩ := bd_some h
        refine v_callVi [_] C (t_X11_wall e_831) mw_X11_wall (at_74 _ _) rfl wm_RL_112 ⟨by decide, by decide⟩ rfl (Nat.le_of_ble_eq_true rfl) rfl dL_law_831 ?_
        refine v_icmp_eq 862 C dL_law_834 (by decide) (fun c => ?_) (fun c => ?_)
        · have h := if_t h c
          refine v_iinc (L1 := [(0, _), (1, _), (2, _), (3, _)]) 3 [1, 2, 3, 0] C dL_law_862 rfl ic_6 (by decide) rfl ?_
          refine v_goto 18 C dL_law_865 (by decide) ?_
          exact hr18 _ _ h
        · have h := if_f h c
          refine v_iconst C dL_law_837 ic_0 ?_
          exact v_ireth h R1 rfl dL_law_838
      have h := if_f h c22
      by_cases c23 : ((xs x3.toNatClampNeg) &&& 31) = 23
      · have h := if_t h c23
        refine v_tswI 839 C dL_law_33 (by rw [c23]; decide) (by rw [c23]; decide) (by rw [c23]; rfl) (by decide) ?_
        refine v_aload_n 1 C dL_law_839 rfl ?_
        refine v_aload_n 0 C dL_law_840 rfl ?_
        refine v_iload_n 3 C dL_law_841 rfl ?_
        refine v_iconst C dL_law_842 ic_1 ?_
        refine v_iadd C dL_law_843 ?_
        obtain ⟨hi, h⟩ := gi_some h
        refine v_sld C Sc hi dL_law_844 ?_
        obtain ⟨r_845, s_845, e_845, h⟩ := bd_some h
        refine v_callVi [] C (t_X10_count e_845) mw_X10_count (at_0 _ _) rfl wm_RL_113 ⟨by decide, by decide⟩ rfl (Nat.le_of_ble_eq_true rfl) rfl dL_law_845 ?_
        refine v_aload_n 2 C dL_law_848 rfl ?_
        refine v_aload_n 0 C dL_law_849 rfl ?_
        refine v_iload_n 3 C dL_law_850 rfl ?_
        refine v_iconst C dL_law_851 ic_1 ?_
        refine v_iadd C dL_law_852 ?_
        obtain ⟨hi, h⟩ := gi_some h
        refine v_sld C Sc hi dL_law_853 ?_
        obtain ⟨r_854, s_854, e_854, h⟩ := bd_some h
        refine v_callVi [_] C (t_X11_count e_854) mw_X11_count (at_74 _ _) rfl wm_RL_116 ⟨by decide, by decide⟩ rfl (Nat.le_of_ble_eq_true rfl) rfl dL_law_854 ?_
        refine v_icmp_eq 862 C dL_law_857 (by decide) (fun c => ?_) (fun c => ?_)
        · have h := if_t h c
          refine v_iinc (L1 := [(0, _), (1, _), (2, _), (3, _)]) 3 [1, 2, 3, 0] C dL_law_862 rfl ic_6 (by decide) rfl ?_
          refine v_goto 18 C dL_law_865 (by decide) ?_
          exact hr18 _ _ h
        · have h := if_f h c
          refine v_iconst C dL_law_860 ic_0 ?_
          exact v_ireth h R1 rfl dL_law_861
      have h := if_f h c23
      have q0 := lv_neT c0 (show (0 : Int32).toInt = 0 by decide)
      have q1 := lv_neT c1 (show (1 : Int32).toInt = 1 by decide)
      have q2 := lv_neT c2 (show (2 : Int32).toInt = 2 by decide)
      have q3 := lv_neT c3 (show (3 : Int32).toInt = 3 by decide)
      have q4 := lv_neT c4 (show (4 : Int32).toInt = 4 by decide)
      have q5 := lv_neT c5 (show (5 : Int32).toInt = 5 by decide)
      have q6 := lv_neT c6 (show (6 : Int32).toInt = 6 by decide)
      have q7 := lv_neT c7 (show (7 : Int32).toInt = 7 by decide)
      have q8 := lv_neT c8 (show (8 : Int32).toInt = 8 by decide)
      have q9 := lv_neT c9 (show (9 : Int32).toInt = 9 by decide)
      have q10 := lv_neT c10 (show (10 : Int32).toInt = 10 by decide)
      have q11 := lv_neT c11 (show (11 : Int32).toInt = 11 by decide)
      have q12 := lv_neT c12 (show (12 : Int32).toInt = 12 by decide)
      have q13 := lv_neT c13 (show (13 : Int32).toInt = 13 by decide)
      have q14 := lv_neT c14 (show (14 : Int32).toInt = 14 by decide)
      have q15 := lv_neT c15 (show (15 : Int32).toInt = 15 by decide)
      have q16 := lv_neT c16 (show (16 : Int32).toInt = 16 by decide)
      have q17 := lv_neT c17 (show (17 : Int32).toInt = 17 by decide)
      have q18 := lv_neT c18 (show (18 : Int32).toInt = 18 by decide)
      have q19 := lv_neT c19 (show (19 : Int32).toInt = 19 by decide)
      have q20 := lv_neT c20 (show (20 : Int32).toInt = 20 by decide)
      have q21 := lv_neT c21 (show (21 : Int32).toInt = 21 by decide)
      have q22 := lv_neT c22 (show (22 : Int32).toInt = 22 by decide)
      have q23 := lv_neT c23 (show (23 : Int32).toInt = 23 by decide)
      refine v_tswO 862 C dL_law_33 (by omega) (by decide) ?_
      refine v_iinc (L1 := [(0, _), (1, _), (2, _), (3, _)]) 3 [1, 2, 3, 0] C dL_law_862 rfl ic_6 (by decide) rfl ?_
      refine v_goto 18 C dL_law_865 (by decide) ?_
      exact hr18 _ _ h
