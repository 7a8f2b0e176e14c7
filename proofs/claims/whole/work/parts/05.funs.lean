/-! the plain functions of the methods, by program out of the bytecode: what each does to the state -/
def FU : Nat := 10000
/-- Math.min, Math.max -/
def jmin (a b : Int32) : Int32 := if b < a then b else a
def jmax (a b : Int32) : Int32 := if a < b then b else a
/-- String.length() and charAt(i) of the constant k -/
def strLen (k : Nat) (s : St) : Option (Int32 × St) := if k < nS then some (nI (lenS.getD k 0), s) else none
def strAt (k : Nat) (i : Int32) (s : St) : Option (Int32 × St) := if k < nS then gi i (lenS.getD k 0) (some ((bytS.getD k []).getD i.toNatClampNeg 0, s)) else none
def f_X8_hasRoom (x1 : Int32) (s : St) : Option (Int32 × St) :=
  if 600 < ((rI s 1 1) + x1) then (
    some (0, s))
  else (
    some (1, s))
def b_X8_addWord_3 (rec3 : Int32 → Int32 → St → Option (Unit × St)) (x1 : Int32) (x2 : Int32) (s : St) : Option (Unit × St) :=
  if x2 < 0 then (
    some ((), s))
  else (
    if 600 ≤ (rI s 1 1) then (
      some ((), s))
    else (
      gi (rI s 1 1) 600 <|
      let s_29 : St := wI s 2 (rI s 1 1).toNatClampNeg (vp_nar .byte ((x1 >>> (x2 &&& 31)).toInt8.toInt32))
      let s_37 : St := wI s_29 1 1 ((rI s_29 1 1) + 1)
      let x2_40 : Int32 := x2 + (-8)
      rec3 x1 x2_40 s_37))
def l_X8_addWord_3  : Nat → Int32 → Int32 → St → Option (Unit × St)
  | 0 => fun _ _ _ => none
  | n + 1 => b_X8_addWord_3  (l_X8_addWord_3  n)
def f_X8_addWord (x1 : Int32) (s : St) : Option (Unit × St) :=
  l_X8_addWord_3 FU x1 24 s
def f_X10_feed (x1 : Int32) (x2 : Int32) (x3 : Int32) (x4 : Int32) (x5 : Int32) (s : St) : Option (Int32 × St) :=
  bd (f_X8_hasRoom 20 s) fun r_6 s_6 =>
  if r_6 = 0 then (
    some ((-1), s_6))
  else (
    bd (f_X8_addWord x1 s_6) fun _ s_19 =>
    bd (f_X8_addWord x2 s_19) fun _ s_27 =>
    bd (f_X8_addWord x3 s_27) fun _ s_35 =>
    bd (f_X8_addWord x4 s_35) fun _ s_44 =>
    bd (f_X8_addWord x5 s_44) fun _ s_53 =>
    some (rI s_53 1 1, s_53))
def j_X11_feed_71 (rec18 : Int32 → Int32 → Int32 → Int32 → Int32 → Int32 → St → Option (Int32 × St)) (x1 : Int32) (x2 : Int32) (x3 : Int32) (x4 : Int32) (x5 : Int32) (x6 : Int32) (t0 : Int32) (s : St) : Option (Int32 × St) :=
  gi (rI s 74 1) 600 <|
  let s_95 : St := wI s 75 (rI s 74 1).toNatClampNeg (vp_nar .byte ((t0 >>> ((24 - (8 * (x6 - x6 / 4 * 4))) &&& 31)).toInt8.toInt32))
  let s_103 : St := wI s_95 74 1 ((rI s_95 74 1) + 1)
  let x6_106 : Int32 := x6 + 1
  rec18 x1 x2 x3 x4 x5 x6_106 s_103
def b_X11_feed_18 (rec18 : Int32 → Int32 → Int32 → Int32 → Int32 → Int32 → St → Option (Int32 × St)) (x1 : Int32) (x2 : Int32) (x3 : Int32) (x4 : Int32) (x5 : Int32) (x6 : Int32) (s : St) : Option (Int32 × St) :=
  if 20 ≤ x6 then (
    some (rI s 74 1, s))
  else (
    if 4 ≤ x6 then (
      if 8 ≤ x6 then (
        if 12 ≤ x6 then (
          if 16 ≤ x6 then (
            j_X11_feed_71 rec18 x1 x2 x3 x4 x5 x6 x5 s)
          else (
            j_X11_feed_71 rec18 x1 x2 x3 x4 x5 x6 x4 s))
        else (
          j_X11_feed_71 rec18 x1 x2 x3 x4 x5 x6 x3 s))
      else (
        j_X11_feed_71 rec18 x1 x2 x3 x4 x5 x6 x2 s))
    else (
      j_X11_feed_71 rec18 x1 x2 x3 x4 x5 x6 x1 s))
def l_X11_feed_18  : Nat → Int32 → Int32 → Int32 → Int32 → Int32 → Int32 → St → Option (Int32 × St)
  | 0 => fun _ _ _ _ _ _ _ => none
  | n + 1 => b_X11_feed_18  (l_X11_feed_18  n)
def f_X11_feed (x1 : Int32) (x2 : Int32) (x3 : Int32) (x4 : Int32) (x5 : Int32) (s : St) : Option (Int32 × St) :=
  if ((rI s 74 1) + 20) ≤ 600 then (
    l_X11_feed_18 FU x1 x2 x3 x4 x5 0 s)
  else (
    some ((-1), s))
def f_X10_end (x1 : Int32) (s : St) : Option (Int32 × St) :=
  if x1 < 0 then (
    some (0, s))
  else (
    if x1 ≤ (rI s 1 1) then (
      let s_22 : St := wI s 1 1 x1
      some (1, s_22))
    else (
      some (0, s)))
def f_X11_in (x0 : Int32) (x1 : Int32) (x2 : Int32) (s : St) : Option (Int32 × St) :=
  if x0 < x1 then (
    some (0, s))
  else (
    if x2 < x0 then (
      some (0, s))
    else (
      some (1, s)))
def f_X11_end (x1 : Int32) (s : St) : Option (Int32 × St) :=
  bd (f_X11_in x1 0 (rI s 74 1) s) fun r_6 s_6 =>
  if r_6 = 0 then (
    some (0, s_6))
  else (
    let s_16 : St := wI s_6 74 1 x1
    some (1, s_16))
def f_X3_clear_d  (s : St) : Option (Unit × St) :=
  let s_2 : St := wI s 18 0 0
  let s_7 : St := wI s_2 18 1 0
  let s_12 : St := wI s_7 18 2 0
  let s_17 : St := wI s_12 18 3 0
  some ((), s_17)
def f_X8_signAt (x1 : Int32) (s : St) : Option (Int32 × St) :=
  if x1 < 0 then (
    some (0, s))
  else (
    if (rI s 1 1) ≤ x1 then (
      some (0, s))
    else (
      gi x1 600 <|
      some (rI s 2 x1.toNatClampNeg, s)))
def f_X9_isLetter (x0 : Int32) (s : St) : Option (Int32 × St) :=
  if x0 < 97 then (
    some (0, s))
  else (
    if 122 < x0 then (
      some (0, s))
    else (
      some (1, s)))
def f_X9_isDigit (x0 : Int32) (s : St) : Option (Int32 × St) :=
  if x0 < 48 then (
    some (0, s))
  else (
    if 57 < x0 then (
      some (0, s))
    else (
      some (1, s)))
def b_X9_takeNumber_10 (rec10 : St → Option (Unit × St))  (s : St) : Option (Unit × St) :=
  if (rI s 1 1) ≤ (rI s 7 3) then (
    some ((), s))
  else (
    bd (f_X8_signAt (rI s 7 3) s) fun r_32 s_32 =>
    bd (f_X9_isDigit r_32 s_32) fun r_35 s_35 =>
    if r_35 = 0 then (
      some ((), s_35))
    else (
      bd (f_X8_signAt (rI s_35 7 3) s_35) fun r_57 s_57 =>
      let s_69 : St := wI s_57 7 4 (jmin ((((rI s_35 7 4) * 10) + r_57) - 48) 100000)
      let s_79 : St := wI s_69 7 3 ((rI s_69 7 3) + 1)
      rec10 s_79))
def l_X9_takeNumber_10  : Nat → St → Option (Unit × St)
  | 0 => fun _ => none
  | n + 1 => b_X9_takeNumber_10  (l_X9_takeNumber_10  n)
def f_X9_takeNumber  (s : St) : Option (Unit × St) :=
  let s_2 : St := wI s 7 1 1
  let s_7 : St := wI s_2 7 4 0
  l_X9_takeNumber_10 FU s_7
def b_X9_takeWord_5 (rec5 : St → Option (Unit × St))  (s : St) : Option (Unit × St) :=
  if (rI s 1 1) ≤ (rI s 7 3) then (
    some ((), s))
  else (
    bd (f_X8_signAt (rI s 7 3) s) fun r_27 s_27 =>
    bd (f_X9_isLetter r_27 s_27) fun r_30 s_30 =>
    if r_30 = 0 then (
      some ((), s_30))
    else (
      let s_43 : St := wI s_30 7 3 ((rI s_30 7 3) + 1)
      rec5 s_43))
def l_X9_takeWord_5  : Nat → St → Option (Unit × St)
  | 0 => fun _ => none
  | n + 1 => b_X9_takeWord_5  (l_X9_takeWord_5  n)
def f_X9_takeWord  (s : St) : Option (Unit × St) :=
  let s_2 : St := wI s 7 1 0
  l_X9_takeWord_5 FU s_2
def f_X9_isBlank (x0 : Int32) (s : St) : Option (Int32 × St) :=
  if x0 = 32 then (
    some (1, s))
  else (
    if x0 = 10 then (
      some (1, s))
    else (
      some (0, s)))
def j_X9_advance_52   (s : St) : Option (Unit × St) :=
  let s_57 : St := wI s 7 3 (rI s 7 2)
  if (rI s_57 7 2) < (rI s_57 1 1) then (
    bd (f_X8_signAt (rI s_57 7 2) s_57) fun r_88 s_88 =>
    bd (f_X9_isLetter r_88 s_88) fun r_93 s_93 =>
    if r_93 = 0 then (
      bd (f_X9_isDigit r_88 s_93) fun r_107 s_107 =>
      if r_107 = 0 then (
        if r_88 = 59 then (
          let s_132 : St := wI s_107 7 1 2
          let s_142 : St := wI s_132 7 3 ((rI s_132 7 2) + 1)
          some ((), s_142))
        else (
          let s_132 : St := wI s_107 7 1 3
          let s_142 : St := wI s_132 7 3 ((rI s_132 7 2) + 1)
          some ((), s_142)))
      else (
        bd (f_X9_takeNumber s_107) fun _ s_114 =>
        some ((), s_114)))
    else (
      bd (f_X9_takeWord s_93) fun _ s_100 =>
      some ((), s_100)))
  else (
    let s_76 : St := wI s_57 7 1 4
    some ((), s_76))
def b_X9_advance_8 (rec8 : St → Option (Unit × St))  (s : St) : Option (Unit × St) :=
  if (rI s 1 1) ≤ (rI s 7 2) then (
    j_X9_advance_52 s)
  else (
    bd (f_X8_signAt (rI s 7 2) s) fun r_30 s_30 =>
    bd (f_X9_isBlank r_30 s_30) fun r_33 s_33 =>
    if r_33 = 0 then (
      j_X9_advance_52 s_33)
    else (
      let s_46 : St := wI s_33 7 2 ((rI s_33 7 2) + 1)
      rec8 s_46))
def l_X9_advance_8  : Nat → St → Option (Unit × St)
  | 0 => fun _ => none
  | n + 1 => b_X9_advance_8  (l_X9_advance_8  n)
def f_X9_advance  (s : St) : Option (Unit × St) :=
  let s_5 : St := wI s 7 2 (rI s 7 3)
  l_X9_advance_8 FU s_5
def f_X9_restart  (s : St) : Option (Unit × St) :=
  let s_2 : St := wI s 7 3 0
  bd (f_X9_advance s_2) fun _ s_6 =>
  some ((), s_6)
def b_X9_isWord_27 (rec27 : Nat → Int32 → St → Option (Int32 × St)) (k1 : Nat) (x2 : Int32) (s : St) : Option (Int32 × St) :=
  bd (strLen k1 s) fun r_29 s_29 =>
  if r_29 ≤ x2 then (
    some (1, s_29))
  else (
    bd (f_X8_signAt ((rI s_29 7 2) + x2) s_29) fun r_45 s_45 =>
    bd (strAt k1 x2 s_45) fun r_50 s_50 =>
    if r_45 = r_50 then (
      let x2_58 : Int32 := x2 + 1
      rec27 k1 x2_58 s_50)
    else (
      some (0, s_50)))
def l_X9_isWord_27  : Nat → Nat → Int32 → St → Option (Int32 × St)
  | 0 => fun _ _ _ => none
  | n + 1 => b_X9_isWord_27  (l_X9_isWord_27  n)
def f_X9_isWord (k1 : Nat) (s : St) : Option (Int32 × St) :=
  if (rI s 7 1) = 0 then (
    bd (strLen k1 s) fun r_17 s_17 =>
    if ((rI s 7 3) - (rI s 7 2)) = r_17 then (
      l_X9_isWord_27 FU k1 0 s_17)
    else (
      some (0, s_17)))
  else (
    some (0, s))
def f_X4_takeNumber (x1 : Int32) (x2 : Int32) (s : St) : Option (Int32 × St) :=
  if (rI s 7 1) = 1 then (
    if (rI s 7 4) < x1 then (
      some (0, s))
    else (
      if (rI s 7 4) ≤ x2 then (
        let s_43 : St := wI s 3 5 (rI s 7 4)
        bd (f_X9_advance s_43) fun _ s_50 =>
        some (1, s_50))
      else (
        some (0, s))))
  else (
    some (0, s))
def f_X4_takeWord (k1 : Nat) (s : St) : Option (Int32 × St) :=
  bd (f_X9_isWord k1 s) fun r_5 s_5 =>
  if r_5 = 0 then (
    some (0, s_5))
  else (
    bd (f_X9_advance s_5) fun _ s_17 =>
    some (1, s_17))
def f_X4_isNumber (x1 : Int32) (s : St) : Option (Int32 × St) :=
  if (rI s 7 1) = 1 then (
    if (rI s 7 4) = x1 then (
      some (1, s))
    else (
      some (0, s)))
  else (
    some (0, s))
def f_X4_takeSemicolon  (s : St) : Option (Int32 × St) :=
  if (rI s 7 1) = 2 then (
    bd (f_X9_advance s) fun _ s_17 =>
    some (1, s_17))
  else (
    some (0, s))
def f_X3_addRule_d (x1 : Int32) (x2 : Int32) (x3 : Int32) (s : St) : Option (Unit × St) :=
  if 8 ≤ (rI s 18 3) then (
    some ((), s))
  else (
    gi (rI s 18 3) 8 <|
    let s_18 : St := wI s 25 (rI s 18 3).toNatClampNeg x1
    gi (rI s_18 18 3) 8 <|
    let s_28 : St := wI s_18 26 (rI s_18 18 3).toNatClampNeg x2
    gi (rI s_28 18 3) 8 <|
    let s_38 : St := wI s_28 27 (rI s_28 18 3).toNatClampNeg x3
    let s_46 : St := wI s_38 18 3 ((rI s_38 18 3) + 1)
    some ((), s_46))
def j_X4_readRule_d_120  (x3 : Int32) (x4 : Int32) (x5 : Int32) (s : St) : Option (Int32 × St) :=
  bd (f_X4_takeSemicolon s) fun r_121 s_121 =>
  if r_121 = 0 then (
    some (0, s_121))
  else (
    bd (f_X3_addRule_d x3 x4 x5 s_121) fun _ s_135 =>
    some (1, s_135))
def f_X4_readRule_d  (s : St) : Option (Int32 × St) :=
  bd (f_X9_advance s) fun _ s_4 =>
  let x2_13 : Int32 := (rI s_4 18 2) - 1
  bd (f_X4_takeNumber 0 x2_13 s_4) fun r_17 s_17 =>
  if r_17 = 0 then (
    some (0, s_17))
  else (
    let x3_29 : Int32 := rI s_17 3 5
    bd (f_X4_takeWord 9 s_17) fun r_33 s_33 =>
    if r_33 = 0 then (
      some (0, s_33))
    else (
      bd (f_X4_isNumber x3_29 s_33) fun r_41 s_41 =>
      if r_41 = 0 then (
        bd (f_X4_takeNumber 0 x2_13 s_41) fun r_50 s_50 =>
        if r_50 = 0 then (
          some (0, s_50))
        else (
          let x4_62 : Int32 := rI s_50 3 5
          bd (f_X9_isWord 10 s_50) fun r_73 s_73 =>
          if r_73 = 0 then (
            j_X4_readRule_d_120 x3_29 x4_62 (-1) s_73)
          else (
            bd (f_X9_advance s_73) fun _ s_83 =>
            bd (f_X4_isNumber x3_29 s_83) fun r_88 s_88 =>
            if r_88 = 0 then (
              bd (f_X4_isNumber x4_62 s_88) fun r_97 s_97 =>
              if r_97 = 0 then (
                bd (f_X4_takeNumber 0 x2_13 s_97) fun r_106 s_106 =>
                if r_106 = 0 then (
                  some (0, s_106))
                else (
                  let x5_118 : Int32 := rI s_106 3 5
                  j_X4_readRule_d_120 x3_29 x4_62 x5_118 s_106))
              else (
                some (0, s_97)))
            else (
              some (0, s_88)))))
      else (
        some (0, s_41))))
def b_X4_isNamed_37 (rec37 : Int32 → Int32 → Int32 → St → Option (Int32 × St)) (x1 : Int32) (x2 : Int32) (x3 : Int32) (s : St) : Option (Int32 × St) :=
  if x2 ≤ x3 then (
    some (1, s))
  else (
    gi x1 12 <|
    bd (f_X8_signAt ((rI s 4 x1.toNatClampNeg) + x3) s) fun r_54 s_54 =>
    bd (f_X8_signAt ((rI s_54 7 2) + x3) s_54) fun r_70 s_70 =>
    if r_54 = r_70 then (
      let x3_78 : Int32 := x3 + 1
      rec37 x1 x2 x3_78 s_70)
    else (
      some (0, s_70)))
def l_X4_isNamed_37  : Nat → Int32 → Int32 → Int32 → St → Option (Int32 × St)
  | 0 => fun _ _ _ _ => none
  | n + 1 => b_X4_isNamed_37  (l_X4_isNamed_37  n)
def f_X4_isNamed (x1 : Int32) (s : St) : Option (Int32 × St) :=
  gi x1 12 <|
  gi x1 12 <|
  let x2_13 : Int32 := (rI s 5 x1.toNatClampNeg) - (rI s 4 x1.toNatClampNeg)
  if ((rI s 7 3) - (rI s 7 2)) = x2_13 then (
    l_X4_isNamed_37 FU x1 x2_13 0 s)
  else (
    some (0, s))
def b_X4_findPoint_2 (rec2 : Int32 → Int32 → St → Option (Int32 × St)) (x1 : Int32) (x2 : Int32) (s : St) : Option (Int32 × St) :=
  if x1 ≤ x2 then (
    some ((-1), s))
  else (
    if (rI s 7 1) = 0 then (
      bd (f_X4_isNamed x2 s) fun r_19 s_19 =>
      if r_19 = 0 then (
        let x2_27 : Int32 := x2 + 1
        rec2 x1 x2_27 s_19)
      else (
        some (x2, s_19)))
    else (
      let x2_27 : Int32 := x2 + 1
      rec2 x1 x2_27 s))
def l_X4_findPoint_2  : Nat → Int32 → Int32 → St → Option (Int32 × St)
  | 0 => fun _ _ _ => none
  | n + 1 => b_X4_findPoint_2  (l_X4_findPoint_2  n)
def f_X4_findPoint (x1 : Int32) (s : St) : Option (Int32 × St) :=
  l_X4_findPoint_2 FU x1 0 s
def f_X4_takePoint (x1 : Int32) (s : St) : Option (Int32 × St) :=
  bd (f_X4_findPoint x1 s) fun r_2 s_2 =>
  if r_2 = (-1) then (
    some (0, s_2))
  else (
    let s_15 : St := wI s_2 3 5 r_2
    bd (f_X9_advance s_15) fun _ s_22 =>
    some (1, s_22))
def b_X4_leastLag_18 (rec6 : Int32 → Int32 → Int32 → Int32 → St → Option (Int32 × St)) (rec18 : Int32 → Int32 → Int32 → Int32 → Int32 → Int32 → St → Option (Int32 × St)) (x1 : Int32) (x2 : Int32) (x3 : Int32) (x4 : Int32) (x5 : Int32) (x6 : Int32) (s : St) : Option (Int32 × St) :=
  if x1 ≤ x6 then (
    if x5 < x2 then (
      let x4_68 : Int32 := x4 + 1
      rec6 x1 x2 x3 x4_68 s)
    else (
      gi x4 3 <|
      let x3_67 : Int32 := jmin x3 (rI s 6 x4.toNatClampNeg)
      let x4_68 : Int32 := x4 + 1
      rec6 x1 x2 x3_67 x4_68 s))
  else (
    gi x6 3 <|
    gi x4 3 <|
    if (rI s 6 x4.toNatClampNeg) < (rI s 6 x6.toNatClampNeg) then (
      let x6_44 : Int32 := x6 + 1
      rec18 x1 x2 x3 x4 x5 x6_44 s)
    else (
      let x5_41 : Int32 := x5 + 1
      let x6_44 : Int32 := x6 + 1
      rec18 x1 x2 x3 x4 x5_41 x6_44 s))
def l_X4_leastLag_18 (rec6 : Int32 → Int32 → Int32 → Int32 → St → Option (Int32 × St)) : Nat → Int32 → Int32 → Int32 → Int32 → Int32 → Int32 → St → Option (Int32 × St)
  | 0 => fun _ _ _ _ _ _ _ => none
  | n + 1 => b_X4_leastLag_18 rec6 (l_X4_leastLag_18 rec6 n)
def b_X4_leastLag_6 (rec6 : Int32 → Int32 → Int32 → Int32 → St → Option (Int32 × St)) (x1 : Int32) (x2 : Int32) (x3 : Int32) (x4 : Int32) (s : St) : Option (Int32 × St) :=
  if x1 ≤ x4 then (
    some (x3, s))
  else (
    l_X4_leastLag_18 rec6 FU x1 x2 x3 x4 0 0 s)
def l_X4_leastLag_6  : Nat → Int32 → Int32 → Int32 → Int32 → St → Option (Int32 × St)
  | 0 => fun _ _ _ _ _ => none
  | n + 1 => b_X4_leastLag_6  (l_X4_leastLag_6  n)
def f_X4_leastLag (x1 : Int32) (x2 : Int32) (s : St) : Option (Int32 × St) :=
  l_X4_leastLag_6 FU x1 x2 60 0 s
def f_X3_addWindow_d (x1 : Int32) (x2 : Int32) (s : St) : Option (Unit × St) :=
  if 12 ≤ (rI s 18 2) then (
    some ((), s))
  else (
    gi (rI s 18 2) 12 <|
    let s_18 : St := wI s 23 (rI s 18 2).toNatClampNeg x1
    gi (rI s_18 18 2) 12 <|
    let s_28 : St := wI s_18 24 (rI s_18 18 2).toNatClampNeg x2
    let s_36 : St := wI s_28 18 2 ((rI s_28 18 2) + 1)
    some ((), s_36))
def j_X4_readWindow_d_109  (x2 : Int32) (x3 : Int32) (x4 : Int32) (s : St) : Option (Int32 × St) :=
  bd (f_X4_takeSemicolon s) fun r_110 s_110 =>
  if r_110 = 0 then (
    some (0, s_110))
  else (
    bd (f_X4_leastLag x3 x4 s_110) fun r_124 s_124 =>
    bd (f_X3_addWindow_d x2 r_124 s_124) fun _ s_127 =>
    some (1, s_127))
def j_X4_readWindow_d_75  (x2 : Int32) (x3 : Int32) (s : St) : Option (Int32 × St) :=
  if x3 ≤ 1 then (
    j_X4_readWindow_d_109 x2 x3 1 s)
  else (
    bd (f_X4_takeWord 7 s) fun r_86 s_86 =>
    if r_86 = 0 then (
      some (0, s_86))
    else (
      bd (f_X4_takeNumber 1 x3 s_86) fun r_95 s_95 =>
      if r_95 = 0 then (
        some (0, s_95))
      else (
        let x4_107 : Int32 := rI s_95 3 5
        j_X4_readWindow_d_109 x2 x3 x4_107 s_95)))
def j_X4_readWindow_d_47 (rec27 : Int32 → Int32 → St → Option (Int32 × St)) (x2 : Int32) (x3 : Int32) (s : St) : Option (Int32 × St) :=
  bd (f_X4_takeNumber 0 60 s) fun r_51 s_51 =>
  if r_51 = 0 then (
    some (0, s_51))
  else (
    gi x3 3 <|
    let s_68 : St := wI s_51 6 x3.toNatClampNeg (rI s_51 3 5)
    let x3_69 : Int32 := x3 + 1
    rec27 x2 x3_69 s_68)
def b_X4_readWindow_d_27 (rec27 : Int32 → Int32 → St → Option (Int32 × St)) (x2 : Int32) (x3 : Int32) (s : St) : Option (Int32 × St) :=
  if 3 ≤ x3 then (
    j_X4_readWindow_d_75 x2 x3 s)
  else (
    if x3 = 0 then (
      j_X4_readWindow_d_47 rec27 x2 x3 s)
    else (
      if (rI s 7 1) = 1 then (
        j_X4_readWindow_d_47 rec27 x2 x3 s)
      else (
        j_X4_readWindow_d_75 x2 x3 s)))
def l_X4_readWindow_d_27  : Nat → Int32 → Int32 → St → Option (Int32 × St)
  | 0 => fun _ _ _ => none
  | n + 1 => b_X4_readWindow_d_27  (l_X4_readWindow_d_27  n)
def f_X4_readWindow_d  (s : St) : Option (Int32 × St) :=
  bd (f_X9_advance s) fun _ s_4 =>
  bd (f_X4_takePoint (rI s_4 18 0) s_4) fun r_12 s_12 =>
  if r_12 = 0 then (
    some (0, s_12))
  else (
    let x2_24 : Int32 := rI s_12 3 5
    l_X4_readWindow_d_27 FU x2_24 0 s_12)
def f_X3_addArc_d (x1 : Int32) (x2 : Int32) (x3 : Int32) (s : St) : Option (Unit × St) :=
  if 24 ≤ (rI s 18 1) then (
    some ((), s))
  else (
    gi (rI s 18 1) 24 <|
    let s_18 : St := wI s 20 (rI s 18 1).toNatClampNeg x1
    gi (rI s_18 18 1) 24 <|
    let s_28 : St := wI s_18 21 (rI s_18 18 1).toNatClampNeg x2
    gi (rI s_28 18 1) 24 <|
    let s_38 : St := wI s_28 22 (rI s_28 18 1).toNatClampNeg x3
    let s_46 : St := wI s_38 18 1 ((rI s_38 18 1) + 1)
    some ((), s_46))
def f_X4_readArc_d  (s : St) : Option (Int32 × St) :=
  bd (f_X9_advance s) fun _ s_4 =>
  bd (f_X4_takePoint (rI s_4 18 0) s_4) fun r_12 s_12 =>
  if r_12 = 0 then (
    some (0, s_12))
  else (
    let x2_24 : Int32 := rI s_12 3 5
    bd (f_X4_takeWord 4 s_12) fun r_28 s_28 =>
    if r_28 = 0 then (
      some (0, s_28))
    else (
      bd (f_X4_takePoint (rI s_28 18 0) s_28) fun r_39 s_39 =>
      if r_39 = 0 then (
        some (0, s_39))
      else (
        let x3_51 : Int32 := rI s_39 3 5
        bd (f_X4_takeWord 5 s_39) fun r_55 s_55 =>
        if r_55 = 0 then (
          some (0, s_55))
        else (
          bd (f_X4_takeNumber 0 60 s_55) fun r_65 s_65 =>
          if r_65 = 0 then (
            some (0, s_65))
          else (
            let x4_77 : Int32 := rI s_65 3 5
            bd (f_X4_takeSemicolon s_65) fun r_80 s_80 =>
            if r_80 = 0 then (
              some (0, s_80))
            else (
              bd (f_X3_addArc_d x2_24 x3_51 x4_77 s_80) fun _ s_93 =>
              some (1, s_93)))))))
def f_X9_isKept  (s : St) : Option (Int32 × St) :=
  bd (f_X9_isWord 0 s) fun r_3 s_3 =>
  if r_3 = 0 then (
    bd (f_X9_isWord 1 s_3) fun r_12 s_12 =>
    if r_12 = 0 then (
      bd (f_X9_isWord 2 s_12) fun r_21 s_21 =>
      if r_21 = 0 then (
        bd (f_X9_isWord 3 s_21) fun r_30 s_30 =>
        if r_30 = 0 then (
          bd (f_X9_isWord 4 s_30) fun r_39 s_39 =>
          if r_39 = 0 then (
            bd (f_X9_isWord 5 s_39) fun r_48 s_48 =>
            if r_48 = 0 then (
              bd (f_X9_isWord 6 s_48) fun r_57 s_57 =>
              if r_57 = 0 then (
                bd (f_X9_isWord 7 s_57) fun r_66 s_66 =>
                if r_66 = 0 then (
                  bd (f_X9_isWord 8 s_66) fun r_75 s_75 =>
                  if r_75 = 0 then (
                    bd (f_X9_isWord 9 s_75) fun r_84 s_84 =>
                    if r_84 = 0 then (
                      bd (f_X9_isWord 10 s_84) fun r_93 s_93 =>
                      if r_93 = 0 then (
                        some (0, s_93))
                      else (
                        some (1, s_93)))
                    else (
                      some (1, s_84)))
                  else (
                    some (1, s_75)))
                else (
                  some (1, s_66)))
              else (
                some (1, s_57)))
            else (
              some (1, s_48)))
          else (
            some (1, s_39)))
        else (
          some (1, s_30)))
      else (
        some (1, s_21)))
    else (
      some (1, s_12)))
  else (
    some (1, s_3))
def f_X9_isName  (s : St) : Option (Int32 × St) :=
  if (rI s 7 1) = 0 then (
    if 8 < ((rI s 7 3) - (rI s 7 2)) then (
      some (0, s))
    else (
      bd (f_X9_isKept s) fun r_22 s_22 =>
      if r_22 = 0 then (
        some (1, s_22))
      else (
        some (0, s_22))))
  else (
    some (0, s))
def f_X3_addPoint_d (x1 : Int32) (s : St) : Option (Unit × St) :=
  if 12 ≤ (rI s 18 0) then (
    some ((), s))
  else (
    gi (rI s 18 0) 12 <|
    let s_18 : St := wI s 19 (rI s 18 0).toNatClampNeg (vp_nar .boolean x1)
    let s_26 : St := wI s_18 18 0 ((rI s_18 18 0) + 1)
    some ((), s_26))
def j_X4_readPoint_d_98  (x2 : Int32) (s : St) : Option (Int32 × St) :=
  bd (f_X9_advance s) fun _ s_102 =>
  bd (f_X4_takeSemicolon s_102) fun r_106 s_106 =>
  if r_106 = 0 then (
    some (0, s_106))
  else (
    bd (f_X3_addPoint_d x2 s_106) fun _ s_116 =>
    some (1, s_116))
def f_X4_readPoint_d  (s : St) : Option (Int32 × St) :=
  bd (f_X9_advance s) fun _ s_4 =>
  bd (f_X9_isName s_4) fun r_11 s_11 =>
  if r_11 = 0 then (
    some (0, s_11))
  else (
    bd (f_X4_findPoint (rI s_11 18 0) s_11) fun r_22 s_22 =>
    if r_22 = (-1) then (
      gi (rI s_22 18 0) 12 <|
      let s_46 : St := wI s_22 4 (rI s_22 18 0).toNatClampNeg (rI s_22 7 2)
      gi (rI s_46 18 0) 12 <|
      let s_62 : St := wI s_46 5 (rI s_46 18 0).toNatClampNeg (rI s_46 7 3)
      bd (f_X9_advance s_62) fun _ s_67 =>
      bd (f_X9_isWord 2 s_67) fun r_76 s_76 =>
      if r_76 = 0 then (
        bd (f_X9_isWord 1 s_76) fun r_90 s_90 =>
        if r_90 = 0 then (
          some (0, s_90))
        else (
          j_X4_readPoint_d_98 r_76 s_90))
      else (
        j_X4_readPoint_d_98 r_76 s_76))
    else (
      some (0, s_22)))
def j_X4_read_d_192  (x2 : Int32) (s : St) : Option (Int32 × St) :=
  if x2 = 0 then (
    some (rI s 7 2, s))
  else (
    if (rI s 18 0) = 0 then (
      some (rI s 1 1, s))
    else (
      some ((-1), s)))
def b_X4_read_d_15 (rec15 : Int32 → Int32 → St → Option (Int32 × St)) (x2 : Int32) (x3 : Int32) (s : St) : Option (Int32 × St) :=
  if 600 ≤ x3 then (
    j_X4_read_d_192 x2 s)
  else (
    if x2 = 0 then (
      j_X4_read_d_192 x2 s)
    else (
      if (rI s 7 1) = 4 then (
        j_X4_read_d_192 x2 s)
      else (
        bd (f_X9_isWord 0 s) fun r_43 s_43 =>
        if r_43 = 0 then (
          bd (f_X9_isWord 3 s_43) fun r_81 s_81 =>
          if r_81 = 0 then (
            bd (f_X9_isWord 6 s_81) fun r_119 s_119 =>
            if r_119 = 0 then (
              bd (f_X9_isWord 8 s_119) fun r_157 s_157 =>
              if r_157 = 0 then (
                let x3_186 : Int32 := x3 + 1
                rec15 0 x3_186 s_157)
              else (
                if 8 ≤ (rI s_157 18 3) then (
                  let x3_186 : Int32 := x3 + 1
                  rec15 0 x3_186 s_157)
                else (
                  bd (f_X4_readRule_d s_157) fun r_174 s_174 =>
                  if r_174 = 0 then (
                    let x3_186 : Int32 := x3 + 1
                    rec15 0 x3_186 s_174)
                  else (
                    let x3_186 : Int32 := x3 + 1
                    rec15 1 x3_186 s_174))))
            else (
              if 12 ≤ (rI s_119 18 2) then (
                let x3_186 : Int32 := x3 + 1
                rec15 0 x3_186 s_119)
              else (
                bd (f_X4_readWindow_d s_119) fun r_136 s_136 =>
                if r_136 = 0 then (
                  let x3_186 : Int32 := x3 + 1
                  rec15 0 x3_186 s_136)
                else (
                  let x3_186 : Int32 := x3 + 1
                  rec15 1 x3_186 s_136))))
          else (
            if 24 ≤ (rI s_81 18 1) then (
              let x3_186 : Int32 := x3 + 1
              rec15 0 x3_186 s_81)
            else (
              bd (f_X4_readArc_d s_81) fun r_98 s_98 =>
              if r_98 = 0 then (
                let x3_186 : Int32 := x3 + 1
                rec15 0 x3_186 s_98)
              else (
                let x3_186 : Int32 := x3 + 1
                rec15 1 x3_186 s_98))))
        else (
          if 12 ≤ (rI s_43 18 0) then (
            let x3_186 : Int32 := x3 + 1
            rec15 0 x3_186 s_43)
          else (
            bd (f_X4_readPoint_d s_43) fun r_60 s_60 =>
            if r_60 = 0 then (
              let x3_186 : Int32 := x3 + 1
              rec15 0 x3_186 s_60)
            else (
              let x3_186 : Int32 := x3 + 1
              rec15 1 x3_186 s_60))))))
def l_X4_read_d_15  : Nat → Int32 → Int32 → St → Option (Int32 × St)
  | 0 => fun _ _ _ => none
  | n + 1 => b_X4_read_d_15  (l_X4_read_d_15  n)
def f_X4_read_d  (s : St) : Option (Int32 × St) :=
  bd (f_X3_clear_d s) fun _ s_1 =>
  bd (f_X9_restart s_1) fun _ s_8 =>
  l_X4_read_d_15 FU 1 0 s_8
def f_X10_fault  (s : St) : Option (Int32 × St) :=
  bd (f_X4_read_d s) fun r_8 s_8 =>
  some (r_8, s_8)
def f_X11_isLetter (x0 : Int32) (s : St) : Option (Int32 × St) :=
  if x0 < 97 then (
    some (0, s))
  else (
    if 122 < x0 then (
      some (0, s))
    else (
      some (1, s)))
def f_X11_isDigit (x0 : Int32) (s : St) : Option (Int32 × St) :=
  if x0 < 48 then (
    some (0, s))
  else (
    if 57 < x0 then (
      some (0, s))
    else (
      some (1, s)))
def b_X11_next_208 (rec208 : St → Option (Unit × St))  (s : St) : Option (Unit × St) :=
  if (rI s 74 1) ≤ (rI s 74 2) then (
    let s_294 : St := wI s 74 3 2
    some ((), s_294))
  else (
    gi (rI s 74 2) 600 <|
    bd (f_X11_isDigit (rI s 75 (rI s 74 2).toNatClampNeg) s) fun r_228 s_228 =>
    if r_228 = 0 then (
      let s_294 : St := wI s_228 74 3 2
      some ((), s_294))
    else (
      if (lg_cmp (rL s_228 74 5) 999) ≤ 0 then (
        gi (rI s_228 74 2) 600 <|
        let s_276 : St := wL s_228 74 5 (((10 * (rL s_228 74 5)) + ((rI s_228 75 (rI s_228 74 2).toNatClampNeg : Int32).toInt64)) - 48)
        let s_286 : St := wI s_276 74 2 ((rI s_276 74 2) + 1)
        rec208 s_286)
      else (
        let s_276 : St := wL s_228 74 5 (rL s_228 74 5)
        let s_286 : St := wI s_276 74 2 ((rI s_276 74 2) + 1)
        rec208 s_286)))
def l_X11_next_208  : Nat → St → Option (Unit × St)
  | 0 => fun _ => none
  | n + 1 => b_X11_next_208  (l_X11_next_208  n)
def j_X11_next_174   (s : St) : Option (Unit × St) :=
  if ((rI s 74 2) - (rI s 74 4)) ≤ 8 then (
    let s_195 : St := wI s 74 3 1
    some ((), s_195))
  else (
    let s_190 : St := wL s 74 5 0
    let s_195 : St := wI s_190 74 3 1
    some ((), s_195))
def b_X11_next_99 (rec99 : St → Option (Unit × St))  (s : St) : Option (Unit × St) :=
  if (rI s 74 1) ≤ (rI s 74 2) then (
    j_X11_next_174 s)
  else (
    gi (rI s 74 2) 600 <|
    bd (f_X11_isLetter (rI s 75 (rI s 74 2).toNatClampNeg) s) fun r_119 s_119 =>
    if r_119 = 0 then (
      j_X11_next_174 s_119)
    else (
      if 8 ≤ ((rI s_119 74 2) - (rI s_119 74 4)) then (
        let s_168 : St := wI s_119 74 2 ((rI s_119 74 2) + 1)
        rec99 s_168)
      else (
        gi (rI s_119 74 2) 600 <|
        let s_158 : St := wL s_119 74 5 (((rL s_119 74 5) <<< ((8 : Int32).toInt64 &&& 63)) ||| ((rI s_119 75 (rI s_119 74 2).toNatClampNeg : Int32).toInt64))
        let s_168 : St := wI s_158 74 2 ((rI s_158 74 2) + 1)
        rec99 s_168)))
def l_X11_next_99  : Nat → St → Option (Unit × St)
  | 0 => fun _ => none
  | n + 1 => b_X11_next_99  (l_X11_next_99  n)
def j_X11_next_52   (s : St) : Option (Unit × St) :=
  let s_57 : St := wI s 74 4 (rI s 74 2)
  let s_62 : St := wL s_57 74 5 0
  let s_67 : St := wI s_62 74 3 0
  if (rI s_67 74 2) = (rI s_67 74 1) then (
    some ((), s_67))
  else (
    gi (rI s_67 74 2) 600 <|
    let x1_91 : Int32 := rI s_67 75 (rI s_67 74 2).toNatClampNeg
    bd (f_X11_isLetter x1_91 s_67) fun r_93 s_93 =>
    if r_93 = 0 then (
      bd (f_X11_isDigit x1_91 s_93) fun r_202 s_202 =>
      if r_202 = 0 then (
        if x1_91 = 59 then (
          let s_312 : St := wI s_202 74 3 3
          let s_322 : St := wI s_312 74 2 ((rI s_312 74 2) + 1)
          some ((), s_322))
        else (
          let s_312 : St := wI s_202 74 3 4
          let s_322 : St := wI s_312 74 2 ((rI s_312 74 2) + 1)
          some ((), s_322)))
      else (
        l_X11_next_208 FU s_202))
    else (
      l_X11_next_99 FU s_93))
def b_X11_next_0 (rec0 : St → Option (Unit × St))  (s : St) : Option (Unit × St) :=
  if (rI s 74 1) ≤ (rI s 74 2) then (
    j_X11_next_52 s)
  else (
    gi (rI s 74 2) 600 <|
    if (rI s 75 (rI s 74 2).toNatClampNeg) = 32 then (
      let s_46 : St := wI s 74 2 ((rI s 74 2) + 1)
      rec0 s_46)
    else (
      gi (rI s 74 2) 600 <|
      if (rI s 75 (rI s 74 2).toNatClampNeg) = 10 then (
        let s_46 : St := wI s 74 2 ((rI s 74 2) + 1)
        rec0 s_46)
      else (
        j_X11_next_52 s)))
def l_X11_next_0  : Nat → St → Option (Unit × St)
  | 0 => fun _ => none
  | n + 1 => b_X11_next_0  (l_X11_next_0  n)
def f_X11_next  (s : St) : Option (Unit × St) :=
  l_X11_next_0 FU s
def b_X11_packed_4 (rec4 : Nat → Int64 → Int32 → St → Option (Int64 × St)) (k0 : Nat) (x1 : Int64) (x3 : Int32) (s : St) : Option (Int64 × St) :=
  bd (strLen k0 s) fun r_6 s_6 =>
  if r_6 ≤ x3 then (
    some (x1, s_6))
  else (
    bd (strAt k0 x3 s_6) fun r_18 s_18 =>
    let x1_23 : Int64 := (x1 <<< ((8 : Int32).toInt64 &&& 63)) ||| ((r_18 : Int32).toInt64)
    let x3_24 : Int32 := x3 + 1
    rec4 k0 x1_23 x3_24 s_18)
def l_X11_packed_4  : Nat → Nat → Int64 → Int32 → St → Option (Int64 × St)
  | 0 => fun _ _ _ _ => none
  | n + 1 => b_X11_packed_4  (l_X11_packed_4  n)
def f_X11_packed (k0 : Nat) (s : St) : Option (Int64 × St) :=
  l_X11_packed_4 FU k0 0 0 s
def f_X11_isWord (k1 : Nat) (s : St) : Option (Int32 × St) :=
  if (rI s 74 3) = 1 then (
    bd (f_X11_packed k1 s) fun r_13 s_13 =>
    if (lg_cmp (rL s 74 5) r_13) = 0 then (
      some (1, s_13))
    else (
      some (0, s_13)))
  else (
    some (0, s))
def f_X11_closes  (s : St) : Option (Int32 × St) :=
  if (rI s 74 3) = 3 then (
    bd (f_X11_next s) fun _ s_11 =>
    some (1, s_11))
  else (
    some (0, s))
def f_X11_isNumber (x1 : Int32) (x2 : Int32) (s : St) : Option (Int32 × St) :=
  if (rI s 74 3) = 2 then (
    if (lg_cmp (rL s 74 5) ((x1 : Int32).toInt64)) < 0 then (
      some (0, s))
    else (
      if 0 < (lg_cmp (rL s 74 5) ((x2 : Int32).toInt64)) then (
        some (0, s))
      else (
        some (1, s))))
  else (
    some (0, s))
def f_X11_word (k1 : Nat) (s : St) : Option (Int32 × St) :=
  bd (f_X11_isWord k1 s) fun r_2 s_2 =>
  if r_2 = 0 then (
    some (0, s_2))
  else (
    bd (f_X11_next s_2) fun _ s_11 =>
    some (1, s_11))
def b_X11_ruleLine_98 (rec24 : Int32 → Int32 → St → Option (Int32 × St)) (rec98 : Int32 → Int32 → Int32 → St → Option (Int32 × St)) (x1 : Int32) (x2 : Int32) (x3 : Int32) (s : St) : Option (Int32 × St) :=
  if x2 ≤ x3 then (
    gi (x1 + x2) 24 <|
    let s_140 : St := wI s 83 (x1 + x2).toNatClampNeg ((rL s 74 5).toInt32)
    bd (f_X11_next s_140) fun _ s_142 =>
    let x2_145 : Int32 := x2 + 1
    rec24 x1 x2_145 s_142)
  else (
    gi (x1 + x3) 24 <|
    if (lg_cmp ((rI s 83 (x1 + x3).toNatClampNeg : Int32).toInt64) (rL s 74 5)) = 0 then (
      some (0, s))
    else (
      let x3_122 : Int32 := x3 + 1
      rec98 x1 x2 x3_122 s))
def l_X11_ruleLine_98 (rec24 : Int32 → Int32 → St → Option (Int32 × St)) : Nat → Int32 → Int32 → Int32 → St → Option (Int32 × St)
  | 0 => fun _ _ _ _ => none
  | n + 1 => b_X11_ruleLine_98 rec24 (l_X11_ruleLine_98 rec24 n)
def j_X11_ruleLine_80 (rec24 : Int32 → Int32 → St → Option (Int32 × St)) (x1 : Int32) (x2 : Int32) (s : St) : Option (Int32 × St) :=
  bd (f_X11_isNumber 0 ((rI s 74 13) - 1) s) fun r_88 s_88 =>
  if r_88 = 0 then (
    some (0, s_88))
  else (
    l_X11_ruleLine_98 rec24 FU x1 x2 0 s_88)
def j_X11_ruleLine_54 (rec24 : Int32 → Int32 → St → Option (Int32 × St)) (x1 : Int32) (x2 : Int32) (s : St) : Option (Int32 × St) :=
  if x2 = 2 then (
    bd (f_X11_isWord 10 s) fun r_62 s_62 =>
    if r_62 = 0 then (
      let x2_145 : Int32 := x2 + 1
      rec24 x1 x2_145 s_62)
    else (
      if x2 = 2 then (
        bd (f_X11_next s_62) fun _ s_77 =>
        j_X11_ruleLine_80 rec24 x1 x2 s_77)
      else (
        j_X11_ruleLine_80 rec24 x1 x2 s_62)))
  else (
    if x2 = 2 then (
      bd (f_X11_next s) fun _ s_77 =>
      j_X11_ruleLine_80 rec24 x1 x2 s_77)
    else (
      j_X11_ruleLine_80 rec24 x1 x2 s))
def b_X11_ruleLine_24 (rec24 : Int32 → Int32 → St → Option (Int32 × St)) (x1 : Int32) (x2 : Int32) (s : St) : Option (Int32 × St) :=
  if 3 ≤ x2 then (
    let s_158 : St := wI s 74 16 ((rI s 74 16) + 1)
    bd (f_X11_closes s_158) fun r_162 s_162 =>
    gb r_162 <| some (r_162, s_162))
  else (
    gi (x1 + x2) 24 <|
    let s_37 : St := wI s 83 (x1 + x2).toNatClampNeg (-1)
    if x2 = 1 then (
      bd (f_X11_word 9 s_37) fun r_46 s_46 =>
      if r_46 = 0 then (
        some (0, s_46))
      else (
        j_X11_ruleLine_54 rec24 x1 x2 s_46))
    else (
      j_X11_ruleLine_54 rec24 x1 x2 s_37))
def l_X11_ruleLine_24  : Nat → Int32 → Int32 → St → Option (Int32 × St)
  | 0 => fun _ _ _ => none
  | n + 1 => b_X11_ruleLine_24  (l_X11_ruleLine_24  n)
def f_X11_ruleLine  (s : St) : Option (Int32 × St) :=
  if (rI s 74 16) = 8 then (
    some (0, s))
  else (
    bd (f_X11_next s) fun _ s_12 =>
    let x1_21 : Int32 := 3 * (rI s_12 74 16)
    l_X11_ruleLine_24 FU x1_21 0 s_12)
def j_X11_isName_59  (t0 : Int32) (s : St) : Option (Int32 × St) :=
  if (rI s 74 3) = 1 then (
    if (lg_cmp (rL s 74 5) 0) = 0 then (
      some (0, s))
    else (
      if t0 = 0 then (
        bd (f_X11_isWord 6 s) fun r_84 s_84 =>
        if r_84 = 0 then (
          bd (f_X11_isWord 7 s_84) fun r_93 s_93 =>
          if r_93 = 0 then (
            bd (f_X11_isWord 8 s_93) fun r_102 s_102 =>
            if r_102 = 0 then (
              bd (f_X11_isWord 9 s_102) fun r_111 s_111 =>
              if r_111 = 0 then (
                bd (f_X11_isWord 10 s_111) fun r_120 s_120 =>
                if r_120 = 0 then (
                  some (1, s_120))
                else (
                  some (0, s_120)))
              else (
                some (0, s_111)))
            else (
              some (0, s_102)))
          else (
            some (0, s_93)))
        else (
          some (0, s_84)))
      else (
        some (0, s))))
  else (
    some (0, s))
def f_X11_isName  (s : St) : Option (Int32 × St) :=
  bd (f_X11_isWord 0 s) fun r_3 s_3 =>
  if r_3 = 0 then (
    bd (f_X11_isWord 1 s_3) fun r_12 s_12 =>
    if r_12 = 0 then (
      bd (f_X11_isWord 2 s_12) fun r_21 s_21 =>
      if r_21 = 0 then (
        bd (f_X11_isWord 3 s_21) fun r_30 s_30 =>
        if r_30 = 0 then (
          bd (f_X11_isWord 4 s_30) fun r_39 s_39 =>
          if r_39 = 0 then (
            bd (f_X11_isWord 5 s_39) fun r_48 s_48 =>
            if r_48 = 0 then (
              j_X11_isName_59 0 s_48)
            else (
              j_X11_isName_59 1 s_48))
          else (
            j_X11_isName_59 1 s_39))
        else (
          j_X11_isName_59 1 s_30))
      else (
        j_X11_isName_59 1 s_21))
    else (
      j_X11_isName_59 1 s_12))
  else (
    j_X11_isName_59 1 s_3)
def b_X11_named_2 (rec2 : Int32 → St → Option (Int32 × St)) (x1 : Int32) (s : St) : Option (Int32 × St) :=
  if (rI s 74 6) ≤ x1 then (
    some ((-1), s))
  else (
    bd (f_X11_isName s) fun r_11 s_11 =>
    if r_11 = 0 then (
      some ((-1), s_11))
    else (
      gi x1 12 <|
      if (lg_cmp (rL s_11 76 x1.toNatClampNeg) (rL s_11 74 5)) = 0 then (
        some (x1, s_11))
      else (
        let x1_33 : Int32 := x1 + 1
        rec2 x1_33 s_11)))
def l_X11_named_2  : Nat → Int32 → St → Option (Int32 × St)
  | 0 => fun _ _ => none
  | n + 1 => b_X11_named_2  (l_X11_named_2  n)
def f_X11_named  (s : St) : Option (Int32 × St) :=
  l_X11_named_2 FU 0 s
def j_X11_windowLine_121 (rec49 : Int32 → St → Option (Int32 × St)) (x1 : Int32) (x2 : Int32) (s : St) : Option (Int32 × St) :=
  gi x2 3 <|
  let s_131 : St := wI s 96 x2.toNatClampNeg ((rL s 74 5).toInt32)
  let x1_132 : Int32 := x1 + 1
  bd (f_X11_next s_131) fun _ s_136 =>
  rec49 x1_132 s_136
def b_X11_windowLine_80 (rec49 : Int32 → St → Option (Int32 × St)) (rec80 : Int32 → Int32 → St → Option (Int32 × St)) (x1 : Int32) (x2 : Int32) (s : St) : Option (Int32 × St) :=
  if x2 ≤ 0 then (
    j_X11_windowLine_121 rec49 x1 x2 s)
  else (
    gi (x2 - 1) 3 <|
    if (lg_cmp ((rI s 96 (x2 - 1).toNatClampNeg : Int32).toInt64) (rL s 74 5)) ≤ 0 then (
      j_X11_windowLine_121 rec49 x1 x2 s)
    else (
      gi (x2 - 1) 3 <|
      gi x2 3 <|
      let s_114 : St := wI s 96 x2.toNatClampNeg (rI s 96 (x2 - 1).toNatClampNeg)
      let x2_115 : Int32 := x2 + (-1)
      rec80 x1 x2_115 s_114))
def l_X11_windowLine_80 (rec49 : Int32 → St → Option (Int32 × St)) : Nat → Int32 → Int32 → St → Option (Int32 × St)
  | 0 => fun _ _ _ => none
  | n + 1 => b_X11_windowLine_80 rec49 (l_X11_windowLine_80 rec49 n)
def j_X11_windowLine_66 (rec49 : Int32 → St → Option (Int32 × St)) (x1 : Int32) (s : St) : Option (Int32 × St) :=
  bd (f_X11_isNumber 0 60 s) fun r_70 s_70 =>
  if r_70 = 0 then (
    some (0, s_70))
  else (
    l_X11_windowLine_80 rec49 FU x1 x1 s_70)
def j_X11_windowLine_207   (s : St) : Option (Int32 × St) :=
  let s_214 : St := wI s 74 13 ((rI s 74 13) + 1)
  bd (f_X11_closes s_214) fun r_218 s_218 =>
  gb r_218 <| some (r_218, s_218)
def j_X11_windowLine_142  (x1 : Int32) (s : St) : Option (Int32 × St) :=
  gi 0 3 <|
  gi (rI s 74 13) 12 <|
  let s_156 : St := wI s 82 (rI s 74 13).toNatClampNeg (rI s 96 (0 : Int32).toNatClampNeg)
  if x1 ≤ 1 then (
    j_X11_windowLine_207 s_156)
  else (
    bd (f_X11_word 7 s_156) fun r_165 s_165 =>
    if r_165 = 0 then (
      some (0, s_165))
    else (
      bd (f_X11_isNumber 1 x1 s_165) fun r_174 s_174 =>
      if r_174 = 0 then (
        some (0, s_174))
      else (
        gi (((rL s_174 74 5).toInt32) - 1) 3 <|
        gi (rI s_174 74 13) 12 <|
        let s_202 : St := wI s_174 82 (rI s_174 74 13).toNatClampNeg (rI s_174 96 (((rL s_174 74 5).toInt32) - 1).toNatClampNeg)
        bd (f_X11_next s_202) fun _ s_204 =>
        j_X11_windowLine_207 s_204)))
def b_X11_windowLine_49 (rec49 : Int32 → St → Option (Int32 × St)) (x1 : Int32) (s : St) : Option (Int32 × St) :=
  if x1 = 0 then (
    j_X11_windowLine_66 rec49 x1 s)
  else (
    if 3 ≤ x1 then (
      j_X11_windowLine_142 x1 s)
    else (
      if (rI s 74 3) = 2 then (
        j_X11_windowLine_66 rec49 x1 s)
      else (
        j_X11_windowLine_142 x1 s)))
def l_X11_windowLine_49  : Nat → Int32 → St → Option (Int32 × St)
  | 0 => fun _ _ => none
  | n + 1 => b_X11_windowLine_49  (l_X11_windowLine_49  n)
def f_X11_windowLine  (s : St) : Option (Int32 × St) :=
  if (rI s 74 13) = 12 then (
    some (0, s))
  else (
    bd (f_X11_next s) fun _ s_12 =>
    bd (f_X11_named s_12) fun r_24 s_24 =>
    gi (rI s_12 74 13) 12 <|
    let s_27 : St := wI s_24 81 (rI s_12 74 13).toNatClampNeg r_24
    gi (rI s_27 74 13) 12 <|
    if (rI s_27 81 (rI s_27 74 13).toNatClampNeg) = (-1) then (
      some (0, s_27))
    else (
      bd (f_X11_next s_27) fun _ s_44 =>
      l_X11_windowLine_49 FU 0 s_44))
def f_X11_arcLine  (s : St) : Option (Int32 × St) :=
  if (rI s 74 9) = 24 then (
    some (0, s))
  else (
    bd (f_X11_next s) fun _ s_12 =>
    bd (f_X11_named s_12) fun r_24 s_24 =>
    gi (rI s_12 74 9) 24 <|
    let s_27 : St := wI s_24 78 (rI s_12 74 9).toNatClampNeg r_24
    gi (rI s_27 74 9) 24 <|
    if (rI s_27 78 (rI s_27 74 9).toNatClampNeg) = (-1) then (
      some (0, s_27))
    else (
      bd (f_X11_next s_27) fun _ s_44 =>
      bd (f_X11_word 4 s_44) fun r_50 s_50 =>
      if r_50 = 0 then (
        some (0, s_50))
      else (
        bd (f_X11_named s_50) fun r_67 s_67 =>
        gi (rI s_50 74 9) 24 <|
        let s_70 : St := wI s_67 79 (rI s_50 74 9).toNatClampNeg r_67
        gi (rI s_70 74 9) 24 <|
        if (rI s_70 79 (rI s_70 74 9).toNatClampNeg) = (-1) then (
          some (0, s_70))
        else (
          bd (f_X11_next s_70) fun _ s_87 =>
          bd (f_X11_word 5 s_87) fun r_93 s_93 =>
          if r_93 = 0 then (
            some (0, s_93))
          else (
            bd (f_X11_isNumber 0 60 s_93) fun r_103 s_103 =>
            if r_103 = 0 then (
              some (0, s_103))
            else (
              gi (rI s_103 74 9) 24 <|
              let s_124 : St := wI s_103 80 (rI s_103 74 9).toNatClampNeg ((rL s_103 74 5).toInt32)
              let s_132 : St := wI s_124 74 9 ((rI s_124 74 9) + 1)
              bd (f_X11_next s_132) fun _ s_136 =>
              bd (f_X11_closes s_136) fun r_140 s_140 =>
              gb r_140 <| some (r_140, s_140)))))))
def j_X11_pointLine_84   (s : St) : Option (Int32 × St) :=
  let s_91 : St := wI s 74 6 ((rI s 74 6) + 1)
  bd (f_X11_next s_91) fun _ s_95 =>
  bd (f_X11_closes s_95) fun r_99 s_99 =>
  gb r_99 <| some (r_99, s_99)
def f_X11_pointLine  (s : St) : Option (Int32 × St) :=
  if (rI s 74 6) = 12 then (
    some (0, s))
  else (
    bd (f_X11_next s) fun _ s_12 =>
    bd (f_X11_isName s_12) fun r_16 s_16 =>
    if r_16 = 0 then (
      some (0, s_16))
    else (
      bd (f_X11_named s_16) fun r_23 s_23 =>
      if r_23 = (-1) then (
        gi (rI s_23 74 6) 12 <|
        let s_44 : St := wL s_23 76 (rI s_23 74 6).toNatClampNeg (rL s_23 74 5)
        bd (f_X11_next s_44) fun _ s_46 =>
        bd (f_X11_isWord 2 s_46) fun r_60 s_60 =>
        gi (rI s_46 74 6) 12 <|
        let s_63 : St := wI s_60 77 (rI s_46 74 6).toNatClampNeg (vp_nar .boolean r_60)
        bd (f_X11_isWord 1 s_63) fun r_67 s_67 =>
        if r_67 = 0 then (
          bd (f_X11_isWord 2 s_67) fun r_76 s_76 =>
          if r_76 = 0 then (
            some (0, s_76))
          else (
            j_X11_pointLine_84 s_76))
        else (
          j_X11_pointLine_84 s_67))
      else (
        some (0, s_23))))
def f_X11_line  (s : St) : Option (Int32 × St) :=
  bd (f_X11_isWord 0 s) fun r_3 s_3 =>
  if r_3 = 0 then (
    bd (f_X11_isWord 3 s_3) fun r_17 s_17 =>
    if r_17 = 0 then (
      bd (f_X11_isWord 6 s_17) fun r_31 s_31 =>
      if r_31 = 0 then (
        bd (f_X11_isWord 8 s_31) fun r_45 s_45 =>
        if r_45 = 0 then (
          some (0, s_45))
        else (
          bd (f_X11_ruleLine s_45) fun r_52 s_52 =>
          if r_52 = 0 then (
            some (0, s_52))
          else (
            some (1, s_52))))
      else (
        bd (f_X11_windowLine s_31) fun r_38 s_38 =>
        gb r_38 <| some (r_38, s_38)))
    else (
      bd (f_X11_arcLine s_17) fun r_24 s_24 =>
      gb r_24 <| some (r_24, s_24)))
  else (
    bd (f_X11_pointLine s_3) fun r_10 s_10 =>
    gb r_10 <| some (r_10, s_10))
def b_X11_fault_29 (rec29 : St → Option (Int32 × St))  (s : St) : Option (Int32 × St) :=
  if (rI s 74 3) = 0 then (
    if (rI s 74 6) = 0 then (
      some (rI s 74 4, s))
    else (
      some ((-1), s)))
  else (
    bd (f_X11_line s) fun r_37 s_37 =>
    if r_37 = 0 then (
      some (rI s_37 74 4, s_37))
    else (
      rec29 s_37))
def l_X11_fault_29  : Nat → St → Option (Int32 × St)
  | 0 => fun _ => none
  | n + 1 => b_X11_fault_29  (l_X11_fault_29  n)
def f_X11_fault  (s : St) : Option (Int32 × St) :=
  let s_2 : St := wI s 74 6 0
  let s_7 : St := wI s_2 74 9 0
  let s_12 : St := wI s_7 74 13 0
  let s_17 : St := wI s_12 74 16 0
  let s_22 : St := wI s_17 74 2 0
  bd (f_X11_next s_22) fun _ s_26 =>
  l_X11_fault_29 FU s_26
def f_X3_clear_p  (s : St) : Option (Unit × St) :=
  let s_2 : St := wI s 8 0 0
  let s_7 : St := wI s_2 8 1 0
  let s_12 : St := wI s_7 8 2 0
  let s_17 : St := wI s_12 8 3 0
  some ((), s_17)
def f_X3_addRule_p (x1 : Int32) (x2 : Int32) (x3 : Int32) (s : St) : Option (Unit × St) :=
  if 8 ≤ (rI s 8 3) then (
    some ((), s))
  else (
    gi (rI s 8 3) 8 <|
    let s_18 : St := wI s 15 (rI s 8 3).toNatClampNeg x1
    gi (rI s_18 8 3) 8 <|
    let s_28 : St := wI s_18 16 (rI s_18 8 3).toNatClampNeg x2
    gi (rI s_28 8 3) 8 <|
    let s_38 : St := wI s_28 17 (rI s_28 8 3).toNatClampNeg x3
    let s_46 : St := wI s_38 8 3 ((rI s_38 8 3) + 1)
    some ((), s_46))
def f_X3_addWindow_p (x1 : Int32) (x2 : Int32) (s : St) : Option (Unit × St) :=
  if 12 ≤ (rI s 8 2) then (
    some ((), s))
  else (
    gi (rI s 8 2) 12 <|
    let s_18 : St := wI s 13 (rI s 8 2).toNatClampNeg x1
    gi (rI s_18 8 2) 12 <|
    let s_28 : St := wI s_18 14 (rI s_18 8 2).toNatClampNeg x2
    let s_36 : St := wI s_28 8 2 ((rI s_28 8 2) + 1)
    some ((), s_36))
def f_X3_addArc_p (x1 : Int32) (x2 : Int32) (x3 : Int32) (s : St) : Option (Unit × St) :=
  if 24 ≤ (rI s 8 1) then (
    some ((), s))
  else (
    gi (rI s 8 1) 24 <|
    let s_18 : St := wI s 10 (rI s 8 1).toNatClampNeg x1
    gi (rI s_18 8 1) 24 <|
    let s_28 : St := wI s_18 11 (rI s_18 8 1).toNatClampNeg x2
    gi (rI s_28 8 1) 24 <|
    let s_38 : St := wI s_28 12 (rI s_28 8 1).toNatClampNeg x3
    let s_46 : St := wI s_38 8 1 ((rI s_38 8 1) + 1)
    some ((), s_46))
def f_X3_addPoint_p (x1 : Int32) (s : St) : Option (Unit × St) :=
  if 12 ≤ (rI s 8 0) then (
    some ((), s))
  else (
    gi (rI s 8 0) 12 <|
    let s_18 : St := wI s 9 (rI s 8 0).toNatClampNeg (vp_nar .boolean x1)
    let s_26 : St := wI s_18 8 0 ((rI s_18 8 0) + 1)
    some ((), s_26))
def b_X3_copyFrom_p_d_102 (rec102 : Int32 → St → Option (Unit × St)) (x2 : Int32) (s : St) : Option (Unit × St) :=
  if (rI s 18 3) ≤ x2 then (
    some ((), s))
  else (
    gi x2 8 <|
    gi x2 8 <|
    gi x2 8 <|
    bd (f_X3_addRule_p (rI s 25 x2.toNatClampNeg) (rI s 26 x2.toNatClampNeg) (rI s 27 x2.toNatClampNeg) s) fun _ s_129 =>
    let x2_132 : Int32 := x2 + 1
    rec102 x2_132 s_129)
def l_X3_copyFrom_p_d_102  : Nat → Int32 → St → Option (Unit × St)
  | 0 => fun _ _ => none
  | n + 1 => b_X3_copyFrom_p_d_102  (l_X3_copyFrom_p_d_102  n)
def b_X3_copyFrom_p_d_70 (rec70 : Int32 → St → Option (Unit × St)) (x2 : Int32) (s : St) : Option (Unit × St) :=
  if (rI s 18 2) ≤ x2 then (
    l_X3_copyFrom_p_d_102 FU 0 s)
  else (
    gi x2 12 <|
    gi x2 12 <|
    bd (f_X3_addWindow_p (rI s 23 x2.toNatClampNeg) (rI s 24 x2.toNatClampNeg) s) fun _ s_91 =>
    let x2_94 : Int32 := x2 + 1
    rec70 x2_94 s_91)
def l_X3_copyFrom_p_d_70  : Nat → Int32 → St → Option (Unit × St)
  | 0 => fun _ _ => none
  | n + 1 => b_X3_copyFrom_p_d_70  (l_X3_copyFrom_p_d_70  n)
def b_X3_copyFrom_p_d_32 (rec32 : Int32 → St → Option (Unit × St)) (x2 : Int32) (s : St) : Option (Unit × St) :=
  if (rI s 18 1) ≤ x2 then (
    l_X3_copyFrom_p_d_70 FU 0 s)
  else (
    gi x2 24 <|
    gi x2 24 <|
    gi x2 24 <|
    bd (f_X3_addArc_p (rI s 20 x2.toNatClampNeg) (rI s 21 x2.toNatClampNeg) (rI s 22 x2.toNatClampNeg) s) fun _ s_59 =>
    let x2_62 : Int32 := x2 + 1
    rec32 x2_62 s_59)
def l_X3_copyFrom_p_d_32  : Nat → Int32 → St → Option (Unit × St)
  | 0 => fun _ _ => none
  | n + 1 => b_X3_copyFrom_p_d_32  (l_X3_copyFrom_p_d_32  n)
def b_X3_copyFrom_p_d_6 (rec6 : Int32 → St → Option (Unit × St)) (x2 : Int32) (s : St) : Option (Unit × St) :=
  if (rI s 18 0) ≤ x2 then (
    l_X3_copyFrom_p_d_32 FU 0 s)
  else (
    gi x2 12 <|
    bd (f_X3_addPoint_p (rI s 19 x2.toNatClampNeg) s) fun _ s_21 =>
    let x2_24 : Int32 := x2 + 1
    rec6 x2_24 s_21)
def l_X3_copyFrom_p_d_6  : Nat → Int32 → St → Option (Unit × St)
  | 0 => fun _ _ => none
  | n + 1 => b_X3_copyFrom_p_d_6  (l_X3_copyFrom_p_d_6  n)
def f_X3_copyFrom_p_d  (s : St) : Option (Unit × St) :=
  bd (f_X3_clear_p s) fun _ s_1 =>
  l_X3_copyFrom_p_d_6 FU 0 s_1
def b_J7_fill_53178_33_5 (rec5 : Int32 → Int32 → Int32 → St → Option (Unit × St)) (x1 : Int32) (x2 : Int32) (x3 : Int32) (s : St) : Option (Unit × St) :=
  if x3 ≤ x2 then (
    some ((), s))
  else (
    gi x2 12 <|
    let s_13 : St := wI s 33 x2.toNatClampNeg x1
    let x2_14 : Int32 := x2 + 1
    rec5 x1 x2_14 x3 s_13)
def l_J7_fill_53178_33_5  : Nat → Int32 → Int32 → Int32 → St → Option (Unit × St)
  | 0 => fun _ _ _ _ => none
  | n + 1 => b_J7_fill_53178_33_5  (l_J7_fill_53178_33_5  n)
def f_J7_fill_53178_33 (x1 : Int32) (s : St) : Option (Unit × St) :=
  l_J7_fill_53178_33_5 FU x1 0 12 s
def f_X2_reset  (s : St) : Option (Unit × St) :=
  bd (f_J7_fill_53178_33 0 s) fun _ s_5 =>
  let s_10 : St := wI s_5 32 4 0
  some ((), s_10)
def b_X0_reset_2 (rec2 : Int32 → St → Option (Unit × St)) (x1 : Int32) (s : St) : Option (Unit × St) :=
  if 12 ≤ x1 then (
    some ((), s))
  else (
    gi x1 12 <|
    let s_14 : St := wI s 46 x1.toNatClampNeg x1
    let x1_15 : Int32 := x1 + 1
    rec2 x1_15 s_14)
def l_X0_reset_2  : Nat → Int32 → St → Option (Unit × St)
  | 0 => fun _ _ => none
  | n + 1 => b_X0_reset_2  (l_X0_reset_2  n)
def f_X0_reset  (s : St) : Option (Unit × St) :=
  l_X0_reset_2 FU 0 s
def f_X10_plant  (s : St) : Option (Int32 × St) :=
  bd (f_X4_read_d s) fun r_8 s_8 =>
  if r_8 = (-1) then (
    bd (f_X3_copyFrom_p_d s_8) fun _ s_25 =>
    bd (f_X2_reset s_25) fun _ s_32 =>
    bd (f_X0_reset s_32) fun _ s_39 =>
    let s_47 : St := wI s_39 35 2 0
    let s_55 : St := wI s_47 1 1 0
    some (rI s_55 8 0, s_55))
  else (
    some ((-1), s_8))
def b_X11_plant_198 (rec198 : Int32 → St → Option (Int32 × St)) (x1 : Int32) (s : St) : Option (Int32 × St) :=
  if 8 ≤ x1 then (
    let s_219 : St := wI s 74 32 0
    let s_224 : St := wI s_219 74 1 0
    some (rI s_224 74 18, s_224))
  else (
    gi x1 8 <|
    let s_210 : St := wI s 93 x1.toNatClampNeg (vp_nar .boolean 0)
    let x1_211 : Int32 := x1 + 1
    rec198 x1_211 s_210)
def l_X11_plant_198  : Nat → Int32 → St → Option (Int32 × St)
  | 0 => fun _ _ => none
  | n + 1 => b_X11_plant_198  (l_X11_plant_198  n)
def b_X11_plant_172 (rec172 : Int32 → St → Option (Int32 × St)) (x1 : Int32) (s : St) : Option (Int32 × St) :=
  if 24 ≤ x1 then (
    l_X11_plant_198 FU 0 s)
  else (
    gi x1 24 <|
    gi x1 24 <|
    let s_189 : St := wI s 92 x1.toNatClampNeg (rI s 83 x1.toNatClampNeg)
    let x1_190 : Int32 := x1 + 1
    rec172 x1_190 s_189)
def l_X11_plant_172  : Nat → Int32 → St → Option (Int32 × St)
  | 0 => fun _ _ => none
  | n + 1 => b_X11_plant_172  (l_X11_plant_172  n)
def b_X11_plant_120 (rec120 : Int32 → St → Option (Int32 × St)) (x1 : Int32) (s : St) : Option (Int32 × St) :=
  if 12 ≤ x1 then (
    l_X11_plant_172 FU 0 s)
  else (
    gi x1 12 <|
    gi x1 12 <|
    let s_137 : St := wI s 88 x1.toNatClampNeg (rI s 81 x1.toNatClampNeg)
    gi x1 12 <|
    gi x1 12 <|
    let s_149 : St := wI s_137 89 x1.toNatClampNeg (rI s_137 82 x1.toNatClampNeg)
    gi x1 12 <|
    let s_156 : St := wI s_149 90 x1.toNatClampNeg 0
    gi x1 12 <|
    let s_163 : St := wI s_156 91 x1.toNatClampNeg x1
    let x1_164 : Int32 := x1 + 1
    rec120 x1_164 s_163)
def l_X11_plant_120  : Nat → Int32 → St → Option (Int32 × St)
  | 0 => fun _ _ => none
  | n + 1 => b_X11_plant_120  (l_X11_plant_120  n)
def b_X11_plant_70 (rec70 : Int32 → St → Option (Int32 × St)) (x1 : Int32) (s : St) : Option (Int32 × St) :=
  if 24 ≤ x1 then (
    l_X11_plant_120 FU 0 s)
  else (
    gi x1 24 <|
    gi x1 24 <|
    let s_87 : St := wI s 85 x1.toNatClampNeg (rI s 78 x1.toNatClampNeg)
    gi x1 24 <|
    gi x1 24 <|
    let s_99 : St := wI s_87 86 x1.toNatClampNeg (rI s_87 79 x1.toNatClampNeg)
    gi x1 24 <|
    gi x1 24 <|
    let s_111 : St := wI s_99 87 x1.toNatClampNeg (rI s_99 80 x1.toNatClampNeg)
    let x1_112 : Int32 := x1 + 1
    rec70 x1_112 s_111)
def l_X11_plant_70  : Nat → Int32 → St → Option (Int32 × St)
  | 0 => fun _ _ => none
  | n + 1 => b_X11_plant_70  (l_X11_plant_70  n)
def b_X11_plant_44 (rec44 : Int32 → St → Option (Int32 × St)) (x1 : Int32) (s : St) : Option (Int32 × St) :=
  if 12 ≤ x1 then (
    l_X11_plant_70 FU 0 s)
  else (
    gi x1 12 <|
    gi x1 12 <|
    let s_61 : St := wI s 84 x1.toNatClampNeg (vp_nar .boolean (rI s 77 x1.toNatClampNeg))
    let x1_62 : Int32 := x1 + 1
    rec44 x1_62 s_61)
def l_X11_plant_44  : Nat → Int32 → St → Option (Int32 × St)
  | 0 => fun _ _ => none
  | n + 1 => b_X11_plant_44  (l_X11_plant_44  n)
def f_X11_plant  (s : St) : Option (Int32 × St) :=
  bd (f_X11_fault s) fun r_1 s_1 =>
  if r_1 = (-1) then (
    let s_15 : St := wI s_1 74 18 (rI s_1 74 6)
    let s_23 : St := wI s_15 74 20 (rI s_15 74 9)
    let s_31 : St := wI s_23 74 24 (rI s_23 74 13)
    let s_39 : St := wI s_31 74 29 (rI s_31 74 16)
    l_X11_plant_44 FU 0 s_39)
  else (
    some ((-1), s_1))
def f_X10_isWindow (x1 : Int32) (s : St) : Option (Int32 × St) :=
  if x1 < 0 then (
    some (0, s))
  else (
    if (rI s 8 2) ≤ x1 then (
      some (0, s))
    else (
      some (1, s)))
def f_X10_stick (x1 : Int32) (x2 : Int32) (s : St) : Option (Int32 × St) :=
  bd (f_X10_isWindow x1 s) fun r_2 s_2 =>
  if r_2 = 0 then (
    some (0, s_2))
  else (
    if x2 < 0 then (
      some (0, s_2))
    else (
      if x2 ≤ 2 then (
        gi x1 12 <|
        let s_28 : St := wI s_2 33 x1.toNatClampNeg x2
        some (1, s_28))
      else (
        some (0, s_2))))
def f_X11_isWindow (x1 : Int32) (s : St) : Option (Int32 × St) :=
  bd (f_X11_in x1 0 ((rI s 74 24) - 1) s) fun r_8 s_8 =>
  gb r_8 <| some (r_8, s_8)
def f_X11_stick (x1 : Int32) (x2 : Int32) (s : St) : Option (Int32 × St) :=
  bd (f_X11_isWindow x1 s) fun r_2 s_2 =>
  if r_2 = 0 then (
    some (0, s_2))
  else (
    bd (f_X11_in x2 0 2 s_2) fun r_11 s_11 =>
    if r_11 = 0 then (
      some (0, s_11))
    else (
      gi x1 12 <|
      let s_25 : St := wI s_11 90 x1.toNatClampNeg x2
      some (1, s_25)))
def b_X0_placeOf_2 (rec2 : Int32 → Int32 → St → Option (Int32 × St)) (x1 : Int32) (x2 : Int32) (s : St) : Option (Int32 × St) :=
  if (rI s 8 2) ≤ x2 then (
    some ((-1), s))
  else (
    gi x2 12 <|
    if (rI s 46 x2.toNatClampNeg) = x1 then (
      some (x2, s))
    else (
      let x2_25 : Int32 := x2 + 1
      rec2 x1 x2_25 s))
def l_X0_placeOf_2  : Nat → Int32 → Int32 → St → Option (Int32 × St)
  | 0 => fun _ _ _ => none
  | n + 1 => b_X0_placeOf_2  (l_X0_placeOf_2  n)
def f_X0_placeOf (x1 : Int32) (s : St) : Option (Int32 × St) :=
  l_X0_placeOf_2 FU x1 0 s
def f_X10_window (x1 : Int32) (x2 : Int32) (s : St) : Option (Int32 × St) :=
  bd (f_X10_isWindow x1 s) fun r_2 s_2 =>
  if r_2 = 0 then (
    some ((-1), s_2))
  else (
    if x2 = 0 then (
      gi x1 12 <|
      some (rI s_2 13 x1.toNatClampNeg, s_2))
    else
    if x2 = 1 then (
      gi x1 12 <|
      some (rI s_2 14 x1.toNatClampNeg, s_2))
    else
    if x2 = 2 then (
      gi x1 12 <|
      some (rI s_2 33 x1.toNatClampNeg, s_2))
    else
    if x2 = 3 then (
      bd (f_X0_placeOf x1 s_2) fun r_75 s_75 =>
      some (r_75, s_75))
    else
    (
      some ((-1), s_2)))
def f_X11_window (x1 : Int32) (x2 : Int32) (s : St) : Option (Int32 × St) :=
  bd (f_X11_isWindow x1 s) fun r_2 s_2 =>
  if r_2 = 0 then (
    some ((-1), s_2))
  else (
    if x2 = 0 then (
      gi x1 12 <|
      some (rI s_2 88 x1.toNatClampNeg, s_2))
    else (
      if x2 = 1 then (
        gi x1 12 <|
        some (rI s_2 89 x1.toNatClampNeg, s_2))
      else (
        if x2 = 2 then (
          gi x1 12 <|
          some (rI s_2 90 x1.toNatClampNeg, s_2))
        else (
          if x2 = 3 then (
            gi x1 12 <|
            some (rI s_2 91 x1.toNatClampNeg, s_2))
          else (
            some ((-1), s_2))))))
def f_X10_hasPlant  (s : St) : Option (Int32 × St) :=
  if (rI s 8 0) ≤ 0 then (
    some (0, s))
  else (
    some (1, s))
def f_X10_isHeap (x1 : Int32) (s : St) : Option (Int32 × St) :=
  bd (f_X10_hasPlant s) fun r_1 s_1 =>
  if r_1 = 0 then (
    some (0, s_1))
  else (
    if x1 < 0 then (
      some (0, s_1))
    else (
      if ((1 : Int32) <<< ((rI s_1 8 0) &&& 31)) ≤ x1 then (
        some (0, s_1))
      else (
        some (1, s_1))))
def f_X10_isPoint (x1 : Int32) (s : St) : Option (Int32 × St) :=
  if x1 < 0 then (
    some (0, s))
  else (
    if (rI s 8 0) ≤ x1 then (
      some (0, s))
    else (
      some (1, s)))
def b_J7_fill_53178_30_5 (rec5 : Int32 → Int32 → Int32 → St → Option (Unit × St)) (x1 : Int32) (x2 : Int32) (x3 : Int32) (s : St) : Option (Unit × St) :=
  if x3 ≤ x2 then (
    some ((), s))
  else (
    gi x2 12 <|
    let s_13 : St := wI s 30 x2.toNatClampNeg x1
    let x2_14 : Int32 := x2 + 1
    rec5 x1 x2_14 x3 s_13)
def l_J7_fill_53178_30_5  : Nat → Int32 → Int32 → Int32 → St → Option (Unit × St)
  | 0 => fun _ _ _ _ => none
  | n + 1 => b_J7_fill_53178_30_5  (l_J7_fill_53178_30_5  n)
def f_J7_fill_53178_30 (x1 : Int32) (s : St) : Option (Unit × St) :=
  l_J7_fill_53178_30_5 FU x1 0 12 s
def b_J7_fill_53178_31_5 (rec5 : Int32 → Int32 → Int32 → St → Option (Unit × St)) (x1 : Int32) (x2 : Int32) (x3 : Int32) (s : St) : Option (Unit × St) :=
  if x3 ≤ x2 then (
    some ((), s))
  else (
    gi x2 12 <|
    let s_13 : St := wI s 31 x2.toNatClampNeg x1
    let x2_14 : Int32 := x2 + 1
    rec5 x1 x2_14 x3 s_13)
def l_J7_fill_53178_31_5  : Nat → Int32 → Int32 → Int32 → St → Option (Unit × St)
  | 0 => fun _ _ _ _ => none
  | n + 1 => b_J7_fill_53178_31_5  (l_J7_fill_53178_31_5  n)
def f_J7_fill_53178_31 (x1 : Int32) (s : St) : Option (Unit × St) :=
  l_J7_fill_53178_31_5 FU x1 0 12 s
def b_X7_gather_19 (rec19 : Int32 → St → Option (Unit × St)) (x1 : Int32) (s : St) : Option (Unit × St) :=
  if (rI s 8 1) ≤ x1 then (
    some ((), s))
  else (
    gi x1 24 <|
    let x2_39 : Int32 := rI s 11 x1.toNatClampNeg
    gi x1 24 <|
    gi (rI s 10 x1.toNatClampNeg) 12 <|
    gi x1 24 <|
    let x3_69 : Int32 := jmin ((rI s 29 (rI s 10 x1.toNatClampNeg).toNatClampNeg) + (rI s 12 x1.toNatClampNeg)) 1000000
    gi x2_39 12 <|
    gi x2_39 12 <|
    let s_85 : St := wI s 30 x2_39.toNatClampNeg (jmin (rI s 30 x2_39.toNatClampNeg) x3_69)
    gi x2_39 12 <|
    gi x2_39 12 <|
    let s_101 : St := wI s_85 31 x2_39.toNatClampNeg (jmax (rI s_85 31 x2_39.toNatClampNeg) x3_69)
    let x1_102 : Int32 := x1 + 1
    rec19 x1_102 s_101)
def l_X7_gather_19  : Nat → Int32 → St → Option (Unit × St)
  | 0 => fun _ _ => none
  | n + 1 => b_X7_gather_19  (l_X7_gather_19  n)
def f_X7_gather  (s : St) : Option (Unit × St) :=
  bd (f_J7_fill_53178_30 1000000 s) fun _ s_6 =>
  bd (f_J7_fill_53178_31 (-1) s_6) fun _ s_14 =>
  l_X7_gather_19 FU 0 s_14
def j_X7_settle_62 (rec4 : Int32 → Int32 → St → Option (Int32 × St)) (x1 : Int32) (x2 : Int32) (t0 : Int32) (s : St) : Option (Int32 × St) :=
  gi x2 12 <|
  if (rI s 29 x2.toNatClampNeg) ≤ t0 then (
    let x2_85 : Int32 := x2 + 1
    rec4 x1 x2_85 s)
  else (
    gi x2 12 <|
    let s_82 : St := wI s 29 x2.toNatClampNeg t0
    let x2_85 : Int32 := x2 + 1
    rec4 1 x2_85 s_82)
def j_X7_settle_42 (rec4 : Int32 → Int32 → St → Option (Int32 × St)) (x1 : Int32) (x2 : Int32) (t0 : Int32) (s : St) : Option (Int32 × St) :=
  if t0 = 0 then (
    gi x2 12 <|
    j_X7_settle_62 rec4 x1 x2 (rI s 30 x2.toNatClampNeg) s)
  else (
    gi x2 12 <|
    j_X7_settle_62 rec4 x1 x2 (rI s 31 x2.toNatClampNeg) s)
def b_X7_settle_4 (rec4 : Int32 → Int32 → St → Option (Int32 × St)) (x1 : Int32) (x2 : Int32) (s : St) : Option (Int32 × St) :=
  if (rI s 8 0) ≤ x2 then (
    gb x1 <| some (x1, s))
  else (
    gi x2 12 <|
    if (rI s 9 x2.toNatClampNeg) = 0 then (
      j_X7_settle_42 rec4 x1 x2 0 s)
    else (
      gi x2 12 <|
      if (rI s 31 x2.toNatClampNeg) = (-1) then (
        j_X7_settle_42 rec4 x1 x2 0 s)
      else (
        j_X7_settle_42 rec4 x1 x2 1 s)))
def l_X7_settle_4  : Nat → Int32 → Int32 → St → Option (Int32 × St)
  | 0 => fun _ _ _ => none
  | n + 1 => b_X7_settle_4  (l_X7_settle_4  n)
def f_X7_settle  (s : St) : Option (Int32 × St) :=
  l_X7_settle_4 FU 0 0 s
def f_X10_hasBit (x0 : Int32) (x1 : Int32) (s : St) : Option (Int32 × St) :=
  if ((x0 >>> (x1 &&& 31)) &&& 1) = 0 then (
    some (0, s))
  else (
    some (1, s))
def b_X7_run_43 (rec43 : Int32 → Int32 → St → Option (Unit × St)) (x2 : Int32) (x3 : Int32) (s : St) : Option (Unit × St) :=
  if (rI s 8 0) < x3 then (
    some ((), s))
  else (
    if x2 = 0 then (
      some ((), s))
    else (
      bd (f_X7_gather s) fun _ s_59 =>
      bd (f_X7_settle s_59) fun r_63 s_63 =>
      let x3_67 : Int32 := x3 + 1
      rec43 r_63 x3_67 s_63))
def l_X7_run_43  : Nat → Int32 → Int32 → St → Option (Unit × St)
  | 0 => fun _ _ _ => none
  | n + 1 => b_X7_run_43  (l_X7_run_43  n)
def b_X7_run_2 (rec2 : Int32 → Int32 → St → Option (Unit × St)) (x1 : Int32) (x2 : Int32) (s : St) : Option (Unit × St) :=
  if (rI s 8 0) ≤ x2 then (
    l_X7_run_43 FU 1 0 s)
  else (
    bd (f_X10_hasBit x1 x2 s) fun r_20 s_20 =>
    if r_20 = 0 then (
      gi x2 12 <|
      let s_32 : St := wI s_20 29 x2.toNatClampNeg 1000000
      let x2_33 : Int32 := x2 + 1
      rec2 x1 x2_33 s_32)
    else (
      gi x2 12 <|
      let s_32 : St := wI s_20 29 x2.toNatClampNeg 0
      let x2_33 : Int32 := x2 + 1
      rec2 x1 x2_33 s_32))
def l_X7_run_2  : Nat → Int32 → Int32 → St → Option (Unit × St)
  | 0 => fun _ _ _ => none
  | n + 1 => b_X7_run_2  (l_X7_run_2  n)
def f_X7_run (x1 : Int32) (s : St) : Option (Unit × St) :=
  l_X7_run_2 FU x1 0 s
def f_X10_orNone (x0 : Int32) (s : St) : Option (Int32 × St) :=
  if x0 < 1000000 then (
    some (x0, s))
  else (
    some ((-1), s))
def f_X10_fails (x1 : Int32) (x2 : Int32) (s : St) : Option (Int32 × St) :=
  bd (f_X10_isHeap x1 s) fun r_2 s_2 =>
  if r_2 = 0 then (
    some ((-1), s_2))
  else (
    bd (f_X10_isPoint x2 s_2) fun r_10 s_10 =>
    if r_10 = 0 then (
      some ((-1), s_10))
    else (
      bd (f_X7_run x1 s_10) fun _ s_23 =>
      gi x2 12 <|
      bd (f_X10_orNone (rI s_23 29 x2.toNatClampNeg) s_23) fun r_35 s_35 =>
      some (r_35, s_35)))
def f_X11_isHeap (x1 : Int32) (s : St) : Option (Int32 × St) :=
  if (rI s 74 18) ≤ 0 then (
    some (0, s))
  else (
    bd (f_X11_in x1 0 (((1 : Int32) <<< ((rI s 74 18) &&& 31)) - 1) s) fun r_17 s_17 =>
    if r_17 = 0 then (
      some (0, s_17))
    else (
      some (1, s_17)))
def f_X11_isPoint (x1 : Int32) (s : St) : Option (Int32 × St) :=
  bd (f_X11_in x1 0 ((rI s 74 18) - 1) s) fun r_8 s_8 =>
  gb r_8 <| some (r_8, s_8)
def j_X11_wouldFail_93 (rec11 : Int32 → Int32 → Int32 → Int32 → Int32 → St → Option (Int32 × St)) (x1 : Int32) (x2 : Int32) (x4 : Int32) (x5 : Int32) (x6 : Int32) (t0 : Int32) (s : St) : Option (Int32 × St) :=
  if x6 ≤ x4 then (
    let x5_110 : Int32 := x5 + 1
    rec11 x1 x2 t0 x4 x5_110 s)
  else (
    let x5_110 : Int32 := x5 + 1
    rec11 x1 x2 t0 x6 x5_110 s)
def b_X11_wouldFail_11 (rec11 : Int32 → Int32 → Int32 → Int32 → Int32 → St → Option (Int32 × St)) (x1 : Int32) (x2 : Int32) (x3 : Int32) (x4 : Int32) (x5 : Int32) (s : St) : Option (Int32 × St) :=
  if (rI s 74 20) ≤ x5 then (
    if x2 = 0 then (
      some (1000000, s))
    else (
      gi x1 12 <|
      if (rI s 84 x1.toNatClampNeg) = 0 then (
        some (x3, s))
      else (
        some (x4, s))))
  else (
    gi x5 24 <|
    if (rI s 86 x5.toNatClampNeg) = x1 then (
      let x2_34 : Int32 := x2 + 1
      gi x5 24 <|
      gi (rI s 85 x5.toNatClampNeg) 12 <|
      if (rI s 97 (rI s 85 x5.toNatClampNeg).toNatClampNeg) = 1000000 then (
        if x3 ≤ 1000000 then (
          j_X11_wouldFail_93 rec11 x1 x2_34 x4 x5 1000000 x3 s)
        else (
          j_X11_wouldFail_93 rec11 x1 x2_34 x4 x5 1000000 1000000 s))
      else (
        gi x5 24 <|
        gi (rI s 85 x5.toNatClampNeg) 12 <|
        gi x5 24 <|
        let x6_79 : Int32 := (rI s 97 (rI s 85 x5.toNatClampNeg).toNatClampNeg) + (rI s 87 x5.toNatClampNeg)
        if x3 ≤ x6_79 then (
          j_X11_wouldFail_93 rec11 x1 x2_34 x4 x5 x6_79 x3 s)
        else (
          j_X11_wouldFail_93 rec11 x1 x2_34 x4 x5 x6_79 x6_79 s)))
    else (
      let x5_110 : Int32 := x5 + 1
      rec11 x1 x2 x3 x4 x5_110 s))
def l_X11_wouldFail_11  : Nat → Int32 → Int32 → Int32 → Int32 → Int32 → St → Option (Int32 × St)
  | 0 => fun _ _ _ _ _ _ => none
  | n + 1 => b_X11_wouldFail_11  (l_X11_wouldFail_11  n)
def f_X11_wouldFail (x1 : Int32) (s : St) : Option (Int32 × St) :=
  l_X11_wouldFail_11 FU x1 0 1000000 0 0 s
def b_X11_findFails_52 (rec39 : Int32 → St → Option (Unit × St)) (rec52 : Int32 → Int32 → Int32 → St → Option (Unit × St)) (x2 : Int32) (x3 : Int32) (x4 : Int32) (s : St) : Option (Unit × St) :=
  if (rI s 74 18) ≤ x4 then (
    if x2 = (-1) then (
      rec39 x2 s)
    else (
      gi x2 12 <|
      let s_113 : St := wI s 97 x2.toNatClampNeg x3
      rec39 x2 s_113))
  else (
    gi x4 12 <|
    if (rI s 97 x4.toNatClampNeg) = 1000000 then (
      bd (f_X11_wouldFail x4 s) fun r_76 s_76 =>
      if r_76 < x3 then (
        bd (f_X11_wouldFail x4 s_76) fun r_89 s_89 =>
        let x4_96 : Int32 := x4 + 1
        rec52 x4 r_89 x4_96 s_89)
      else (
        let x4_96 : Int32 := x4 + 1
        rec52 x2 x3 x4_96 s_76))
    else (
      let x4_96 : Int32 := x4 + 1
      rec52 x2 x3 x4_96 s))
def l_X11_findFails_52 (rec39 : Int32 → St → Option (Unit × St)) : Nat → Int32 → Int32 → Int32 → St → Option (Unit × St)
  | 0 => fun _ _ _ _ => none
  | n + 1 => b_X11_findFails_52 rec39 (l_X11_findFails_52 rec39 n)
def b_X11_findFails_39 (rec39 : Int32 → St → Option (Unit × St)) (x2 : Int32) (s : St) : Option (Unit × St) :=
  if x2 = (-1) then (
    some ((), s))
  else (
    l_X11_findFails_52 rec39 FU (-1) 1000000 0 s)
def l_X11_findFails_39  : Nat → Int32 → St → Option (Unit × St)
  | 0 => fun _ _ => none
  | n + 1 => b_X11_findFails_39  (l_X11_findFails_39  n)
def b_X11_findFails_2 (rec2 : Int32 → Int32 → St → Option (Unit × St)) (x1 : Int32) (x2 : Int32) (s : St) : Option (Unit × St) :=
  if (rI s 74 18) ≤ x2 then (
    l_X11_findFails_39 FU 0 s)
  else (
    if ((x1 >>> (x2 &&& 31)) &&& 1) = 1 then (
      gi x2 12 <|
      let s_30 : St := wI s 97 x2.toNatClampNeg 0
      let x2_31 : Int32 := x2 + 1
      rec2 x1 x2_31 s_30)
    else (
      gi x2 12 <|
      let s_30 : St := wI s 97 x2.toNatClampNeg 1000000
      let x2_31 : Int32 := x2 + 1
      rec2 x1 x2_31 s_30))
def l_X11_findFails_2  : Nat → Int32 → Int32 → St → Option (Unit × St)
  | 0 => fun _ _ _ => none
  | n + 1 => b_X11_findFails_2  (l_X11_findFails_2  n)
def f_X11_findFails (x1 : Int32) (s : St) : Option (Unit × St) :=
  l_X11_findFails_2 FU x1 0 s
def f_X11_fails (x1 : Int32) (x2 : Int32) (s : St) : Option (Int32 × St) :=
  bd (f_X11_isHeap x1 s) fun r_2 s_2 =>
  if r_2 = 0 then (
    some ((-1), s_2))
  else (
    bd (f_X11_isPoint x2 s_2) fun r_10 s_10 =>
    if r_10 = 0 then (
      some ((-1), s_10))
    else (
      bd (f_X11_findFails x1 s_10) fun _ s_20 =>
      gi x2 12 <|
      if (rI s_20 97 x2.toNatClampNeg) = 1000000 then (
        some ((-1), s_20))
      else (
        gi x2 12 <|
        some (rI s_20 97 x2.toNatClampNeg, s_20))))
def f_X7_windowTime (x1 : Int32) (s : St) : Option (Int32 × St) :=
  gi x1 12 <|
  gi (rI s 13 x1.toNatClampNeg) 12 <|
  gi x1 12 <|
  some (jmin ((rI s 29 (rI s 13 x1.toNatClampNeg).toNatClampNeg) + (rI s 14 x1.toNatClampNeg)) 1000000, s)
def b_X2_light_10 (rec10 : Int32 → St → Option (Unit × St)) (x2 : Int32) (s : St) : Option (Unit × St) :=
  if (rI s 8 2) ≤ x2 then (
    some ((), s))
  else (
    gi x2 12 <|
    if (rI s 33 x2.toNatClampNeg) = 0 then (
      bd (f_X7_windowTime x2 s) fun r_40 s_40 =>
      gi x2 12 <|
      let s_43 : St := wI s_40 34 x2.toNatClampNeg r_40
      let x2_69 : Int32 := x2 + 1
      rec10 x2_69 s_43)
    else (
      gi x2 12 <|
      if (rI s 33 x2.toNatClampNeg) = 1 then (
        gi x2 12 <|
        let s_68 : St := wI s 34 x2.toNatClampNeg 0
        let x2_69 : Int32 := x2 + 1
        rec10 x2_69 s_68)
      else (
        gi x2 12 <|
        let s_68 : St := wI s 34 x2.toNatClampNeg 1000000
        let x2_69 : Int32 := x2 + 1
        rec10 x2_69 s_68)))
def l_X2_light_10  : Nat → Int32 → St → Option (Unit × St)
  | 0 => fun _ _ => none
  | n + 1 => b_X2_light_10  (l_X2_light_10  n)
def f_X2_light (x1 : Int32) (s : St) : Option (Unit × St) :=
  bd (f_X7_run x1 s) fun _ s_5 =>
  l_X2_light_10 FU 0 s_5
def f_X10_lit (x1 : Int32) (x2 : Int32) (s : St) : Option (Int32 × St) :=
  bd (f_X10_isHeap x1 s) fun r_2 s_2 =>
  if r_2 = 0 then (
    some ((-1), s_2))
  else (
    bd (f_X10_isWindow x2 s_2) fun r_10 s_10 =>
    if r_10 = 0 then (
      some ((-1), s_10))
    else (
      bd (f_X2_light x1 s_10) fun _ s_23 =>
      gi x2 12 <|
      bd (f_X10_orNone (rI s_23 34 x2.toNatClampNeg) s_23) fun r_35 s_35 =>
      some (r_35, s_35)))
def j_X11_litAt_30  (x1 : Int32) (s : St) : Option (Int32 × St) :=
  gi x1 12 <|
  gi (rI s 88 x1.toNatClampNeg) 12 <|
  if (rI s 97 (rI s 88 x1.toNatClampNeg).toNatClampNeg) = 1000000 then (
    some (1000000, s))
  else (
    gi x1 12 <|
    gi (rI s 88 x1.toNatClampNeg) 12 <|
    gi x1 12 <|
    some ((rI s 97 (rI s 88 x1.toNatClampNeg).toNatClampNeg) + (rI s 89 x1.toNatClampNeg), s))
def f_X11_litAt (x1 : Int32) (x2 : Int32) (s : St) : Option (Int32 × St) :=
  if x2 = 0 then (
    j_X11_litAt_30 x1 s)
  else (
    gi x1 12 <|
    if (rI s 90 x1.toNatClampNeg) = 0 then (
      j_X11_litAt_30 x1 s)
    else (
      gi x1 12 <|
      if (rI s 90 x1.toNatClampNeg) = 1 then (
        some (0, s))
      else (
        some (1000000, s))))
def f_X11_lit (x1 : Int32) (x2 : Int32) (s : St) : Option (Int32 × St) :=
  bd (f_X11_isHeap x1 s) fun r_2 s_2 =>
  if r_2 = 0 then (
    some ((-1), s_2))
  else (
    bd (f_X11_isWindow x2 s_2) fun r_10 s_10 =>
    if r_10 = 0 then (
      some ((-1), s_10))
    else (
      bd (f_X11_findFails x1 s_10) fun _ s_20 =>
      bd (f_X11_litAt x2 1 s_20) fun r_26 s_26 =>
      if r_26 = 1000000 then (
        some ((-1), s_26))
      else (
        some (r_26, s_26))))
def b_X2_firstOut_7 (rec7 : Int32 → Int32 → Int32 → St → Option (Int32 × St)) (x1 : Int32) (x2 : Int32) (x3 : Int32) (s : St) : Option (Int32 × St) :=
  if (rI s 8 2) ≤ x3 then (
    some (x1, s))
  else (
    gi x3 12 <|
    if (rI s 33 x3.toNatClampNeg) = 0 then (
      gi x3 12 <|
      if x2 ≤ (rI s 34 x3.toNatClampNeg) then (
        let x3_46 : Int32 := x3 + 1
        rec7 x1 x2 x3_46 s)
      else (
        gi x3 12 <|
        let x2_45 : Int32 := rI s 34 x3.toNatClampNeg
        let x3_46 : Int32 := x3 + 1
        rec7 x3 x2_45 x3_46 s))
    else (
      let x3_46 : Int32 := x3 + 1
      rec7 x1 x2 x3_46 s))
def l_X2_firstOut_7  : Nat → Int32 → Int32 → Int32 → St → Option (Int32 × St)
  | 0 => fun _ _ _ _ => none
  | n + 1 => b_X2_firstOut_7  (l_X2_firstOut_7  n)
def f_X2_firstOut  (s : St) : Option (Int32 × St) :=
  l_X2_firstOut_7 FU (-1) 1000000 0 s
def f_X10_first (x1 : Int32) (x2 : Int32) (s : St) : Option (Int32 × St) :=
  bd (f_X10_isHeap x1 s) fun r_2 s_2 =>
  if r_2 = 0 then (
    some ((-1), s_2))
  else (
    if x2 < 0 then (
      some ((-1), s_2))
    else (
      if x2 ≤ 1 then (
        bd (f_X2_light x1 s_2) fun _ s_24 =>
        bd (f_X2_firstOut s_24) fun r_31 s_31 =>
        if r_31 = (-1) then (
          some (r_31, s_31))
        else (
          if x2 = 0 then (
            some (r_31, s_31))
          else (
            gi r_31 12 <|
            bd (f_X10_hasBit x1 (rI s_31 13 r_31.toNatClampNeg) s_31) fun r_56 s_56 =>
            if r_56 = 0 then (
              some (1, s_56))
            else (
              some (0, s_56)))))
      else (
        some ((-1), s_2))))
def b_X11_firstFrom_4 (rec4 : Int32 → Int32 → Int32 → St → Option (Int32 × St)) (x1 : Int32) (x2 : Int32) (x3 : Int32) (s : St) : Option (Int32 × St) :=
  if (rI s 74 24) ≤ x3 then (
    some (x2, s))
  else (
    bd (f_X11_litAt x3 1 s) fun r_15 s_15 =>
    gi x3 12 <|
    if (rI s_15 90 x3.toNatClampNeg) = 0 then (
      if r_15 = 1000000 then (
        let x3_63 : Int32 := x3 + 1
        rec4 x1 x2 x3_63 s_15)
      else (
        if x1 ≤ r_15 then (
          if x2 = (-1) then (
            let x3_63 : Int32 := x3 + 1
            rec4 x1 x3 x3_63 s_15)
          else (
            bd (f_X11_litAt x2 1 s_15) fun r_55 s_55 =>
            if r_55 ≤ r_15 then (
              let x3_63 : Int32 := x3 + 1
              rec4 x1 x2 x3_63 s_55)
            else (
              let x3_63 : Int32 := x3 + 1
              rec4 x1 x3 x3_63 s_55)))
        else (
          let x3_63 : Int32 := x3 + 1
          rec4 x1 x2 x3_63 s_15)))
    else (
      let x3_63 : Int32 := x3 + 1
      rec4 x1 x2 x3_63 s_15))
def l_X11_firstFrom_4  : Nat → Int32 → Int32 → Int32 → St → Option (Int32 × St)
  | 0 => fun _ _ _ _ => none
  | n + 1 => b_X11_firstFrom_4  (l_X11_firstFrom_4  n)
def f_X11_firstFrom (x1 : Int32) (s : St) : Option (Int32 × St) :=
  l_X11_firstFrom_4 FU x1 (-1) 0 s
def f_X11_first (x1 : Int32) (x2 : Int32) (s : St) : Option (Int32 × St) :=
  bd (f_X11_isHeap x1 s) fun r_2 s_2 =>
  if r_2 = 0 then (
    some ((-1), s_2))
  else (
    bd (f_X11_in x2 0 1 s_2) fun r_11 s_11 =>
    if r_11 = 0 then (
      some ((-1), s_11))
    else (
      bd (f_X11_findFails x1 s_11) fun _ s_21 =>
      bd (f_X11_firstFrom 0 s_21) fun r_26 s_26 =>
      if r_26 = (-1) then (
        some (r_26, s_26))
      else (
        if x2 = 0 then (
          some (r_26, s_26))
        else (
          gi r_26 12 <|
          if ((x1 >>> ((rI s_26 88 r_26.toNatClampNeg) &&& 31)) &&& 1) = 0 then (
            some (1, s_26))
          else (
            some (0, s_26))))))
def b_X2_nextSound_5 (rec5 : Int32 → Int32 → Int32 → St → Option (Int32 × St)) (x1 : Int32) (x2 : Int32) (x3 : Int32) (s : St) : Option (Int32 × St) :=
  if (rI s 8 2) ≤ x3 then (
    some (x2, s))
  else (
    gi x3 12 <|
    if (rI s 33 x3.toNatClampNeg) = 0 then (
      gi x3 12 <|
      if (rI s 34 x3.toNatClampNeg) < x1 then (
        let x3_46 : Int32 := x3 + 1
        rec5 x1 x2 x3_46 s)
      else (
        gi x3 12 <|
        let x2_45 : Int32 := jmin x2 (rI s 34 x3.toNatClampNeg)
        let x3_46 : Int32 := x3 + 1
        rec5 x1 x2_45 x3_46 s))
    else (
      let x3_46 : Int32 := x3 + 1
      rec5 x1 x2 x3_46 s))
def l_X2_nextSound_5  : Nat → Int32 → Int32 → Int32 → St → Option (Int32 × St)
  | 0 => fun _ _ _ _ => none
  | n + 1 => b_X2_nextSound_5  (l_X2_nextSound_5  n)
def f_X2_nextSound (x1 : Int32) (s : St) : Option (Int32 × St) :=
  l_X2_nextSound_5 FU x1 1000000 0 s
def b_X2_hornsBegun_11 (rec11 : Int32 → Int32 → Int32 → Int32 → St → Option (Int32 × St)) (x1 : Int32) (x2 : Int32) (x3 : Int32) (x4 : Int32) (s : St) : Option (Int32 × St) :=
  if (rI s 8 2) ≤ x4 then (
    some (x2, s))
  else (
    if 1000000 ≤ x3 then (
      some (x2, s))
    else (
      let x2_29 : Int32 := x2 + 1
      bd (f_X2_nextSound (x3 + x1) s) fun r_36 s_36 =>
      let x4_40 : Int32 := x4 + 1
      rec11 x1 x2_29 r_36 x4_40 s_36))
def l_X2_hornsBegun_11  : Nat → Int32 → Int32 → Int32 → Int32 → St → Option (Int32 × St)
  | 0 => fun _ _ _ _ _ => none
  | n + 1 => b_X2_hornsBegun_11  (l_X2_hornsBegun_11  n)
def f_X2_hornsBegun (x1 : Int32) (s : St) : Option (Int32 × St) :=
  bd (f_X2_nextSound 0 s) fun r_4 s_4 =>
  l_X2_hornsBegun_11 FU x1 0 r_4 0 s_4
def f_X10_horns (x1 : Int32) (x2 : Int32) (s : St) : Option (Int32 × St) :=
  bd (f_X10_isHeap x1 s) fun r_2 s_2 =>
  if r_2 = 0 then (
    some ((-1), s_2))
  else (
    if x2 < 1 then (
      some ((-1), s_2))
    else (
      if x2 ≤ 60 then (
        bd (f_X2_light x1 s_2) fun _ s_26 =>
        bd (f_X2_hornsBegun x2 s_26) fun r_34 s_34 =>
        some (r_34, s_34))
      else (
        some ((-1), s_2))))
def b_X11_horns_38 (rec38 : Int32 → Int32 → Int32 → St → Option (Int32 × St)) (x2 : Int32) (x3 : Int32) (x5 : Int32) (s : St) : Option (Int32 × St) :=
  if x5 = (-1) then (
    some (x3, s))
  else (
    let x3_44 : Int32 := x3 + 1
    bd (f_X11_litAt x5 1 s) fun r_51 s_51 =>
    let x4_56 : Int32 := r_51 + x2
    bd (f_X11_firstFrom x4_56 s_51) fun r_61 s_61 =>
    rec38 x2 x3_44 r_61 s_61)
def l_X11_horns_38  : Nat → Int32 → Int32 → Int32 → St → Option (Int32 × St)
  | 0 => fun _ _ _ _ => none
  | n + 1 => b_X11_horns_38  (l_X11_horns_38  n)
def f_X11_horns (x1 : Int32) (x2 : Int32) (s : St) : Option (Int32 × St) :=
  bd (f_X11_isHeap x1 s) fun r_2 s_2 =>
  if r_2 = 0 then (
    some ((-1), s_2))
  else (
    bd (f_X11_in x2 1 60 s_2) fun r_12 s_12 =>
    if r_12 = 0 then (
      some ((-1), s_12))
    else (
      bd (f_X11_findFails x1 s_12) fun _ s_22 =>
      bd (f_X11_firstFrom 0 s_22) fun r_33 s_33 =>
      l_X11_horns_38 FU x2 0 r_33 s_33))
def f_X10_isSecond (x0 : Int32) (s : St) : Option (Int32 × St) :=
  if x0 < 0 then (
    some (0, s))
  else (
    if 999 < x0 then (
      some (0, s))
    else (
      some (1, s)))
def f_X5_canAdd (x1 : Int32) (s : St) : Option (Int32 × St) :=
  if 60 ≤ (rI s 35 2) then (
    some (0, s))
  else (
    if (rI s 35 2) = 0 then (
      some (1, s))
    else (
      gi ((rI s 35 2) - 1) 60 <|
      if x1 < (rI s 37 ((rI s 35 2) - 1).toNatClampNeg) then (
        some (0, s))
      else (
        some (1, s))))
def f_X5_add (x1 : Int32) (x2 : Int32) (s : St) : Option (Unit × St) :=
  if 60 ≤ (rI s 35 2) then (
    some ((), s))
  else (
    gi (rI s 35 2) 60 <|
    let s_18 : St := wI s 36 (rI s 35 2).toNatClampNeg x1
    gi (rI s_18 35 2) 60 <|
    let s_28 : St := wI s_18 37 (rI s_18 35 2).toNatClampNeg x2
    let s_36 : St := wI s_28 35 2 ((rI s_28 35 2) + 1)
    some ((), s_36))
def f_X10_log (x1 : Int32) (x2 : Int32) (s : St) : Option (Int32 × St) :=
  bd (f_X10_isWindow x1 s) fun r_2 s_2 =>
  if r_2 = 0 then (
    some ((-1), s_2))
  else (
    bd (f_X10_isSecond x2 s_2) fun r_9 s_9 =>
    if r_9 = 0 then (
      some ((-1), s_9))
    else (
      bd (f_X5_canAdd x2 s_9) fun r_20 s_20 =>
      if r_20 = 0 then (
        some ((-1), s_20))
      else (
        bd (f_X5_add x1 x2 s_20) fun _ s_34 =>
        some (rI s_34 35 2, s_34))))
def j_X11_log_31  (x1 : Int32) (x2 : Int32) (t0 : Int32) (t1 : Int32) (s : St) : Option (Int32 × St) :=
  bd (f_X11_in t0 t1 999 s) fun r_34 s_34 =>
  if r_34 = 0 then (
    some ((-1), s_34))
  else (
    if (rI s_34 74 32) = 60 then (
      some ((-1), s_34))
    else (
      gi (rI s_34 74 32) 60 <|
      let s_60 : St := wI s_34 94 (rI s_34 74 32).toNatClampNeg x1
      gi (rI s_60 74 32) 60 <|
      let s_70 : St := wI s_60 95 (rI s_60 74 32).toNatClampNeg x2
      let s_78 : St := wI s_70 74 32 ((rI s_70 74 32) + 1)
      some (rI s_78 74 32, s_78)))
def f_X11_log (x1 : Int32) (x2 : Int32) (s : St) : Option (Int32 × St) :=
  bd (f_X11_isWindow x1 s) fun r_2 s_2 =>
  if r_2 = 0 then (
    some ((-1), s_2))
  else (
    if (rI s_2 74 32) = 0 then (
      j_X11_log_31 x1 x2 x2 0 s_2)
    else (
      gi ((rI s_2 74 32) - 1) 60 <|
      j_X11_log_31 x1 x2 x2 (rI s_2 95 ((rI s_2 74 32) - 1).toNatClampNeg) s_2))
def f_X10_erase  (s : St) : Option (Int32 × St) :=
  let x1_7 : Int32 := rI s 35 2
  let s_13 : St := wI s 35 2 0
  some (x1_7, s_13)
def f_X11_erase  (s : St) : Option (Int32 × St) :=
  let x1_4 : Int32 := rI s 74 32
  let s_7 : St := wI s 74 32 0
  some (x1_4, s_7)
def b_X5_rowAhead_4 (rec4 : Int32 → Int32 → St → Option (Int32 × St)) (x1 : Int32) (x2 : Int32) (s : St) : Option (Int32 × St) :=
  if x2 < 0 then (
    some ((-1), s))
  else (
    gi x2 60 <|
    gi x1 60 <|
    if (rI s 36 x2.toNatClampNeg) = (rI s 36 x1.toNatClampNeg) then (
      some (x2, s))
    else (
      let x2_25 : Int32 := x2 + (-1)
      rec4 x1 x2_25 s))
def l_X5_rowAhead_4  : Nat → Int32 → Int32 → St → Option (Int32 × St)
  | 0 => fun _ _ _ => none
  | n + 1 => b_X5_rowAhead_4  (l_X5_rowAhead_4  n)
def f_X5_rowAhead (x1 : Int32) (s : St) : Option (Int32 × St) :=
  let x2_3 : Int32 := x1 - 1
  l_X5_rowAhead_4 FU x1 x2_3 s
def b_X5_countApart_4 (rec4 : Int32 → Int32 → Int32 → St → Option (Int32 × St)) (x1 : Int32) (x2 : Int32) (x3 : Int32) (s : St) : Option (Int32 × St) :=
  if (rI s 35 2) ≤ x3 then (
    some (x2, s))
  else (
    bd (f_X5_rowAhead x3 s) fun r_14 s_14 =>
    if r_14 = (-1) then (
      let x2_43 : Int32 := x2 + 1
      let x3_46 : Int32 := x3 + 1
      rec4 x1 x2_43 x3_46 s_14)
    else (
      gi x3 60 <|
      gi r_14 60 <|
      if ((rI s_14 37 x3.toNatClampNeg) - (rI s_14 37 r_14.toNatClampNeg)) < x1 then (
        let x3_46 : Int32 := x3 + 1
        rec4 x1 x2 x3_46 s_14)
      else (
        let x2_43 : Int32 := x2 + 1
        let x3_46 : Int32 := x3 + 1
        rec4 x1 x2_43 x3_46 s_14)))
def l_X5_countApart_4  : Nat → Int32 → Int32 → Int32 → St → Option (Int32 × St)
  | 0 => fun _ _ _ _ => none
  | n + 1 => b_X5_countApart_4  (l_X5_countApart_4  n)
def f_X5_countApart (x1 : Int32) (s : St) : Option (Int32 × St) :=
  l_X5_countApart_4 FU x1 0 0 s
def f_X10_joined (x1 : Int32) (s : St) : Option (Int32 × St) :=
  if x1 < 0 then (
    some ((-1), s))
  else (
    if x1 ≤ 60 then (
      bd (f_X5_countApart x1 s) fun r_17 s_17 =>
      some (r_17, s_17))
    else (
      some ((-1), s)))
def j_X11_joined_56 (rec16 : Int32 → Int32 → Int32 → St → Option (Int32 × St)) (x1 : Int32) (x2 : Int32) (x3 : Int32) (x4 : Int32) (s : St) : Option (Int32 × St) :=
  if x4 < 0 then (
    let x2_86 : Int32 := x2 + 1
    let x3_87 : Int32 := x3 + 1
    rec16 x1 x2_86 x3_87 s)
  else (
    gi x3 60 <|
    gi x4 60 <|
    if x1 ≤ ((rI s 95 x3.toNatClampNeg) - (rI s 95 x4.toNatClampNeg)) then (
      let x2_86 : Int32 := x2 + 1
      let x3_87 : Int32 := x3 + 1
      rec16 x1 x2_86 x3_87 s)
    else (
      let x2_86 : Int32 := x2 + 0
      let x3_87 : Int32 := x3 + 1
      rec16 x1 x2_86 x3_87 s))
def b_X11_joined_29 (rec16 : Int32 → Int32 → Int32 → St → Option (Int32 × St)) (rec29 : Int32 → Int32 → Int32 → Int32 → St → Option (Int32 × St)) (x1 : Int32) (x2 : Int32) (x3 : Int32) (x4 : Int32) (s : St) : Option (Int32 × St) :=
  if x4 < 0 then (
    j_X11_joined_56 rec16 x1 x2 x3 x4 s)
  else (
    gi x4 60 <|
    gi x3 60 <|
    if (rI s 94 x4.toNatClampNeg) = (rI s 94 x3.toNatClampNeg) then (
      j_X11_joined_56 rec16 x1 x2 x3 x4 s)
    else (
      let x4_50 : Int32 := x4 + (-1)
      rec29 x1 x2 x3 x4_50 s))
def l_X11_joined_29 (rec16 : Int32 → Int32 → Int32 → St → Option (Int32 × St)) : Nat → Int32 → Int32 → Int32 → Int32 → St → Option (Int32 × St)
  | 0 => fun _ _ _ _ _ => none
  | n + 1 => b_X11_joined_29 rec16 (l_X11_joined_29 rec16 n)
def b_X11_joined_16 (rec16 : Int32 → Int32 → Int32 → St → Option (Int32 × St)) (x1 : Int32) (x2 : Int32) (x3 : Int32) (s : St) : Option (Int32 × St) :=
  if (rI s 74 32) ≤ x3 then (
    some (x2, s))
  else (
    let x4_27 : Int32 := x3 - 1
    l_X11_joined_29 rec16 FU x1 x2 x3 x4_27 s)
def l_X11_joined_16  : Nat → Int32 → Int32 → Int32 → St → Option (Int32 × St)
  | 0 => fun _ _ _ _ => none
  | n + 1 => b_X11_joined_16  (l_X11_joined_16  n)
def f_X11_joined (x1 : Int32) (s : St) : Option (Int32 × St) :=
  bd (f_X11_in x1 0 60 s) fun r_4 s_4 =>
  if r_4 = 0 then (
    some ((-1), s_4))
  else (
    l_X11_joined_16 FU x1 0 0 s_4)
def f_X10_off (x1 : Int32) (s : St) : Option (Int32 × St) :=
  if x1 < 0 then (
    some (0, s))
  else (
    if x1 ≤ 20 then (
      let s_17 : St := wI s 38 6 x1
      some (1, s_17))
    else (
      some (0, s)))
def f_X11_off (x1 : Int32) (s : St) : Option (Int32 × St) :=
  bd (f_X11_in x1 0 20 s) fun r_4 s_4 =>
  if r_4 = 0 then (
    some (0, s_4))
  else (
    let s_14 : St := wI s_4 74 35 x1
    some (1, s_14))
def b_J7_fill_53178_39_5 (rec5 : Int32 → Int32 → Int32 → St → Option (Unit × St)) (x1 : Int32) (x2 : Int32) (x3 : Int32) (s : St) : Option (Unit × St) :=
  if x3 ≤ x2 then (
    some ((), s))
  else (
    gi x2 12 <|
    let s_13 : St := wI s 39 x2.toNatClampNeg x1
    let x2_14 : Int32 := x2 + 1
    rec5 x1 x2_14 x3 s_13)
def l_J7_fill_53178_39_5  : Nat → Int32 → Int32 → Int32 → St → Option (Unit × St)
  | 0 => fun _ _ _ _ => none
  | n + 1 => b_J7_fill_53178_39_5  (l_J7_fill_53178_39_5  n)
def f_J7_fill_53178_39 (x1 : Int32) (s : St) : Option (Unit × St) :=
  l_J7_fill_53178_39_5 FU x1 0 12 s
def j_X1_loadRows_56 (rec15 : Int32 → Int32 → Int32 → St → Option (Unit × St)) (x1 : Int32) (x2 : Int32) (x3 : Int32) (x4 : Int32) (t1 : Int32) (s : St) : Option (Unit × St) :=
  let s_56 : St := wI s 38 7 t1
  gi x4 12 <|
  if (rI s_56 39 x4.toNatClampNeg) = (-1) then (
    gi x4 12 <|
    let s_80 : St := wI s_56 39 x4.toNatClampNeg (rI s_56 38 7)
    let x3_81 : Int32 := x3 + 1
    rec15 x1 x2 x3_81 s_80)
  else (
    let x3_81 : Int32 := x3 + 1
    rec15 x1 x2 x3_81 s_56)
def b_X1_loadRows_15 (rec15 : Int32 → Int32 → Int32 → St → Option (Unit × St)) (x1 : Int32) (x2 : Int32) (x3 : Int32) (s : St) : Option (Unit × St) :=
  if (rI s 35 2) ≤ x3 then (
    some ((), s))
  else (
    gi x3 60 <|
    let x4_35 : Int32 := rI s 36 x3.toNatClampNeg
    if x3 = x1 then (
      j_X1_loadRows_56 rec15 x1 x2 x3 x4_35 x2 s)
    else (
      gi x3 60 <|
      j_X1_loadRows_56 rec15 x1 x2 x3 x4_35 (rI s 37 x3.toNatClampNeg) s))
def l_X1_loadRows_15  : Nat → Int32 → Int32 → Int32 → St → Option (Unit × St)
  | 0 => fun _ _ _ _ => none
  | n + 1 => b_X1_loadRows_15  (l_X1_loadRows_15  n)
def f_X1_loadRows (x1 : Int32) (x2 : Int32) (s : St) : Option (Unit × St) :=
  bd (f_J7_fill_53178_39 (-1) s) fun _ s_5 =>
  let s_10 : St := wI s_5 38 7 0
  l_X1_loadRows_15 FU x1 x2 0 s_10
def b_X1_wrongAt_4 (rec4 : Int32 → Int32 → Int32 → St → Option (Int32 × St)) (x1 : Int32) (x2 : Int32) (x3 : Int32) (s : St) : Option (Int32 × St) :=
  if (rI s 8 2) ≤ x3 then (
    some (x2, s))
  else (
    gi x3 12 <|
    if x1 < (rI s 40 x3.toNatClampNeg) then (
      let x2_40 : Int32 := x2 ||| ((1 : Int32) <<< (x3 &&& 31))
      let x3_41 : Int32 := x3 + 1
      rec4 x1 x2_40 x3_41 s)
    else (
      gi x3 12 <|
      if x1 ≤ (rI s 41 x3.toNatClampNeg) then (
        let x3_41 : Int32 := x3 + 1
        rec4 x1 x2 x3_41 s)
      else (
        let x2_40 : Int32 := x2 ||| ((1 : Int32) <<< (x3 &&& 31))
        let x3_41 : Int32 := x3 + 1
        rec4 x1 x2_40 x3_41 s)))
def l_X1_wrongAt_4  : Nat → Int32 → Int32 → Int32 → St → Option (Int32 × St)
  | 0 => fun _ _ _ _ => none
  | n + 1 => b_X1_wrongAt_4  (l_X1_wrongAt_4  n)
def f_X1_wrongAt (x1 : Int32) (s : St) : Option (Int32 × St) :=
  l_X1_wrongAt_4 FU x1 0 0 s
def f_J6_bitCount_0f7a4 (x0 : Int32) (s : St) : Option (Int32 × St) :=
  let x0_9 : Int32 := x0 - (((x0.toUInt32 >>> ((1 : Int32).toUInt32 &&& Int32.toUInt32 31)).toInt32) &&& 1431655765)
  let x0_23 : Int32 := (x0_9 &&& 858993459) + (((x0_9.toUInt32 >>> ((2 : Int32).toUInt32 &&& Int32.toUInt32 31)).toInt32) &&& 858993459)
  let x0_33 : Int32 := (x0_23 + ((x0_23.toUInt32 >>> ((4 : Int32).toUInt32 &&& Int32.toUInt32 31)).toInt32)) &&& 252645135
  let x0_40 : Int32 := x0_33 + ((x0_33.toUInt32 >>> ((8 : Int32).toUInt32 &&& Int32.toUInt32 31)).toInt32)
  let x0_47 : Int32 := x0_40 + ((x0_40.toUInt32 >>> ((16 : Int32).toUInt32 &&& Int32.toUInt32 31)).toInt32)
  some (x0_47 &&& 63, s)
def f_X1_tryBegin (x1 : Int32) (s : St) : Option (Unit × St) :=
  bd (f_X1_wrongAt x1 s) fun r_2 s_2 =>
  bd (f_J6_bitCount_0f7a4 r_2 s_2) fun r_7 s_7 =>
  bd (f_J6_bitCount_0f7a4 (rI s_7 38 9) s_7) fun r_14 s_14 =>
  let x3_18 : Int32 := r_7 - r_14
  if x3_18 < 0 then (
    let s_37 : St := wI s_14 38 8 x1
    let s_42 : St := wI s_37 38 9 r_2
    some ((), s_42))
  else (
    if x3_18 = 0 then (
      if (rI s_14 38 8) ≤ x1 then (
        some ((), s_14))
      else (
        let s_37 : St := wI s_14 38 8 x1
        let s_42 : St := wI s_37 38 9 r_2
        some ((), s_42)))
    else (
      some ((), s_14)))
def b_X1_seekBegin_16 (rec16 : Int32 → St → Option (Unit × St)) (x1 : Int32) (s : St) : Option (Unit × St) :=
  if (rI s 8 2) ≤ x1 then (
    some ((), s))
  else (
    gi x1 12 <|
    if (rI s 40 x1.toNatClampNeg) ≤ 0 then (
      let x1_59 : Int32 := x1 + 1
      rec16 x1_59 s)
    else (
      gi x1 12 <|
      if (rI s 38 7) < (rI s 40 x1.toNatClampNeg) then (
        let x1_59 : Int32 := x1 + 1
        rec16 x1_59 s)
      else (
        gi x1 12 <|
        bd (f_X1_tryBegin (rI s 40 x1.toNatClampNeg) s) fun _ s_56 =>
        let x1_59 : Int32 := x1 + 1
        rec16 x1_59 s_56)))
def l_X1_seekBegin_16  : Nat → Int32 → St → Option (Unit × St)
  | 0 => fun _ _ => none
  | n + 1 => b_X1_seekBegin_16  (l_X1_seekBegin_16  n)
def f_X1_seekBegin  (s : St) : Option (Unit × St) :=
  let s_2 : St := wI s 38 8 0
  bd (f_X1_wrongAt 0 s_2) fun r_8 s_8 =>
  let s_11 : St := wI s_8 38 9 r_8
  l_X1_seekBegin_16 FU 0 s_11
def f_X1_takeLeast (x1 : Int32) (x2 : Int32) (s : St) : Option (Unit × St) :=
  let s_2 : St := wI s 38 10 x2
  let s_7 : St := wI s_2 38 11 x1
  let s_15 : St := wI s_7 38 12 (rI s_7 38 8)
  let s_23 : St := wI s_15 38 13 (rI s_15 38 9)
  let s_28 : St := wI s_23 38 14 1
  let s_33 : St := wI s_28 38 15 x1
  let s_38 : St := wI s_33 38 16 x1
  let s_46 : St := wI s_38 38 17 (rI s_38 38 9)
  some ((), s_46)
def f_X1_setSpan (x1 : Int32) (x2 : Int32) (s : St) : Option (Unit × St) :=
  gi x1 12 <|
  let x3_6 : Int32 := rI s 39 x1.toNatClampNeg
  if x3_6 = (-1) then (
    if x2 < 1000000 then (
      gi x1 12 <|
      let s_36 : St := wI s 40 x1.toNatClampNeg (((rI s 38 7) - x2) + 1)
      gi x1 12 <|
      let s_44 : St := wI s_36 41 x1.toNatClampNeg 1000000
      some ((), s_44))
    else (
      gi x1 12 <|
      let s_36 : St := wI s 40 x1.toNatClampNeg (-1000000)
      gi x1 12 <|
      let s_44 : St := wI s_36 41 x1.toNatClampNeg 1000000
      some ((), s_44)))
  else (
    if x2 < 1000000 then (
      gi x1 12 <|
      let s_86 : St := wI s 40 x1.toNatClampNeg ((x3_6 - x2) - (rI s 38 6))
      gi x1 12 <|
      let s_100 : St := wI s_86 41 x1.toNatClampNeg ((x3_6 - x2) + (rI s_86 38 6))
      some ((), s_100))
    else (
      gi x1 12 <|
      let s_61 : St := wI s 40 x1.toNatClampNeg 1000000
      gi x1 12 <|
      let s_69 : St := wI s_61 41 x1.toNatClampNeg (-1000000)
      some ((), s_69)))
def b_X1_tryHeap_21 (rec21 : Int32 → Int32 → Int32 → St → Option (Unit × St)) (x1 : Int32) (x2 : Int32) (x3 : Int32) (s : St) : Option (Unit × St) :=
  if (rI s 8 2) ≤ x3 then (
    bd (f_X1_seekBegin s) fun _ s_52 =>
    bd (f_J6_bitCount_0f7a4 (rI s_52 38 9) s_52) fun r_62 s_62 =>
    let x3_66 : Int32 := (2 * x2) + r_62
    if (rI s_62 38 10) ≤ x3_66 then (
      if x3_66 = (rI s_62 38 10) then (
        let s_99 : St := wI s_62 38 14 ((rI s_62 38 14) + 1)
        let s_109 : St := wI s_99 38 15 ((rI s_99 38 15) &&& x1)
        let s_119 : St := wI s_109 38 16 ((rI s_109 38 16) ||| x1)
        let s_132 : St := wI s_119 38 17 ((rI s_119 38 17) &&& (rI s_119 38 9))
        some ((), s_132))
      else (
        some ((), s_62)))
    else (
      bd (f_X1_takeLeast x1 x3_66 s_62) fun _ s_78 =>
      some ((), s_78)))
  else (
    bd (f_X7_windowTime x3 s) fun r_39 s_39 =>
    bd (f_X1_setSpan x3 r_39 s_39) fun _ s_42 =>
    let x3_45 : Int32 := x3 + 1
    rec21 x1 x2 x3_45 s_42)
def l_X1_tryHeap_21  : Nat → Int32 → Int32 → Int32 → St → Option (Unit × St)
  | 0 => fun _ _ _ _ => none
  | n + 1 => b_X1_tryHeap_21  (l_X1_tryHeap_21  n)
def f_X1_tryHeap (x1 : Int32) (x2 : Int32) (s : St) : Option (Unit × St) :=
  if (2 * x2) ≤ (rI s 38 10) then (
    bd (f_X7_run x1 s) fun _ s_16 =>
    l_X1_tryHeap_21 FU x1 x2 0 s_16)
  else (
    some ((), s))
def b_X1_search_117 (rec94 : Int32 → St → Option (Unit × St)) (rec108 : Int32 → Int32 → St → Option (Unit × St)) (rec117 : Int32 → Int32 → Int32 → St → Option (Unit × St)) (x3 : Int32) (x4 : Int32) (x5 : Int32) (s : St) : Option (Unit × St) :=
  if x4 ≤ x5 then (
    let x4_148 : Int32 := x4 + 1
    rec108 x3 x4_148 s)
  else (
    bd (f_X1_tryHeap ((((1 : Int32) <<< (x3 &&& 31)) ||| ((1 : Int32) <<< (x4 &&& 31))) ||| ((1 : Int32) <<< (x5 &&& 31))) 3 s) fun _ s_139 =>
    let x5_142 : Int32 := x5 + 1
    rec117 x3 x4 x5_142 s_139)
def l_X1_search_117 (rec94 : Int32 → St → Option (Unit × St)) (rec108 : Int32 → Int32 → St → Option (Unit × St)) : Nat → Int32 → Int32 → Int32 → St → Option (Unit × St)
  | 0 => fun _ _ _ _ => none
  | n + 1 => b_X1_search_117 rec94 rec108 (l_X1_search_117 rec94 rec108 n)
def b_X1_search_108 (rec94 : Int32 → St → Option (Unit × St)) (rec108 : Int32 → Int32 → St → Option (Unit × St)) (x3 : Int32) (x4 : Int32) (s : St) : Option (Unit × St) :=
  if x3 ≤ x4 then (
    let x3_154 : Int32 := x3 + 1
    rec94 x3_154 s)
  else (
    l_X1_search_117 rec94 rec108 FU x3 x4 0 s)
def l_X1_search_108 (rec94 : Int32 → St → Option (Unit × St)) : Nat → Int32 → Int32 → St → Option (Unit × St)
  | 0 => fun _ _ _ => none
  | n + 1 => b_X1_search_108 rec94 (l_X1_search_108 rec94 n)
def b_X1_search_94 (rec94 : Int32 → St → Option (Unit × St)) (x3 : Int32) (s : St) : Option (Unit × St) :=
  if (rI s 8 0) ≤ x3 then (
    some ((), s))
  else (
    l_X1_search_108 rec94 FU x3 0 s)
def l_X1_search_94  : Nat → Int32 → St → Option (Unit × St)
  | 0 => fun _ _ => none
  | n + 1 => b_X1_search_94  (l_X1_search_94  n)
def b_X1_search_61 (rec47 : Int32 → St → Option (Unit × St)) (rec61 : Int32 → Int32 → St → Option (Unit × St)) (x3 : Int32) (x4 : Int32) (s : St) : Option (Unit × St) :=
  if x3 ≤ x4 then (
    let x3_86 : Int32 := x3 + 1
    rec47 x3_86 s)
  else (
    bd (f_X1_tryHeap (((1 : Int32) <<< (x3 &&& 31)) ||| ((1 : Int32) <<< (x4 &&& 31))) 2 s) fun _ s_77 =>
    let x4_80 : Int32 := x4 + 1
    rec61 x3 x4_80 s_77)
def l_X1_search_61 (rec47 : Int32 → St → Option (Unit × St)) : Nat → Int32 → Int32 → St → Option (Unit × St)
  | 0 => fun _ _ _ => none
  | n + 1 => b_X1_search_61 rec47 (l_X1_search_61 rec47 n)
def b_X1_search_47 (rec47 : Int32 → St → Option (Unit × St)) (x3 : Int32) (s : St) : Option (Unit × St) :=
  if (rI s 8 0) ≤ x3 then (
    l_X1_search_94 FU 0 s)
  else (
    l_X1_search_61 rec47 FU x3 0 s)
def l_X1_search_47  : Nat → Int32 → St → Option (Unit × St)
  | 0 => fun _ _ => none
  | n + 1 => b_X1_search_47  (l_X1_search_47  n)
def b_X1_search_20 (rec20 : Int32 → St → Option (Unit × St)) (x3 : Int32) (s : St) : Option (Unit × St) :=
  if (rI s 8 0) ≤ x3 then (
    l_X1_search_47 FU 0 s)
  else (
    bd (f_X1_tryHeap ((1 : Int32) <<< (x3 &&& 31)) 1 s) fun _ s_36 =>
    let x3_39 : Int32 := x3 + 1
    rec20 x3_39 s_36)
def l_X1_search_20  : Nat → Int32 → St → Option (Unit × St)
  | 0 => fun _ _ => none
  | n + 1 => b_X1_search_20  (l_X1_search_20  n)
def f_X1_search (x1 : Int32) (x2 : Int32) (s : St) : Option (Unit × St) :=
  bd (f_X1_loadRows x1 x2 s) fun _ s_3 =>
  let s_9 : St := wI s_3 38 10 1000000
  bd (f_X1_tryHeap 0 0 s_9) fun _ s_15 =>
  l_X1_search_20 FU 0 s_15
def f_X10_explain (x1 : Int32) (s : St) : Option (Int32 × St) :=
  if x1 < 0 then (
    some ((-1), s))
  else (
    if 7 < x1 then (
      some ((-1), s))
    else (
      bd (f_X10_hasPlant s) fun r_11 s_11 =>
      if r_11 = 0 then (
        some ((-1), s_11))
      else (
        bd (f_X1_search (-1) 0 s_11) fun _ s_25 =>
        if x1 = 0 then (
          some (rI s_25 38 10, s_25))
        else
        if x1 = 1 then (
          some (rI s_25 38 11, s_25))
        else
        if x1 = 2 then (
          some (rI s_25 38 12, s_25))
        else
        if x1 = 3 then (
          some (rI s_25 38 13, s_25))
        else
        if x1 = 4 then (
          some (rI s_25 38 14, s_25))
        else
        if x1 = 5 then (
          some (rI s_25 38 15, s_25))
        else
        if x1 = 6 then (
          some (rI s_25 38 16, s_25))
        else
        (
          some (rI s_25 38 17, s_25)))))
def b_X11_findFirstRows_30 (rec30 : Int32 → St → Option (Unit × St)) (x1 : Int32) (s : St) : Option (Unit × St) :=
  if x1 < 0 then (
    some ((), s))
  else (
    gi x1 60 <|
    gi x1 60 <|
    gi (rI s 94 x1.toNatClampNeg) 12 <|
    let s_50 : St := wI s 98 (rI s 94 x1.toNatClampNeg).toNatClampNeg (rI s 95 x1.toNatClampNeg)
    let x1_51 : Int32 := x1 + (-1)
    rec30 x1_51 s_50)
def l_X11_findFirstRows_30  : Nat → Int32 → St → Option (Unit × St)
  | 0 => fun _ _ => none
  | n + 1 => b_X11_findFirstRows_30  (l_X11_findFirstRows_30  n)
def b_X11_findFirstRows_2 (rec2 : Int32 → St → Option (Unit × St)) (x1 : Int32) (s : St) : Option (Unit × St) :=
  if (rI s 74 24) ≤ x1 then (
    let x1_29 : Int32 := (rI s 74 32) - 1
    l_X11_findFirstRows_30 FU x1_29 s)
  else (
    gi x1 12 <|
    let s_16 : St := wI s 98 x1.toNatClampNeg (-1)
    let x1_17 : Int32 := x1 + 1
    rec2 x1_17 s_16)
def l_X11_findFirstRows_2  : Nat → Int32 → St → Option (Unit × St)
  | 0 => fun _ _ => none
  | n + 1 => b_X11_findFirstRows_2  (l_X11_findFirstRows_2  n)
def f_X11_findFirstRows  (s : St) : Option (Unit × St) :=
  l_X11_findFirstRows_2 FU 0 s
def b_X11_ones_4 (rec4 : Int32 → Int32 → Int32 → St → Option (Int32 × St)) (x0 : Int32) (x1 : Int32) (x2 : Int32) (s : St) : Option (Int32 × St) :=
  if 12 ≤ x2 then (
    some (x1, s))
  else (
    let x1_17 : Int32 := x1 + ((x0 >>> (x2 &&& 31)) &&& 1)
    let x2_18 : Int32 := x2 + 1
    rec4 x0 x1_17 x2_18 s)
def l_X11_ones_4  : Nat → Int32 → Int32 → Int32 → St → Option (Int32 × St)
  | 0 => fun _ _ _ _ => none
  | n + 1 => b_X11_ones_4  (l_X11_ones_4  n)
def f_X11_ones (x0 : Int32) (s : St) : Option (Int32 × St) :=
  l_X11_ones_4 FU x0 0 0 s
def j_X11_wrong_106 (rec5 : Int32 → Int32 → Int32 → Int32 → St → Option (Int32 × St)) (x1 : Int32) (x2 : Int32) (x3 : Int32) (x4 : Int32) (t0 : Int32) (s : St) : Option (Int32 × St) :=
  if t0 = 0 then (
    let x3_123 : Int32 := x3 ||| ((1 : Int32) <<< (x4 &&& 31))
    let x4_124 : Int32 := x4 + 1
    rec5 x1 x2 x3_123 x4_124 s)
  else (
    let x3_123 : Int32 := x3 ||| 0
    let x4_124 : Int32 := x4 + 1
    rec5 x1 x2 x3_123 x4_124 s)
def j_X11_wrong_39 (rec5 : Int32 → Int32 → Int32 → Int32 → St → Option (Int32 × St)) (x1 : Int32) (x2 : Int32) (x3 : Int32) (x4 : Int32) (t0 : Int32) (s : St) : Option (Int32 × St) :=
  gi x4 12 <|
  let x7_48 : Int32 := rI s 98 x4.toNatClampNeg
  if x7_48 = (-1) then (
    if t0 ≤ x2 then (
      j_X11_wrong_106 rec5 x1 x2 x3 x4 0 s)
    else (
      j_X11_wrong_106 rec5 x1 x2 x3 x4 1 s))
  else (
    if t0 = 1000000 then (
      j_X11_wrong_106 rec5 x1 x2 x3 x4 0 s)
    else (
      if (rI s 74 35) < (t0 - x7_48) then (
        j_X11_wrong_106 rec5 x1 x2 x3 x4 0 s)
      else (
        if (rI s 74 35) < (x7_48 - t0) then (
          j_X11_wrong_106 rec5 x1 x2 x3 x4 0 s)
        else (
          j_X11_wrong_106 rec5 x1 x2 x3 x4 1 s))))
def b_X11_wrong_5 (rec5 : Int32 → Int32 → Int32 → Int32 → St → Option (Int32 × St)) (x1 : Int32) (x2 : Int32) (x3 : Int32) (x4 : Int32) (s : St) : Option (Int32 × St) :=
  if (rI s 74 24) ≤ x4 then (
    some (x3, s))
  else (
    bd (f_X11_litAt x4 0 s) fun r_18 s_18 =>
    if r_18 = 1000000 then (
      j_X11_wrong_39 rec5 x1 x2 x3 x4 1000000 s_18)
    else (
      j_X11_wrong_39 rec5 x1 x2 x3 x4 (r_18 + x1) s_18))
def l_X11_wrong_5  : Nat → Int32 → Int32 → Int32 → Int32 → St → Option (Int32 × St)
  | 0 => fun _ _ _ _ _ => none
  | n + 1 => b_X11_wrong_5  (l_X11_wrong_5  n)
def f_X11_wrong (x1 : Int32) (x2 : Int32) (s : St) : Option (Int32 × St) :=
  l_X11_wrong_5 FU x1 x2 0 0 s
def j_X11_explains_202 (rec35 : Int32 → Int32 → St → Option (Unit × St)) (rec42 : Int32 → Int32 → Int32 → St → Option (Unit × St)) (x1 : Int32) (x2 : Int32) (x3 : Int32) (x6 : Int32) (s : St) : Option (Unit × St) :=
  let s_209 : St := wI s 74 44 ((rI s 74 44) + 1)
  let s_219 : St := wI s_209 74 45 ((rI s_209 74 45) &&& x3)
  let s_229 : St := wI s_219 74 46 ((rI s_219 74 46) ||| x3)
  let s_240 : St := wI s_229 74 47 ((rI s_229 74 47) &&& x6)
  let x3_243 : Int32 := x3 + 1
  rec42 x1 x2 x3_243 s_240
def b_X11_explains_81 (rec35 : Int32 → Int32 → St → Option (Unit × St)) (rec42 : Int32 → Int32 → Int32 → St → Option (Unit × St)) (rec81 : Int32 → Int32 → Int32 → Int32 → Int32 → Int32 → Int32 → St → Option (Unit × St)) (x1 : Int32) (x2 : Int32) (x3 : Int32) (x4 : Int32) (x5 : Int32) (x6 : Int32) (x7 : Int32) (s : St) : Option (Unit × St) :=
  if x1 < x7 then (
    if x4 ≤ (rI s 74 40) then (
      if (rI s 74 40) ≤ x4 then (
        j_X11_explains_202 rec35 rec42 x1 x2 x3 x6 s)
      else (
        let s_162 : St := wI s 74 40 x4
        let s_167 : St := wI s_162 74 41 x3
        let s_173 : St := wI s_167 74 42 x5
        let s_179 : St := wI s_173 74 43 x6
        let s_184 : St := wI s_179 74 44 0
        let s_189 : St := wI s_184 74 45 (-1)
        let s_194 : St := wI s_189 74 46 0
        let s_199 : St := wI s_194 74 47 (-1)
        j_X11_explains_202 rec35 rec42 x1 x2 x3 x6 s_199))
    else (
      let x3_243 : Int32 := x3 + 1
      rec42 x1 x2 x3_243 s))
  else (
    bd (f_X11_wrong x7 x1 s) fun r_91 s_91 =>
    bd (f_X11_ones r_91 s_91) fun r_101 s_101 =>
    if ((2 * x2) + r_101) < x4 then (
      bd (f_X11_ones r_91 s_101) fun r_118 s_118 =>
      let x4_122 : Int32 := (2 * x2) + r_118
      let x7_132 : Int32 := x7 + 1
      rec81 x1 x2 x3 x4_122 x7 r_91 x7_132 s_118)
    else (
      let x7_132 : Int32 := x7 + 1
      rec81 x1 x2 x3 x4 x5 x6 x7_132 s_101))
def l_X11_explains_81 (rec35 : Int32 → Int32 → St → Option (Unit × St)) (rec42 : Int32 → Int32 → Int32 → St → Option (Unit × St)) : Nat → Int32 → Int32 → Int32 → Int32 → Int32 → Int32 → Int32 → St → Option (Unit × St)
  | 0 => fun _ _ _ _ _ _ _ _ => none
  | n + 1 => b_X11_explains_81 rec35 rec42 (l_X11_explains_81 rec35 rec42 n)
def b_X11_explains_42 (rec35 : Int32 → Int32 → St → Option (Unit × St)) (rec42 : Int32 → Int32 → Int32 → St → Option (Unit × St)) (x1 : Int32) (x2 : Int32) (x3 : Int32) (s : St) : Option (Unit × St) :=
  if ((1 : Int32) <<< ((rI s 74 18) &&& 31)) ≤ x3 then (
    let x2_249 : Int32 := x2 + 1
    rec35 x1 x2_249 s)
  else (
    bd (f_X11_ones x3 s) fun r_53 s_53 =>
    if r_53 = x2 then (
      bd (f_X11_findFails x3 s_53) fun _ s_65 =>
      l_X11_explains_81 rec35 rec42 FU x1 x2 x3 1000000 0 0 0 s_65)
    else (
      let x3_243 : Int32 := x3 + 1
      rec42 x1 x2 x3_243 s_53))
def l_X11_explains_42 (rec35 : Int32 → Int32 → St → Option (Unit × St)) : Nat → Int32 → Int32 → Int32 → St → Option (Unit × St)
  | 0 => fun _ _ _ _ => none
  | n + 1 => b_X11_explains_42 rec35 (l_X11_explains_42 rec35 n)
def b_X11_explains_35 (rec35 : Int32 → Int32 → St → Option (Unit × St)) (x1 : Int32) (x2 : Int32) (s : St) : Option (Unit × St) :=
  if 3 < x2 then (
    some ((), s))
  else (
    l_X11_explains_42 rec35 FU x1 x2 0 s)
def l_X11_explains_35  : Nat → Int32 → Int32 → St → Option (Unit × St)
  | 0 => fun _ _ _ => none
  | n + 1 => b_X11_explains_35  (l_X11_explains_35  n)
def f_X11_explains  (s : St) : Option (Unit × St) :=
  bd (f_X11_findFirstRows s) fun _ s_1 =>
  if (rI s_1 74 32) = 0 then (
    let s_30 : St := wI s_1 74 40 1000000
    l_X11_explains_35 FU 0 0 s_30)
  else (
    gi ((rI s_1 74 32) - 1) 60 <|
    let x1_26 : Int32 := rI s_1 95 ((rI s_1 74 32) - 1).toNatClampNeg
    let s_30 : St := wI s_1 74 40 1000000
    l_X11_explains_35 FU x1_26 0 s_30)
def f_X11_explain (x1 : Int32) (s : St) : Option (Int32 × St) :=
  if (rI s 74 18) = 0 then (
    some ((-1), s))
  else (
    bd (f_X11_in x1 0 7 s) fun r_11 s_11 =>
    if r_11 = 0 then (
      some ((-1), s_11))
    else (
      bd (f_X11_explains s_11) fun _ s_20 =>
      if x1 = 0 then (
        some (rI s_20 74 40, s_20))
      else
      if x1 = 1 then (
        some (rI s_20 74 41, s_20))
      else
      if x1 = 2 then (
        some (rI s_20 74 42, s_20))
      else
      if x1 = 3 then (
        some (rI s_20 74 43, s_20))
      else
      if x1 = 4 then (
        some (rI s_20 74 44, s_20))
      else
      if x1 = 5 then (
        some (rI s_20 74 45, s_20))
      else
      if x1 = 6 then (
        some (rI s_20 74 46, s_20))
      else
      (
        some (rI s_20 74 47, s_20))))
def f_X10_altered (x1 : Int32) (x2 : Int32) (s : St) : Option (Int32 × St) :=
  if x1 < 0 then (
    some ((-1), s))
  else (
    if (rI s 35 2) ≤ x1 then (
      some ((-1), s))
    else (
      bd (f_X10_isSecond x2 s) fun r_16 s_16 =>
      if r_16 = 0 then (
        some ((-1), s_16))
      else (
        bd (f_X1_search x1 x2 s_16) fun _ s_30 =>
        some (rI s_30 38 10, s_30))))
def f_X11_altered (x1 : Int32) (x2 : Int32) (s : St) : Option (Int32 × St) :=
  bd (f_X11_in x1 0 ((rI s 74 32) - 1) s) fun r_8 s_8 =>
  if r_8 = 0 then (
    some ((-1), s_8))
  else (
    bd (f_X11_in x2 0 999 s_8) fun r_19 s_19 =>
    if r_19 = 0 then (
      some ((-1), s_19))
    else (
      gi x1 60 <|
      let x3_33 : Int32 := rI s_19 95 x1.toNatClampNeg
      gi x1 60 <|
      let s_40 : St := wI s_19 95 x1.toNatClampNeg x2
      bd (f_X11_explains s_40) fun _ s_42 =>
      gi x1 60 <|
      let s_51 : St := wI s_42 95 x1.toNatClampNeg x3_33
      some (rI s_51 74 40, s_51)))
def f_X10_rest (x1 : Int32) (x2 : Int32) (s : St) : Option (Int32 × St) :=
  if x1 < 0 then (
    some (0, s))
  else (
    if (rI s 8 3) ≤ x1 then (
      some (0, s))
    else (
      bd (f_X10_hasBit (rI s 32 4) x1 s) fun r_23 s_23 =>
      if r_23 = x2 then (
        some (0, s_23))
      else (
        let s_44 : St := wI s_23 32 4 ((rI s_23 32 4) ^^^ ((1 : Int32) <<< (x1 &&& 31)))
        some (1, s_44))))
def f_X11_rest (x1 : Int32) (x2 : Int32) (s : St) : Option (Int32 × St) :=
  bd (f_X11_in x1 0 ((rI s 74 29) - 1) s) fun r_8 s_8 =>
  if r_8 = 0 then (
    some (0, s_8))
  else (
    gi x1 8 <|
    if (rI s_8 93 x1.toNatClampNeg) = x2 then (
      some (0, s_8))
    else (
      gi x1 8 <|
      let s_32 : St := wI s_8 93 x1.toNatClampNeg (vp_nar .boolean x2)
      some (1, s_32)))
def f_X10_till (x1 : Int32) (s : St) : Option (Int32 × St) :=
  if x1 < 1 then (
    some (0, s))
  else (
    if x1 ≤ 600 then (
      let s_19 : St := wI s 42 4 x1
      some (1, s_19))
    else (
      some (0, s)))
def f_X11_till (x1 : Int32) (s : St) : Option (Int32 × St) :=
  bd (f_X11_in x1 1 600 s) fun r_5 s_5 =>
  if r_5 = 0 then (
    some (0, s_5))
  else (
    let s_15 : St := wI s_5 74 36 x1
    some (1, s_15))
def b_X2_litAt_4 (rec4 : Int32 → Int32 → Int32 → St → Option (Int32 × St)) (x1 : Int32) (x2 : Int32) (x3 : Int32) (s : St) : Option (Int32 × St) :=
  if (rI s 8 2) ≤ x3 then (
    some (x2, s))
  else (
    gi x3 12 <|
    if x1 < (rI s 34 x3.toNatClampNeg) then (
      let x3_31 : Int32 := x3 + 1
      rec4 x1 x2 x3_31 s)
    else (
      let x2_30 : Int32 := x2 ||| ((1 : Int32) <<< (x3 &&& 31))
      let x3_31 : Int32 := x3 + 1
      rec4 x1 x2_30 x3_31 s))
def l_X2_litAt_4  : Nat → Int32 → Int32 → Int32 → St → Option (Int32 × St)
  | 0 => fun _ _ _ _ => none
  | n + 1 => b_X2_litAt_4  (l_X2_litAt_4  n)
def f_X2_litAt (x1 : Int32) (s : St) : Option (Int32 × St) :=
  l_X2_litAt_4 FU x1 0 0 s
def j_X2_shownOf_70 (rec5 : Int32 → Int32 → Int32 → Int32 → St → Option (Int32 × St)) (x1 : Int32) (x2 : Int32) (x3 : Int32) (x4 : Int32) (t0 : Int32) (s : St) : Option (Int32 × St) :=
  if t0 = 0 then (
    let x4_101 : Int32 := x4 + 1
    rec5 x1 x2 x3 x4_101 s)
  else (
    bd (f_X10_hasBit x2 x4 s) fun r_80 s_80 =>
    if r_80 = 0 then (
      gi x4 8 <|
      let x3_100 : Int32 := x3 ||| ((1 : Int32) <<< ((rI s_80 15 x4.toNatClampNeg) &&& 31))
      let x4_101 : Int32 := x4 + 1
      rec5 x1 x2 x3_100 x4_101 s_80)
    else (
      let x4_101 : Int32 := x4 + 1
      rec5 x1 x2 x3 x4_101 s_80))
def b_X2_shownOf_5 (rec5 : Int32 → Int32 → Int32 → Int32 → St → Option (Int32 × St)) (x1 : Int32) (x2 : Int32) (x3 : Int32) (x4 : Int32) (s : St) : Option (Int32 × St) :=
  if (rI s 8 3) ≤ x4 then (
    some (x1 &&& (x3 ^^^ (-1)), s))
  else (
    gi x4 8 <|
    bd (f_X10_hasBit x1 (rI s 16 x4.toNatClampNeg) s) fun r_28 s_28 =>
    if r_28 = 0 then (
      j_X2_shownOf_70 rec5 x1 x2 x3 x4 0 s_28)
    else (
      gi x4 8 <|
      if (rI s_28 17 x4.toNatClampNeg) = (-1) then (
        j_X2_shownOf_70 rec5 x1 x2 x3 x4 1 s_28)
      else (
        gi x4 8 <|
        bd (f_X10_hasBit x1 (rI s_28 17 x4.toNatClampNeg) s_28) fun r_59 s_59 =>
        if r_59 = 0 then (
          j_X2_shownOf_70 rec5 x1 x2 x3 x4 1 s_59)
        else (
          j_X2_shownOf_70 rec5 x1 x2 x3 x4 0 s_59))))
def l_X2_shownOf_5  : Nat → Int32 → Int32 → Int32 → Int32 → St → Option (Int32 × St)
  | 0 => fun _ _ _ _ _ => none
  | n + 1 => b_X2_shownOf_5  (l_X2_shownOf_5  n)
def f_X2_shownOf (x1 : Int32) (x2 : Int32) (s : St) : Option (Int32 × St) :=
  l_X2_shownOf_5 FU x1 x2 0 0 s
def f_X10_board (x1 : Int32) (x2 : Int32) (x3 : Int32) (s : St) : Option (Int32 × St) :=
  bd (f_X10_isHeap x1 s) fun r_2 s_2 =>
  if r_2 = 0 then (
    some ((-1), s_2))
  else (
    bd (f_X10_isSecond x2 s_2) fun r_9 s_9 =>
    if r_9 = 0 then (
      some ((-1), s_9))
    else (
      if x3 < 0 then (
        some ((-1), s_9))
      else (
        if x3 ≤ 1 then (
          bd (f_X2_light x1 s_9) fun _ s_31 =>
          bd (f_X2_litAt x2 s_31) fun r_39 s_39 =>
          if x3 = 0 then (
            some (r_39, s_39))
          else (
            bd (f_X2_shownOf r_39 (rI s_39 32 4) s_39) fun r_66 s_66 =>
            some (r_66, s_66)))
        else (
          some ((-1), s_9)))))
def b_X11_litBits_4 (rec4 : Int32 → Int32 → Int32 → St → Option (Int32 × St)) (x1 : Int32) (x2 : Int32) (x3 : Int32) (s : St) : Option (Int32 × St) :=
  if (rI s 74 24) ≤ x3 then (
    some (x2, s))
  else (
    bd (f_X11_litAt x3 1 s) fun r_16 s_16 =>
    if x1 < r_16 then (
      let x2_31 : Int32 := x2 ||| 0
      let x3_32 : Int32 := x3 + 1
      rec4 x1 x2_31 x3_32 s_16)
    else (
      let x2_31 : Int32 := x2 ||| ((1 : Int32) <<< (x3 &&& 31))
      let x3_32 : Int32 := x3 + 1
      rec4 x1 x2_31 x3_32 s_16))
def l_X11_litBits_4  : Nat → Int32 → Int32 → Int32 → St → Option (Int32 × St)
  | 0 => fun _ _ _ _ => none
  | n + 1 => b_X11_litBits_4  (l_X11_litBits_4  n)
def f_X11_litBits (x1 : Int32) (s : St) : Option (Int32 × St) :=
  l_X11_litBits_4 FU x1 0 0 s
def j_X11_shown_94 (rec5 : Int32 → Int32 → Int32 → Int32 → St → Option (Int32 × St)) (x1 : Int32) (x2 : Int32) (x3 : Int32) (x4 : Int32) (t0 : Int32) (s : St) : Option (Int32 × St) :=
  if t0 = 0 then (
    let x4_117 : Int32 := x4 + 1
    rec5 x1 x2 x3 x4_117 s)
  else (
    gi (3 * x4) 24 <|
    let x3_116 : Int32 := x3 &&& (((1 : Int32) <<< ((rI s 92 (3 * x4).toNatClampNeg) &&& 31)) ^^^ (-1))
    let x4_117 : Int32 := x4 + 1
    rec5 x1 x2 x3_116 x4_117 s)
def b_X11_shown_5 (rec5 : Int32 → Int32 → Int32 → Int32 → St → Option (Int32 × St)) (x1 : Int32) (x2 : Int32) (x3 : Int32) (x4 : Int32) (s : St) : Option (Int32 × St) :=
  if (rI s 74 29) ≤ x4 then (
    some (x3, s))
  else (
    gi x4 8 <|
    if (rI s 93 x4.toNatClampNeg) = 0 then (
      if ((x2 >>> (x4 &&& 31)) &&& 1) = 1 then (
        let x4_117 : Int32 := x4 + 1
        rec5 x1 x2 x3 x4_117 s)
      else (
        gi ((3 * x4) + 1) 24 <|
        if ((x1 >>> ((rI s 92 ((3 * x4) + 1).toNatClampNeg) &&& 31)) &&& 1) = 1 then (
          gi ((3 * x4) + 2) 24 <|
          if (rI s 92 ((3 * x4) + 2).toNatClampNeg) = (-1) then (
            j_X11_shown_94 rec5 x1 x2 x3 x4 1 s)
          else (
            gi ((3 * x4) + 2) 24 <|
            if ((x1 >>> ((rI s 92 ((3 * x4) + 2).toNatClampNeg) &&& 31)) &&& 1) = 0 then (
              j_X11_shown_94 rec5 x1 x2 x3 x4 1 s)
            else (
              j_X11_shown_94 rec5 x1 x2 x3 x4 0 s)))
        else (
          j_X11_shown_94 rec5 x1 x2 x3 x4 0 s)))
    else (
      let x4_117 : Int32 := x4 + 1
      rec5 x1 x2 x3 x4_117 s))
def l_X11_shown_5  : Nat → Int32 → Int32 → Int32 → Int32 → St → Option (Int32 × St)
  | 0 => fun _ _ _ _ _ => none
  | n + 1 => b_X11_shown_5  (l_X11_shown_5  n)
def f_X11_shown (x1 : Int32) (x2 : Int32) (s : St) : Option (Int32 × St) :=
  l_X11_shown_5 FU x1 x2 x1 0 s
def f_X11_board (x1 : Int32) (x2 : Int32) (x3 : Int32) (s : St) : Option (Int32 × St) :=
  bd (f_X11_isHeap x1 s) fun r_2 s_2 =>
  if r_2 = 0 then (
    some ((-1), s_2))
  else (
    bd (f_X11_in x2 0 999 s_2) fun r_13 s_13 =>
    if r_13 = 0 then (
      some ((-1), s_13))
    else (
      bd (f_X11_in x3 0 1 s_13) fun r_22 s_22 =>
      if r_22 = 0 then (
        some ((-1), s_22))
      else (
        bd (f_X11_findFails x1 s_22) fun _ s_32 =>
        bd (f_X11_litBits x2 s_32) fun r_37 s_37 =>
        if x3 = 0 then (
          some (r_37, s_37))
        else (
          bd (f_X11_shown r_37 0 s_37) fun r_55 s_55 =>
          some (r_55, s_55)))))
def b_X6_load_2 (rec2 : Int32 → St → Option (Unit × St)) (x1 : Int32) (s : St) : Option (Unit × St) :=
  if (rI s 8 0) ≤ x1 then (
    some ((), s))
  else (
    bd (f_X2_light ((1 : Int32) <<< (x1 &&& 31)) s) fun _ s_20 =>
    bd (f_X2_litAt (rI s_20 42 4) s_20) fun r_36 s_36 =>
    gi x1 12 <|
    let s_39 : St := wI s_36 43 x1.toNatClampNeg r_36
    let x1_40 : Int32 := x1 + 1
    rec2 x1_40 s_39)
def l_X6_load_2  : Nat → Int32 → St → Option (Unit × St)
  | 0 => fun _ _ => none
  | n + 1 => b_X6_load_2  (l_X6_load_2  n)
def f_X6_load  (s : St) : Option (Unit × St) :=
  l_X6_load_2 FU 0 s
def b_X6_show_2 (rec2 : Int32 → Int32 → St → Option (Unit × St)) (x1 : Int32) (x2 : Int32) (s : St) : Option (Unit × St) :=
  if (rI s 8 0) ≤ x2 then (
    some ((), s))
  else (
    gi x2 12 <|
    bd (f_X2_shownOf (rI s 43 x2.toNatClampNeg) x1 s) fun r_29 s_29 =>
    gi x2 12 <|
    let s_32 : St := wI s_29 44 x2.toNatClampNeg r_29
    let x2_33 : Int32 := x2 + 1
    rec2 x1 x2_33 s_32)
def l_X6_show_2  : Nat → Int32 → Int32 → St → Option (Unit × St)
  | 0 => fun _ _ _ => none
  | n + 1 => b_X6_show_2  (l_X6_show_2  n)
def f_X6_show (x1 : Int32) (s : St) : Option (Unit × St) :=
  l_X6_show_2 FU x1 0 s
def b_X6_countAlike_17 (rec4 : Int32 → Int32 → St → Option (Int32 × St)) (rec17 : Int32 → Int32 → Int32 → St → Option (Int32 × St)) (x1 : Int32) (x2 : Int32) (x3 : Int32) (s : St) : Option (Int32 × St) :=
  if x2 ≤ x3 then (
    let x2_61 : Int32 := x2 + 1
    rec4 x1 x2_61 s)
  else (
    gi x2 12 <|
    gi x3 12 <|
    if (rI s 43 x2.toNatClampNeg) = (rI s 43 x3.toNatClampNeg) then (
      let x3_55 : Int32 := x3 + 1
      rec17 x1 x2 x3_55 s)
    else (
      gi x2 12 <|
      gi x3 12 <|
      if (rI s 44 x2.toNatClampNeg) = (rI s 44 x3.toNatClampNeg) then (
        let x1_52 : Int32 := x1 + 1
        let x3_55 : Int32 := x3 + 1
        rec17 x1_52 x2 x3_55 s)
      else (
        let x3_55 : Int32 := x3 + 1
        rec17 x1 x2 x3_55 s)))
def l_X6_countAlike_17 (rec4 : Int32 → Int32 → St → Option (Int32 × St)) : Nat → Int32 → Int32 → Int32 → St → Option (Int32 × St)
  | 0 => fun _ _ _ _ => none
  | n + 1 => b_X6_countAlike_17 rec4 (l_X6_countAlike_17 rec4 n)
def b_X6_countAlike_4 (rec4 : Int32 → Int32 → St → Option (Int32 × St)) (x1 : Int32) (x2 : Int32) (s : St) : Option (Int32 × St) :=
  if (rI s 8 0) ≤ x2 then (
    some (x1, s))
  else (
    l_X6_countAlike_17 rec4 FU x1 x2 0 s)
def l_X6_countAlike_4  : Nat → Int32 → Int32 → St → Option (Int32 × St)
  | 0 => fun _ _ _ => none
  | n + 1 => b_X6_countAlike_4  (l_X6_countAlike_4  n)
def f_X6_countAlike  (s : St) : Option (Int32 × St) :=
  l_X6_countAlike_4 FU 0 0 s
def b_X6_countLost_4 (rec4 : Int32 → Int32 → St → Option (Int32 × St)) (x1 : Int32) (x2 : Int32) (s : St) : Option (Int32 × St) :=
  if (rI s 8 0) ≤ x2 then (
    some (x1, s))
  else (
    gi x2 12 <|
    if (rI s 43 x2.toNatClampNeg) = 0 then (
      let x2_36 : Int32 := x2 + 1
      rec4 x1 x2_36 s)
    else (
      gi x2 12 <|
      if (rI s 44 x2.toNatClampNeg) = 0 then (
        let x1_33 : Int32 := x1 + 1
        let x2_36 : Int32 := x2 + 1
        rec4 x1_33 x2_36 s)
      else (
        let x2_36 : Int32 := x2 + 1
        rec4 x1 x2_36 s)))
def l_X6_countLost_4  : Nat → Int32 → Int32 → St → Option (Int32 × St)
  | 0 => fun _ _ _ => none
  | n + 1 => b_X6_countLost_4  (l_X6_countLost_4  n)
def f_X6_countLost  (s : St) : Option (Int32 × St) :=
  l_X6_countLost_4 FU 0 0 s
def f_X6_isClear (x1 : Int32) (s : St) : Option (Int32 × St) :=
  bd (f_X6_show ((rI s 32 4) ||| x1) s) fun _ s_10 =>
  bd (f_X6_countLost s_10) fun r_14 s_14 =>
  if r_14 = 0 then (
    bd (f_X6_countAlike s_14) fun r_21 s_21 =>
    if r_21 = 0 then (
      some (1, s_21))
    else (
      some (0, s_21)))
  else (
    some (0, s_14))
def b_X6_rulesToRest_7 (rec7 : Int32 → Int32 → Int32 → St → Option (Int32 × St)) (x1 : Int32) (x2 : Int32) (x3 : Int32) (s : St) : Option (Int32 × St) :=
  if ((1 : Int32) <<< ((rI s 8 3) &&& 31)) ≤ x3 then (
    some (x1, s))
  else (
    if (x3 &&& (rI s 32 4)) = 0 then (
      bd (f_J6_bitCount_0f7a4 x3 s) fun r_33 s_33 =>
      if x2 ≤ r_33 then (
        let x3_55 : Int32 := x3 + 1
        rec7 x1 x2 x3_55 s_33)
      else (
        bd (f_X6_isClear x3 s_33) fun r_42 s_42 =>
        if r_42 = 0 then (
          let x3_55 : Int32 := x3 + 1
          rec7 x1 x2 x3_55 s_42)
        else (
          bd (f_J6_bitCount_0f7a4 x3 s_42) fun r_51 s_51 =>
          let x3_55 : Int32 := x3 + 1
          rec7 x3 r_51 x3_55 s_51)))
    else (
      let x3_55 : Int32 := x3 + 1
      rec7 x1 x2 x3_55 s))
def l_X6_rulesToRest_7  : Nat → Int32 → Int32 → Int32 → St → Option (Int32 × St)
  | 0 => fun _ _ _ _ => none
  | n + 1 => b_X6_rulesToRest_7  (l_X6_rulesToRest_7  n)
def f_X6_rulesToRest  (s : St) : Option (Int32 × St) :=
  l_X6_rulesToRest_7 FU 0 9 0 s
def f_X10_harm (x1 : Int32) (s : St) : Option (Int32 × St) :=
  if x1 < 0 then (
    some ((-1), s))
  else (
    if 2 < x1 then (
      some ((-1), s))
    else (
      bd (f_X10_hasPlant s) fun r_10 s_10 =>
      if r_10 = 0 then (
        some ((-1), s_10))
      else (
        bd (f_X6_load s_10) fun _ s_22 =>
        if x1 = 2 then (
          bd (f_X6_rulesToRest s_22) fun r_34 s_34 =>
          some (r_34, s_34))
        else (
          bd (f_X6_show (rI s_22 32 4) s_22) fun _ s_49 =>
          if x1 = 0 then (
            bd (f_X6_countLost s_49) fun r_60 s_60 =>
            some (r_60, s_60))
          else (
            bd (f_X6_countAlike s_49) fun r_70 s_70 =>
            some (r_70, s_70))))))
def b_X11_findSigns_2 (rec2 : Int32 → St → Option (Unit × St)) (x1 : Int32) (s : St) : Option (Unit × St) :=
  if (rI s 74 18) ≤ x1 then (
    some ((), s))
  else (
    bd (f_X11_findFails ((1 : Int32) <<< (x1 &&& 31)) s) fun _ s_14 =>
    bd (f_X11_litBits (rI s_14 74 36) s_14) fun r_27 s_27 =>
    gi x1 12 <|
    let s_30 : St := wI s_27 99 x1.toNatClampNeg r_27
    let x1_31 : Int32 := x1 + 1
    rec2 x1_31 s_30)
def l_X11_findSigns_2  : Nat → Int32 → St → Option (Unit × St)
  | 0 => fun _ _ => none
  | n + 1 => b_X11_findSigns_2  (l_X11_findSigns_2  n)
def f_X11_findSigns  (s : St) : Option (Unit × St) :=
  l_X11_findSigns_2 FU 0 s
def b_X11_lost_4 (rec4 : Int32 → Int32 → Int32 → St → Option (Int32 × St)) (x1 : Int32) (x2 : Int32) (x3 : Int32) (s : St) : Option (Int32 × St) :=
  if (rI s 74 18) ≤ x3 then (
    some (x2, s))
  else (
    gi x3 12 <|
    if (rI s 99 x3.toNatClampNeg) = 0 then (
      let x2_42 : Int32 := x2 + 0
      let x3_43 : Int32 := x3 + 1
      rec4 x1 x2_42 x3_43 s)
    else (
      gi x3 12 <|
      bd (f_X11_shown (rI s 99 x3.toNatClampNeg) x1 s) fun r_30 s_30 =>
      if r_30 = 0 then (
        let x2_42 : Int32 := x2 + 1
        let x3_43 : Int32 := x3 + 1
        rec4 x1 x2_42 x3_43 s_30)
      else (
        let x2_42 : Int32 := x2 + 0
        let x3_43 : Int32 := x3 + 1
        rec4 x1 x2_42 x3_43 s_30)))
def l_X11_lost_4  : Nat → Int32 → Int32 → Int32 → St → Option (Int32 × St)
  | 0 => fun _ _ _ _ => none
  | n + 1 => b_X11_lost_4  (l_X11_lost_4  n)
def f_X11_lost (x1 : Int32) (s : St) : Option (Int32 × St) :=
  l_X11_lost_4 FU x1 0 0 s
def b_X11_alike_15 (rec4 : Int32 → Int32 → Int32 → St → Option (Int32 × St)) (rec15 : Int32 → Int32 → Int32 → Int32 → St → Option (Int32 × St)) (x1 : Int32) (x2 : Int32) (x3 : Int32) (x4 : Int32) (s : St) : Option (Int32 × St) :=
  if x3 ≤ x4 then (
    let x3_77 : Int32 := x3 + 1
    rec4 x1 x2 x3_77 s)
  else (
    gi x3 12 <|
    gi x4 12 <|
    if (rI s 99 x3.toNatClampNeg) = (rI s 99 x4.toNatClampNeg) then (
      let x2_70 : Int32 := x2 + 0
      let x4_71 : Int32 := x4 + 1
      rec15 x1 x2_70 x3 x4_71 s)
    else (
      gi x3 12 <|
      bd (f_X11_shown (rI s 99 x3.toNatClampNeg) x1 s) fun r_46 s_46 =>
      gi x4 12 <|
      bd (f_X11_shown (rI s_46 99 x4.toNatClampNeg) x1 s_46) fun r_58 s_58 =>
      if r_46 = r_58 then (
        let x2_70 : Int32 := x2 + 1
        let x4_71 : Int32 := x4 + 1
        rec15 x1 x2_70 x3 x4_71 s_58)
      else (
        let x2_70 : Int32 := x2 + 0
        let x4_71 : Int32 := x4 + 1
        rec15 x1 x2_70 x3 x4_71 s_58)))
def l_X11_alike_15 (rec4 : Int32 → Int32 → Int32 → St → Option (Int32 × St)) : Nat → Int32 → Int32 → Int32 → Int32 → St → Option (Int32 × St)
  | 0 => fun _ _ _ _ _ => none
  | n + 1 => b_X11_alike_15 rec4 (l_X11_alike_15 rec4 n)
def b_X11_alike_4 (rec4 : Int32 → Int32 → Int32 → St → Option (Int32 × St)) (x1 : Int32) (x2 : Int32) (x3 : Int32) (s : St) : Option (Int32 × St) :=
  if (rI s 74 18) ≤ x3 then (
    some (x2, s))
  else (
    l_X11_alike_15 rec4 FU x1 x2 x3 0 s)
def l_X11_alike_4  : Nat → Int32 → Int32 → Int32 → St → Option (Int32 × St)
  | 0 => fun _ _ _ _ => none
  | n + 1 => b_X11_alike_4  (l_X11_alike_4  n)
def f_X11_alike (x1 : Int32) (s : St) : Option (Int32 × St) :=
  l_X11_alike_4 FU x1 0 0 s
def j_X11_harm_125 (rec87 : Int32 → Int32 → Int32 → St → Option (Int32 × St)) (x2 : Int32) (x3 : Int32) (x4 : Int32) (s : St) : Option (Int32 × St) :=
  bd (f_X11_lost x4 s) fun r_128 s_128 =>
  if r_128 = 0 then (
    bd (f_X11_alike x4 s_128) fun r_137 s_137 =>
    if r_137 = 0 then (
      let x4_146 : Int32 := x4 + 1
      rec87 x2 x4 x4_146 s_137)
    else (
      let x4_146 : Int32 := x4 + 1
      rec87 x2 x3 x4_146 s_137))
  else (
    let x4_146 : Int32 := x4 + 1
    rec87 x2 x3 x4_146 s_128)
def b_X11_harm_87 (rec87 : Int32 → Int32 → Int32 → St → Option (Int32 × St)) (x2 : Int32) (x3 : Int32) (x4 : Int32) (s : St) : Option (Int32 × St) :=
  if ((1 : Int32) <<< ((rI s 74 29) &&& 31)) ≤ x4 then (
    some (x3, s))
  else (
    if (x4 &&& x2) = 0 then (
      if x3 = (-1) then (
        j_X11_harm_125 rec87 x2 x3 x4 s)
      else (
        bd (f_X11_ones x4 s) fun r_112 s_112 =>
        bd (f_X11_ones x3 s_112) fun r_116 s_116 =>
        if r_112 < r_116 then (
          j_X11_harm_125 rec87 x2 x3 x4 s_116)
        else (
          let x4_146 : Int32 := x4 + 1
          rec87 x2 x3 x4_146 s_116)))
    else (
      let x4_146 : Int32 := x4 + 1
      rec87 x2 x3 x4_146 s))
def l_X11_harm_87  : Nat → Int32 → Int32 → Int32 → St → Option (Int32 × St)
  | 0 => fun _ _ _ _ => none
  | n + 1 => b_X11_harm_87  (l_X11_harm_87  n)
def b_X11_harm_49 (rec49 : Int32 → Int32 → St → Option (Int32 × St)) (x2 : Int32) (x3 : Int32) (s : St) : Option (Int32 × St) :=
  if (rI s 74 29) ≤ x3 then (
    l_X11_harm_87 FU x2 (-1) 0 s)
  else (
    gi x3 8 <|
    if (rI s 93 x3.toNatClampNeg) = 0 then (
      let x2_75 : Int32 := x2 ||| 0
      let x3_76 : Int32 := x3 + 1
      rec49 x2_75 x3_76 s)
    else (
      let x2_75 : Int32 := x2 ||| ((1 : Int32) <<< (x3 &&& 31))
      let x3_76 : Int32 := x3 + 1
      rec49 x2_75 x3_76 s))
def l_X11_harm_49  : Nat → Int32 → Int32 → St → Option (Int32 × St)
  | 0 => fun _ _ _ => none
  | n + 1 => b_X11_harm_49  (l_X11_harm_49  n)
def f_X11_harm (x1 : Int32) (s : St) : Option (Int32 × St) :=
  if (rI s 74 18) = 0 then (
    some ((-1), s))
  else (
    bd (f_X11_in x1 0 2 s) fun r_10 s_10 =>
    if r_10 = 0 then (
      some ((-1), s_10))
    else (
      bd (f_X11_findSigns s_10) fun _ s_19 =>
      if 2 ≤ x1 then (
        l_X11_harm_49 FU 0 0 s_19)
      else (
        if x1 = 0 then (
          bd (f_X11_lost 0 s_19) fun r_33 s_33 =>
          some (r_33, s_33))
        else (
          bd (f_X11_alike 0 s_19) fun r_41 s_41 =>
          some (r_41, s_41)))))
def f_X0_swap (x1 : Int32) (x2 : Int32) (s : St) : Option (Unit × St) :=
  gi x1 12 <|
  let x3_6 : Int32 := rI s 46 x1.toNatClampNeg
  gi x2 12 <|
  gi x1 12 <|
  let s_18 : St := wI s 46 x1.toNatClampNeg (rI s 46 x2.toNatClampNeg)
  gi x2 12 <|
  let s_25 : St := wI s_18 46 x2.toNatClampNeg x3_6
  some ((), s_25)
def f_X10_change (x1 : Int32) (x2 : Int32) (s : St) : Option (Int32 × St) :=
  bd (f_X10_isWindow x1 s) fun r_2 s_2 =>
  if r_2 = 0 then (
    some (0, s_2))
  else (
    bd (f_X10_isWindow x2 s_2) fun r_10 s_10 =>
    if r_10 = 0 then (
      some (0, s_10))
    else (
      if x1 = x2 then (
        some (0, s_10))
      else (
        bd (f_X0_swap x1 x2 s_10) fun _ s_29 =>
        some (1, s_29))))
def b_X11_windowAt_2 (rec2 : Int32 → Int32 → St → Option (Int32 × St)) (x1 : Int32) (x2 : Int32) (s : St) : Option (Int32 × St) :=
  if (rI s 74 24) ≤ x2 then (
    some (x2, s))
  else (
    gi x2 12 <|
    if (rI s 91 x2.toNatClampNeg) = x1 then (
      some (x2, s))
    else (
      let x2_20 : Int32 := x2 + 1
      rec2 x1 x2_20 s))
def l_X11_windowAt_2  : Nat → Int32 → Int32 → St → Option (Int32 × St)
  | 0 => fun _ _ _ => none
  | n + 1 => b_X11_windowAt_2  (l_X11_windowAt_2  n)
def f_X11_windowAt (x1 : Int32) (s : St) : Option (Int32 × St) :=
  l_X11_windowAt_2 FU x1 0 s
def f_X11_swaps (x1 : Int32) (x2 : Int32) (s : St) : Option (Unit × St) :=
  bd (f_X11_windowAt x1 s) fun r_2 s_2 =>
  bd (f_X11_windowAt x2 s_2) fun r_8 s_8 =>
  gi r_2 12 <|
  let s_19 : St := wI s_8 91 r_2.toNatClampNeg x2
  gi r_8 12 <|
  let s_27 : St := wI s_19 91 r_8.toNatClampNeg x1
  some ((), s_27)
def f_X11_change (x1 : Int32) (x2 : Int32) (s : St) : Option (Int32 × St) :=
  bd (f_X11_isWindow x1 s) fun r_2 s_2 =>
  if r_2 = 0 then (
    some (0, s_2))
  else (
    bd (f_X11_isWindow x2 s_2) fun r_10 s_10 =>
    if r_10 = 0 then (
      some (0, s_10))
    else (
      if x1 = x2 then (
        some (0, s_10))
      else (
        bd (f_X11_swaps x1 x2 s_10) fun _ s_26 =>
        some (1, s_26))))
def f_X10_isPace (x0 : Int32) (s : St) : Option (Int32 × St) :=
  if x0 < 1 then (
    some (0, s))
  else (
    if 30 < x0 then (
      some (0, s))
    else (
      some (1, s)))
def b_X2_stuckLit_4 (rec4 : Int32 → Int32 → St → Option (Int32 × St)) (x1 : Int32) (x2 : Int32) (s : St) : Option (Int32 × St) :=
  if (rI s 8 2) ≤ x2 then (
    some (x1, s))
  else (
    gi x2 12 <|
    if (rI s 33 x2.toNatClampNeg) = 1 then (
      let x1_30 : Int32 := x1 ||| ((1 : Int32) <<< (x2 &&& 31))
      let x2_31 : Int32 := x2 + 1
      rec4 x1_30 x2_31 s)
    else (
      let x2_31 : Int32 := x2 + 1
      rec4 x1 x2_31 s))
def l_X2_stuckLit_4  : Nat → Int32 → Int32 → St → Option (Int32 × St)
  | 0 => fun _ _ _ => none
  | n + 1 => b_X2_stuckLit_4  (l_X2_stuckLit_4  n)
def f_X2_stuckLit  (s : St) : Option (Int32 × St) :=
  l_X2_stuckLit_4 FU 0 0 s
def b_X2_nextChange_5 (rec5 : Int32 → Int32 → Int32 → St → Option (Int32 × St)) (x1 : Int32) (x2 : Int32) (x3 : Int32) (s : St) : Option (Int32 × St) :=
  if (rI s 8 2) ≤ x3 then (
    some (x2, s))
  else (
    gi x3 12 <|
    if (rI s 34 x3.toNatClampNeg) ≤ x1 then (
      let x3_37 : Int32 := x3 + 1
      rec5 x1 x2 x3_37 s)
    else (
      gi x3 12 <|
      let x2_36 : Int32 := jmin x2 (rI s 34 x3.toNatClampNeg)
      let x3_37 : Int32 := x3 + 1
      rec5 x1 x2_36 x3_37 s))
def l_X2_nextChange_5  : Nat → Int32 → Int32 → Int32 → St → Option (Int32 × St)
  | 0 => fun _ _ _ _ => none
  | n + 1 => b_X2_nextChange_5  (l_X2_nextChange_5  n)
def f_X2_nextChange (x1 : Int32) (s : St) : Option (Int32 × St) :=
  l_X2_nextChange_5 FU x1 1000000 0 s
def b_X0_setStages_4 (rec4 : Int32 → Int32 → Int32 → St → Option (Unit × St)) (x1 : Int32) (x2 : Int32) (x3 : Int32) (s : St) : Option (Unit × St) :=
  if 13 ≤ x2 then (
    gi x1 12 <|
    let s_76 : St := wI s 49 x1.toNatClampNeg x2
    some ((), s_76))
  else (
    if 1000000 ≤ x3 then (
      gi x1 12 <|
      let s_76 : St := wI s 49 x1.toNatClampNeg x2
      some ((), s_76))
    else (
      gi x1 12 <|
      gi x2 13 <|
      let s_24 : St := wI s (50 + x1.toNatClampNeg) x2.toNatClampNeg x3
      gi x1 12 <|
      bd (f_X2_litAt x3 s_24) fun r_41 s_41 =>
      bd (f_X2_shownOf r_41 (rI s_41 32 4) s_41) fun r_51 s_51 =>
      gi x2 13 <|
      let s_54 : St := wI s_51 (62 + x1.toNatClampNeg) x2.toNatClampNeg r_51
      let x2_55 : Int32 := x2 + 1
      bd (f_X2_nextChange x3 s_54) fun r_63 s_63 =>
      rec4 x1 x2_55 r_63 s_63))
def l_X0_setStages_4  : Nat → Int32 → Int32 → Int32 → St → Option (Unit × St)
  | 0 => fun _ _ _ _ => none
  | n + 1 => b_X0_setStages_4  (l_X0_setStages_4  n)
def f_X0_setStages (x1 : Int32) (s : St) : Option (Unit × St) :=
  l_X0_setStages_4 FU x1 0 0 s
def b_X0_prepare_20 (rec20 : Int32 → St → Option (Unit × St)) (x1 : Int32) (s : St) : Option (Unit × St) :=
  if (rI s 8 0) ≤ x1 then (
    some ((), s))
  else (
    bd (f_X2_light ((1 : Int32) <<< (x1 &&& 31)) s) fun _ s_38 =>
    bd (f_X0_setStages x1 s_38) fun _ s_43 =>
    let x1_46 : Int32 := x1 + 1
    rec20 x1_46 s_43)
def l_X0_prepare_20  : Nat → Int32 → St → Option (Unit × St)
  | 0 => fun _ _ => none
  | n + 1 => b_X0_prepare_20  (l_X0_prepare_20  n)
def f_X0_prepare  (s : St) : Option (Unit × St) :=
  bd (f_X6_load s) fun _ s_4 =>
  bd (f_X2_stuckLit s_4) fun r_12 s_12 =>
  let s_15 : St := wI s_12 45 7 r_12
  l_X0_prepare_20 FU 0 s_15
def b_X0_stageBy_3 (rec3 : Int32 → Int32 → Int32 → St → Option (Int32 × St)) (x1 : Int32) (x3 : Int32) (x4 : Int32) (s : St) : Option (Int32 × St) :=
  gi x1 12 <|
  if (rI s 49 x1.toNatClampNeg) ≤ (x4 + 1) then (
    some (x4, s))
  else (
    gi x1 12 <|
    gi (x4 + 1) 13 <|
    if x3 < (rI s (50 + x1.toNatClampNeg) (x4 + 1).toNatClampNeg) then (
      some (x4, s))
    else (
      let x4_31 : Int32 := x4 + 1
      rec3 x1 x3 x4_31 s))
def l_X0_stageBy_3  : Nat → Int32 → Int32 → Int32 → St → Option (Int32 × St)
  | 0 => fun _ _ _ _ => none
  | n + 1 => b_X0_stageBy_3  (l_X0_stageBy_3  n)
def f_X0_stageBy (x1 : Int32) (x2 : Int32) (x3 : Int32) (s : St) : Option (Int32 × St) :=
  l_X0_stageBy_3 FU x1 x3 x2 s
def b_X0_nearest_2 (rec2 : Int32 → Int32 → St → Option (Int32 × St)) (x1 : Int32) (x2 : Int32) (s : St) : Option (Int32 × St) :=
  if (rI s 8 2) ≤ x2 then (
    some (0, s))
  else (
    gi x2 12 <|
    bd (f_X10_hasBit x1 (rI s 46 x2.toNatClampNeg) s) fun r_20 s_20 =>
    if r_20 = 0 then (
      let x2_33 : Int32 := x2 + 1
      rec2 x1 x2_33 s_20)
    else (
      gi x2 12 <|
      some (rI s_20 46 x2.toNatClampNeg, s_20)))
def l_X0_nearest_2  : Nat → Int32 → Int32 → St → Option (Int32 × St)
  | 0 => fun _ _ _ => none
  | n + 1 => b_X0_nearest_2  (l_X0_nearest_2  n)
def f_X0_nearest (x1 : Int32) (s : St) : Option (Int32 × St) :=
  l_X0_nearest_2 FU x1 0 s
def b_X0_countMayBe_4 (rec4 : Int32 → Int32 → Int32 → St → Option (Int32 × St)) (x1 : Int32) (x2 : Int32) (x3 : Int32) (s : St) : Option (Int32 × St) :=
  if (rI s 8 0) ≤ x3 then (
    some (x2, s))
  else (
    gi x3 12 <|
    if (x1 &&& ((rI s 43 x3.toNatClampNeg) ^^^ (-1))) = 0 then (
      let x2_31 : Int32 := x2 + 1
      let x3_34 : Int32 := x3 + 1
      rec4 x1 x2_31 x3_34 s)
    else (
      let x3_34 : Int32 := x3 + 1
      rec4 x1 x2 x3_34 s))
def l_X0_countMayBe_4  : Nat → Int32 → Int32 → Int32 → St → Option (Int32 × St)
  | 0 => fun _ _ _ _ => none
  | n + 1 => b_X0_countMayBe_4  (l_X0_countMayBe_4  n)
def f_X0_countMayBe (x1 : Int32) (s : St) : Option (Int32 × St) :=
  l_X0_countMayBe_4 FU x1 0 0 s
def b_X0_tell_11 (rec11 : Int32 → Int32 → Int32 → Int32 → Int32 → Int32 → St → Option (Int32 × St)) (x1 : Int32) (x2 : Int32) (x3 : Int32) (x4 : Int32) (x5 : Int32) (x6 : Int32) (s : St) : Option (Int32 × St) :=
  if 25 ≤ x6 then (
    some ((-1), s))
  else (
    bd (f_X0_stageBy x1 x4 x3 s) fun r_23 s_23 =>
    gi x1 12 <|
    gi r_23 13 <|
    let x7_42 : Int32 := (rI s_23 (62 + x1.toNatClampNeg) r_23.toNatClampNeg) &&& (x5 ^^^ (-1))
    if x7_42 = 0 then (
      gi x1 12 <|
      if (rI s_23 49 x1.toNatClampNeg) ≤ (r_23 + 1) then (
        some ((-1), s_23))
      else (
        gi x1 12 <|
        gi (r_23 + 1) 13 <|
        let x3_122 : Int32 := rI s_23 (50 + x1.toNatClampNeg) (r_23 + 1).toNatClampNeg
        let x6_128 : Int32 := x6 + 1
        rec11 x1 x2 x3_122 r_23 x5 x6_128 s_23))
    else (
      let x3_52 : Int32 := x3 + x2
      bd (f_X0_nearest x7_42 s_23) fun r_59 s_59 =>
      let x5_64 : Int32 := x5 ||| ((1 : Int32) <<< (r_59 &&& 31))
      if x3_52 ≤ (rI s_59 42 4) then (
        bd (f_X0_countMayBe (x5_64 &&& ((rI s_59 45 7) ^^^ (-1))) s_59) fun r_89 s_89 =>
        if r_89 = 1 then (
          some (x3_52, s_89))
        else (
          let x6_128 : Int32 := x6 + 1
          rec11 x1 x2 x3_52 r_23 x5_64 x6_128 s_89))
      else (
        some ((-1), s_59))))
def l_X0_tell_11  : Nat → Int32 → Int32 → Int32 → Int32 → Int32 → Int32 → St → Option (Int32 × St)
  | 0 => fun _ _ _ _ _ _ _ => none
  | n + 1 => b_X0_tell_11  (l_X0_tell_11  n)
def f_X0_tell (x1 : Int32) (x2 : Int32) (s : St) : Option (Int32 × St) :=
  l_X0_tell_11 FU x1 x2 0 0 0 0 s
def f_X10_told (x1 : Int32) (x2 : Int32) (s : St) : Option (Int32 × St) :=
  bd (f_X10_isPoint x1 s) fun r_2 s_2 =>
  if r_2 = 0 then (
    some ((-1), s_2))
  else (
    bd (f_X10_isPace x2 s_2) fun r_9 s_9 =>
    if r_9 = 0 then (
      some ((-1), s_9))
    else (
      bd (f_X0_prepare s_9) fun _ s_21 =>
      bd (f_X0_tell x1 x2 s_21) fun r_30 s_30 =>
      some (r_30, s_30)))
def b_X11_findShown_23 (rec6 : Int32 → St → Option (Unit × St)) (rec23 : Int32 → Int32 → St → Option (Unit × St)) (x1 : Int32) (x2 : Int32) (s : St) : Option (Unit × St) :=
  if (rI s 74 36) < x2 then (
    let x1_59 : Int32 := x1 + 1
    rec6 x1_59 s)
  else (
    bd (f_X11_litBits x2 s) fun r_45 s_45 =>
    bd (f_X11_shown r_45 0 s_45) fun r_49 s_49 =>
    gi ((601 * x1) + x2) 7212 <|
    let s_52 : St := wI s_49 100 ((601 * x1) + x2).toNatClampNeg r_49
    let x2_53 : Int32 := x2 + 1
    rec23 x1 x2_53 s_52)
def l_X11_findShown_23 (rec6 : Int32 → St → Option (Unit × St)) : Nat → Int32 → Int32 → St → Option (Unit × St)
  | 0 => fun _ _ _ => none
  | n + 1 => b_X11_findShown_23 rec6 (l_X11_findShown_23 rec6 n)
def b_X11_findShown_6 (rec6 : Int32 → St → Option (Unit × St)) (x1 : Int32) (s : St) : Option (Unit × St) :=
  if (rI s 74 18) ≤ x1 then (
    some ((), s))
  else (
    bd (f_X11_findFails ((1 : Int32) <<< (x1 &&& 31)) s) fun _ s_18 =>
    l_X11_findShown_23 rec6 FU x1 0 s_18)
def l_X11_findShown_6  : Nat → Int32 → St → Option (Unit × St)
  | 0 => fun _ _ => none
  | n + 1 => b_X11_findShown_6  (l_X11_findShown_6  n)
def f_X11_findShown  (s : St) : Option (Unit × St) :=
  bd (f_X11_findSigns s) fun _ s_1 =>
  l_X11_findShown_6 FU 0 s_1
def b_X11_mayBe_41 (rec41 : Int32 → Int32 → Int32 → St → Option (Int32 × St)) (x2 : Int32) (x3 : Int32) (x4 : Int32) (s : St) : Option (Int32 × St) :=
  if (rI s 74 18) ≤ x4 then (
    some (x3, s))
  else (
    gi x4 12 <|
    if ((rI s 99 x4.toNatClampNeg) &&& x2) = x2 then (
      let x3_70 : Int32 := x3 + 1
      let x4_71 : Int32 := x4 + 1
      rec41 x2 x3_70 x4_71 s)
    else (
      let x3_70 : Int32 := x3 + 0
      let x4_71 : Int32 := x4 + 1
      rec41 x2 x3_70 x4_71 s))
def l_X11_mayBe_41  : Nat → Int32 → Int32 → Int32 → St → Option (Int32 × St)
  | 0 => fun _ _ _ _ => none
  | n + 1 => b_X11_mayBe_41  (l_X11_mayBe_41  n)
def b_X11_mayBe_4 (rec4 : Int32 → Int32 → St → Option (Int32 × St)) (x2 : Int32) (x3 : Int32) (s : St) : Option (Int32 × St) :=
  if (rI s 74 24) ≤ x3 then (
    l_X11_mayBe_41 FU x2 0 0 s)
  else (
    gi x3 12 <|
    if (rI s 90 x3.toNatClampNeg) = 1 then (
      let x2_29 : Int32 := x2 &&& (((1 : Int32) <<< (x3 &&& 31)) ^^^ (-1))
      let x3_30 : Int32 := x3 + 1
      rec4 x2_29 x3_30 s)
    else (
      let x3_30 : Int32 := x3 + 1
      rec4 x2 x3_30 s))
def l_X11_mayBe_4  : Nat → Int32 → Int32 → St → Option (Int32 × St)
  | 0 => fun _ _ _ => none
  | n + 1 => b_X11_mayBe_4  (l_X11_mayBe_4  n)
def f_X11_mayBe (x1 : Int32) (s : St) : Option (Int32 × St) :=
  l_X11_mayBe_4 FU x1 0 s
def b_X11_toldAt_50 (rec5 : Int32 → Int32 → Int32 → Int32 → St → Option (Int32 × St)) (rec50 : Int32 → Int32 → Int32 → Int32 → Int32 → Int32 → Int32 → St → Option (Int32 × St)) (x1 : Int32) (x2 : Int32) (x3 : Int32) (x4 : Int32) (x5 : Int32) (x6 : Int32) (x7 : Int32) (s : St) : Option (Int32 × St) :=
  if (rI s 74 24) ≤ x7 then (
    let x3_109 : Int32 := x3 ||| ((1 : Int32) <<< (x6 &&& 31))
    let x4_114 : Int32 := x4 + x2
    if (rI s 74 36) < x4_114 then (
      rec5 x1 x2 x3_109 x4_114 s)
    else (
      bd (f_X11_mayBe x3_109 s) fun r_127 s_127 =>
      if r_127 = 1 then (
        some (x4_114, s_127))
      else (
        rec5 x1 x2 x3_109 x4_114 s_127)))
  else (
    if ((x5 >>> (x7 &&& 31)) &&& 1) = 1 then (
      if x6 = (-1) then (
        let x7_97 : Int32 := x7 + 1
        rec50 x1 x2 x3 x4 x5 x7 x7_97 s)
      else (
        gi x7 12 <|
        gi x6 12 <|
        if (rI s 91 x6.toNatClampNeg) ≤ (rI s 91 x7.toNatClampNeg) then (
          let x7_97 : Int32 := x7 + 1
          rec50 x1 x2 x3 x4 x5 x6 x7_97 s)
        else (
          let x7_97 : Int32 := x7 + 1
          rec50 x1 x2 x3 x4 x5 x7 x7_97 s)))
    else (
      let x7_97 : Int32 := x7 + 1
      rec50 x1 x2 x3 x4 x5 x6 x7_97 s))
def l_X11_toldAt_50 (rec5 : Int32 → Int32 → Int32 → Int32 → St → Option (Int32 × St)) : Nat → Int32 → Int32 → Int32 → Int32 → Int32 → Int32 → Int32 → St → Option (Int32 × St)
  | 0 => fun _ _ _ _ _ _ _ _ => none
  | n + 1 => b_X11_toldAt_50 rec5 (l_X11_toldAt_50 rec5 n)
def b_X11_toldAt_5 (rec5 : Int32 → Int32 → Int32 → Int32 → St → Option (Int32 × St)) (x1 : Int32) (x2 : Int32) (x3 : Int32) (x4 : Int32) (s : St) : Option (Int32 × St) :=
  if (rI s 74 36) < x4 then (
    some ((-1), s))
  else (
    gi ((601 * x1) + x4) 7212 <|
    let x5_31 : Int32 := (rI s 100 ((601 * x1) + x4).toNatClampNeg) &&& (x3 ^^^ (-1))
    if x5_31 = 0 then (
      let x4_38 : Int32 := x4 + 1
      rec5 x1 x2 x3 x4_38 s)
    else (
      l_X11_toldAt_50 rec5 FU x1 x2 x3 x4 x5_31 (-1) 0 s))
def l_X11_toldAt_5  : Nat → Int32 → Int32 → Int32 → Int32 → St → Option (Int32 × St)
  | 0 => fun _ _ _ _ _ => none
  | n + 1 => b_X11_toldAt_5  (l_X11_toldAt_5  n)
def f_X11_toldAt (x1 : Int32) (x2 : Int32) (s : St) : Option (Int32 × St) :=
  l_X11_toldAt_5 FU x1 x2 0 0 s
def f_X11_told (x1 : Int32) (x2 : Int32) (s : St) : Option (Int32 × St) :=
  bd (f_X11_isPoint x1 s) fun r_2 s_2 =>
  if r_2 = 0 then (
    some ((-1), s_2))
  else (
    bd (f_X11_in x2 1 30 s_2) fun r_12 s_12 =>
    if r_12 = 0 then (
      some ((-1), s_12))
    else (
      bd (f_X11_findShown s_12) fun _ s_21 =>
      bd (f_X11_toldAt x1 x2 s_21) fun r_27 s_27 =>
      some (r_27, s_27)))
def b_X0_sum_4 (rec4 : Int32 → Int32 → Int32 → St → Option (Int32 × St)) (x1 : Int32) (x2 : Int32) (x3 : Int32) (s : St) : Option (Int32 × St) :=
  if (rI s 8 0) ≤ x3 then (
    some (x2, s))
  else (
    bd (f_X0_tell x3 x1 s) fun r_18 s_18 =>
    if r_18 = (-1) then (
      let x2_43 : Int32 := x2 + (rI s_18 42 4)
      let x3_44 : Int32 := x3 + 1
      rec4 x1 x2_43 x3_44 s_18)
    else (
      let x2_43 : Int32 := x2 + r_18
      let x3_44 : Int32 := x3 + 1
      rec4 x1 x2_43 x3_44 s_18))
def l_X0_sum_4  : Nat → Int32 → Int32 → Int32 → St → Option (Int32 × St)
  | 0 => fun _ _ _ _ => none
  | n + 1 => b_X0_sum_4  (l_X0_sum_4  n)
def f_X0_sum (x1 : Int32) (s : St) : Option (Int32 × St) :=
  l_X0_sum_4 FU x1 0 0 s
def b_X0_seekChange_36 (rec21 : Int32 → Int32 → St → Option (Unit × St)) (rec36 : Int32 → Int32 → Int32 → St → Option (Unit × St)) (x1 : Int32) (x2 : Int32) (x3 : Int32) (s : St) : Option (Unit × St) :=
  if (rI s 8 2) ≤ x3 then (
    let x2_97 : Int32 := x2 + 1
    rec21 x1 x2_97 s)
  else (
    bd (f_X0_swap x2 x3 s) fun _ s_50 =>
    bd (f_X0_sum x1 s_50) fun r_55 s_55 =>
    bd (f_X0_swap x2 x3 s_55) fun _ s_63 =>
    if (rI s_63 45 10) ≤ r_55 then (
      let x3_91 : Int32 := x3 + 1
      rec36 x1 x2 x3_91 s_63)
    else (
      let s_77 : St := wI s_63 45 8 x2
      let s_82 : St := wI s_77 45 9 x3
      let s_88 : St := wI s_82 45 10 r_55
      let x3_91 : Int32 := x3 + 1
      rec36 x1 x2 x3_91 s_88))
def l_X0_seekChange_36 (rec21 : Int32 → Int32 → St → Option (Unit × St)) : Nat → Int32 → Int32 → Int32 → St → Option (Unit × St)
  | 0 => fun _ _ _ _ => none
  | n + 1 => b_X0_seekChange_36 rec21 (l_X0_seekChange_36 rec21 n)
def b_X0_seekChange_21 (rec21 : Int32 → Int32 → St → Option (Unit × St)) (x1 : Int32) (x2 : Int32) (s : St) : Option (Unit × St) :=
  if (rI s 8 2) ≤ x2 then (
    some ((), s))
  else (
    let x3_35 : Int32 := x2 + 1
    l_X0_seekChange_36 rec21 FU x1 x2 x3_35 s)
def l_X0_seekChange_21  : Nat → Int32 → Int32 → St → Option (Unit × St)
  | 0 => fun _ _ _ => none
  | n + 1 => b_X0_seekChange_21  (l_X0_seekChange_21  n)
def f_X0_seekChange (x1 : Int32) (s : St) : Option (Unit × St) :=
  let s_2 : St := wI s 45 8 (-1)
  let s_7 : St := wI s_2 45 9 (-1)
  bd (f_X0_sum x1 s_7) fun r_13 s_13 =>
  let s_16 : St := wI s_13 45 10 r_13
  l_X0_seekChange_21 FU x1 0 s_16
def f_X10_wall (x1 : Int32) (x2 : Int32) (s : St) : Option (Int32 × St) :=
  if x2 < 0 then (
    some ((-1), s))
  else (
    if 3 < x2 then (
      some ((-1), s))
    else (
      bd (f_X10_isPace x1 s) fun r_10 s_10 =>
      if r_10 = 0 then (
        some ((-1), s_10))
      else (
        bd (f_X10_hasPlant s_10) fun r_17 s_17 =>
        if r_17 = 0 then (
          some ((-1), s_17))
        else (
          bd (f_X0_prepare s_17) fun _ s_29 =>
          if x2 = 0 then (
            bd (f_X0_sum x1 s_29) fun r_41 s_41 =>
            some (r_41, s_41))
          else (
            bd (f_X0_seekChange x1 s_29) fun _ s_50 =>
            if (rI s_50 45 8) = (-1) then (
              some ((-1), s_50))
            else (
              if x2 = 1 then (
                some (rI s_50 45 8, s_50))
              else
              if x2 = 2 then (
                some (rI s_50 45 9, s_50))
              else
              (
                some (rI s_50 45 10, s_50))))))))
def b_X11_sum_4 (rec4 : Int32 → Int32 → Int32 → St → Option (Int32 × St)) (x1 : Int32) (x2 : Int32) (x3 : Int32) (s : St) : Option (Int32 × St) :=
  if (rI s 74 18) ≤ x3 then (
    some (x2, s))
  else (
    bd (f_X11_toldAt x3 x1 s) fun r_15 s_15 =>
    if r_15 = (-1) then (
      let x2_37 : Int32 := x2 + (rI s_15 74 36)
      let x3_38 : Int32 := x3 + 1
      rec4 x1 x2_37 x3_38 s_15)
    else (
      let x2_37 : Int32 := x2 + r_15
      let x3_38 : Int32 := x3 + 1
      rec4 x1 x2_37 x3_38 s_15))
def l_X11_sum_4  : Nat → Int32 → Int32 → Int32 → St → Option (Int32 × St)
  | 0 => fun _ _ _ _ => none
  | n + 1 => b_X11_sum_4  (l_X11_sum_4  n)
def f_X11_sum (x1 : Int32) (s : St) : Option (Int32 × St) :=
  l_X11_sum_4 FU x1 0 0 s
def b_X11_wall_71 (rec56 : Int32 → Int32 → Int32 → Int32 → Int32 → Int32 → St → Option (Int32 × St)) (rec71 : Int32 → Int32 → Int32 → Int32 → Int32 → Int32 → Int32 → St → Option (Int32 × St)) (x1 : Int32) (x2 : Int32) (x4 : Int32) (x5 : Int32) (x6 : Int32) (x7 : Int32) (x8 : Int32) (s : St) : Option (Int32 × St) :=
  if (rI s 74 24) ≤ x8 then (
    let x7_131 : Int32 := x7 + 1
    rec56 x1 x2 x4 x5 x6 x7_131 s)
  else (
    bd (f_X11_swaps x7 x8 s) fun _ s_85 =>
    bd (f_X11_sum x1 s_85) fun r_90 s_90 =>
    bd (f_X11_swaps x7 x8 s_90) fun _ s_100 =>
    if r_90 < x4 then (
      let x8_125 : Int32 := x8 + 1
      rec71 x1 x2 r_90 x7 x8 x7 x8_125 s_100)
    else (
      let x8_125 : Int32 := x8 + 1
      rec71 x1 x2 x4 x5 x6 x7 x8_125 s_100))
def l_X11_wall_71 (rec56 : Int32 → Int32 → Int32 → Int32 → Int32 → Int32 → St → Option (Int32 × St)) : Nat → Int32 → Int32 → Int32 → Int32 → Int32 → Int32 → Int32 → St → Option (Int32 × St)
  | 0 => fun _ _ _ _ _ _ _ _ => none
  | n + 1 => b_X11_wall_71 rec56 (l_X11_wall_71 rec56 n)
def b_X11_wall_56 (rec56 : Int32 → Int32 → Int32 → Int32 → Int32 → Int32 → St → Option (Int32 × St)) (x1 : Int32) (x2 : Int32) (x4 : Int32) (x5 : Int32) (x6 : Int32) (x7 : Int32) (s : St) : Option (Int32 × St) :=
  if (rI s 74 24) ≤ x7 then (
    if x5 = (-1) then (
      some ((-1), s))
    else (
      if x2 = 1 then (
        some (x5, s))
      else (
        if x2 = 2 then (
          some (x6, s))
        else (
          some (x4, s)))))
  else (
    let x8_69 : Int32 := x7 + 1
    l_X11_wall_71 rec56 FU x1 x2 x4 x5 x6 x7 x8_69 s)
def l_X11_wall_56  : Nat → Int32 → Int32 → Int32 → Int32 → Int32 → Int32 → St → Option (Int32 × St)
  | 0 => fun _ _ _ _ _ _ _ => none
  | n + 1 => b_X11_wall_56  (l_X11_wall_56  n)
def f_X11_wall (x1 : Int32) (x2 : Int32) (s : St) : Option (Int32 × St) :=
  if (rI s 74 18) = 0 then (
    some ((-1), s))
  else (
    bd (f_X11_in x1 1 30 s) fun r_11 s_11 =>
    if r_11 = 0 then (
      some ((-1), s_11))
    else (
      bd (f_X11_in x2 0 3 s_11) fun r_20 s_20 =>
      if r_20 = 0 then (
        some ((-1), s_20))
      else (
        bd (f_X11_findShown s_20) fun _ s_29 =>
        bd (f_X11_sum x1 s_29) fun r_34 s_34 =>
        if x2 = 0 then (
          some (r_34, s_34))
        else (
          l_X11_wall_56 FU x1 x2 r_34 (-1) (-1) 0 s_34))))
def b_X2_countStuck_4 (rec4 : Int32 → Int32 → St → Option (Int32 × St)) (x1 : Int32) (x2 : Int32) (s : St) : Option (Int32 × St) :=
  if (rI s 8 2) ≤ x2 then (
    some (x1, s))
  else (
    gi x2 12 <|
    if (rI s 33 x2.toNatClampNeg) = 0 then (
      let x2_27 : Int32 := x2 + 1
      rec4 x1 x2_27 s)
    else (
      let x1_24 : Int32 := x1 + 1
      let x2_27 : Int32 := x2 + 1
      rec4 x1_24 x2_27 s))
def l_X2_countStuck_4  : Nat → Int32 → Int32 → St → Option (Int32 × St)
  | 0 => fun _ _ _ => none
  | n + 1 => b_X2_countStuck_4  (l_X2_countStuck_4  n)
def f_X2_countStuck  (s : St) : Option (Int32 × St) :=
  l_X2_countStuck_4 FU 0 0 s
def f_X10_count (x1 : Int32) (s : St) : Option (Int32 × St) :=
  if x1 = 0 then (
    some (rI s 8 0, s))
  else
  if x1 = 1 then (
    some (rI s 8 1, s))
  else
  if x1 = 2 then (
    some (rI s 8 2, s))
  else
  if x1 = 3 then (
    some (rI s 8 3, s))
  else
  if x1 = 4 then (
    some (rI s 35 2, s))
  else
  if x1 = 5 then (
    bd (f_J6_bitCount_0f7a4 (rI s 32 4) s) fun r_95 s_95 =>
    some (r_95, s_95))
  else
  if x1 = 6 then (
    bd (f_X2_countStuck s) fun r_103 s_103 =>
    some (r_103, s_103))
  else
  if x1 = 7 then (
    some (rI s 1 1, s))
  else
  (
    some ((-1), s))
def b_X11_count_75 (rec75 : Int32 → Int32 → St → Option (Int32 × St)) (x2 : Int32) (x3 : Int32) (s : St) : Option (Int32 × St) :=
  if (rI s 74 29) ≤ x3 then (
    some (x2, s))
  else (
    gi x3 8 <|
    if (rI s 93 x3.toNatClampNeg) = 0 then (
      let x2_99 : Int32 := x2 + 0
      let x3_100 : Int32 := x3 + 1
      rec75 x2_99 x3_100 s)
    else (
      let x2_99 : Int32 := x2 + 1
      let x3_100 : Int32 := x3 + 1
      rec75 x2_99 x3_100 s))
def l_X11_count_75  : Nat → Int32 → Int32 → St → Option (Int32 × St)
  | 0 => fun _ _ _ => none
  | n + 1 => b_X11_count_75  (l_X11_count_75  n)
def b_X11_count_110 (rec110 : Int32 → Int32 → St → Option (Int32 × St)) (x2 : Int32) (x3 : Int32) (s : St) : Option (Int32 × St) :=
  if (rI s 74 24) ≤ x3 then (
    some (x2, s))
  else (
    gi x3 12 <|
    if (rI s 90 x3.toNatClampNeg) = 0 then (
      let x2_134 : Int32 := x2 + 0
      let x3_135 : Int32 := x3 + 1
      rec110 x2_134 x3_135 s)
    else (
      let x2_134 : Int32 := x2 + 1
      let x3_135 : Int32 := x3 + 1
      rec110 x2_134 x3_135 s))
def l_X11_count_110  : Nat → Int32 → Int32 → St → Option (Int32 × St)
  | 0 => fun _ _ _ => none
  | n + 1 => b_X11_count_110  (l_X11_count_110  n)
def f_X11_count (x1 : Int32) (s : St) : Option (Int32 × St) :=
  if x1 = 0 then (
    some (rI s 74 18, s))
  else
  if x1 = 1 then (
    some (rI s 74 20, s))
  else
  if x1 = 2 then (
    some (rI s 74 24, s))
  else
  if x1 = 3 then (
    some (rI s 74 29, s))
  else
  if x1 = 4 then (
    some (rI s 74 32, s))
  else
  if x1 = 5 then (
    l_X11_count_75 FU 0 0 s)
  else
  if x1 = 6 then (
    l_X11_count_110 FU 0 0 s)
  else
  if x1 = 7 then (
    some (rI s 74 1, s))
  else
  (
    some ((-1), s))
