/-! String constants: their rows, String.length() and String.charAt(i) -/
theorem v_kval {X : CX} {cc : ByteArray} {nL fr lo : Nat} {st : St} {pc : Nat} {L : List (Nat × Value)} {S : List Value} {k1 : Nat} (C : Cx X "java/lang/String" cc nL fr lo) (hk : k1 < nS) (d : decode cc pc = .ok (.getfield 9, 3)) (k : V X st (pc + 3) L (.ref (wV (xw X) k1) :: S)) : V X st pc L (.ref (wK (xw X) k1) :: S) := by
  obtain ⟨p, l, e, R, s, m, args, below, meth, c, Q, A, cn, sn, w⟩ := X
  obtain ⟨hx, hb, hml, hown, hts, hK, hD, hA, hfr, hlo, hcn, hsn⟩ := C
  intro H locs ls hP hS hl
  exact vk_getf (own := "java/lang/String") (ref := "java/lang/String") hx hb (hK.2.1 k1 hk).2.2.1 hS hown (hts _ (TW_of 1445 (by decide +kernel) (by decide +kernel))) (fun _ h => h) d (k H locs ls hP hS hl)
theorem v_kcod {X : CX} {cc : ByteArray} {nL fr lo : Nat} {st : St} {pc : Nat} {L : List (Nat × Value)} {S : List Value} {k1 : Nat} (C : Cx X "java/lang/String" cc nL fr lo) (hk : k1 < nS) (d : decode cc pc = .ok (.getfield 15, 3)) (k : V X st (pc + 3) L (.int 0 :: S)) : V X st pc L (.ref (wK (xw X) k1) :: S) := by
  obtain ⟨p, l, e, R, s, m, args, below, meth, c, Q, A, cn, sn, w⟩ := X
  obtain ⟨hx, hb, hml, hown, hts, hK, hD, hA, hfr, hlo, hcn, hsn⟩ := C
  intro H locs ls hP hS hl
  exact vk_getf (own := "java/lang/String") (ref := "java/lang/String") hx hb (hK.2.1 k1 hk).2.1 hS hown (hts _ (TW_of 1446 (by decide +kernel) (by decide +kernel))) (fun _ h => h) d (k H locs ls hP hS hl)
theorem v_klen {X : CX} {own : String} {cc : ByteArray} {nL fr lo : Nat} {st : St} {pc : Nat} {L : List (Nat × Value)} {S : List Value} {k1 : Nat} (C : Cx X own cc nL fr lo) (hk : k1 < nS) (d : decode cc pc = .ok (.arraylength, 1)) (k : V X st (pc + 1) L (.int (nI (lenS.getD k1 0)) :: S)) : V X st pc L (.ref (wV (xw X) k1) :: S) := by
  obtain ⟨p, l, e, R, s, m, args, below, meth, c, Q, A, cn, sn, w⟩ := X
  obtain ⟨hx, hb, hml, hown, hts, hK, hD, hA, hfr, hlo, hcn, hsn⟩ := C
  intro H locs ls hP hS hl
  exact va_tlen hx hb (hK.2.1 k1 hk).2.2.2 hS rfl d (k H locs ls hP hS hl)
theorem v_kald {X : CX} {own : String} {cc : ByteArray} {nL fr lo : Nat} {st : St} {pc : Nat} {L : List (Nat × Value)} {S : List Value} {k1 : Nat} {i : Int32} (C : Cx X own cc nL fr lo) (hk : k1 < nS) (hin : vp_in i (lenS.getD k1 0)) (d : decode cc pc = .ok (.baload, 1)) (k : V X st (pc + 1) L (.int ((bytS.getD k1 []).getD i.toNatClampNeg 0) :: S)) : V X st pc L (.int i :: .ref (wV (xw X) k1) :: S) := by
  obtain ⟨p, l, e, R, s, m, args, below, meth, c, Q, A, cn, sn, w⟩ := X
  obtain ⟨hx, hb, hml, hown, hts, hK, hD, hA, hfr, hlo, hcn, hsn⟩ := C
  intro H locs ls hP hS hl
  exact va_tb hx hb (hK.2.1 k1 hk).2.2.2 hS hin rfl d (k H locs ls hP hS hl)
theorem v_cstr {X : CX} {cc : ByteArray} {nL fr lo : Nat} {st : St} {pc : Nat} {L : List (Nat × Value)} {S : List Value} (C : Cx X "java/lang/String" cc nL fr lo) (d : decode cc pc = .ok (.getstatic 38, 3)) (k : V X st (pc + 3) L (.int 1 :: S)) : V X st pc L S := by
  obtain ⟨p, l, e, R, s, m, args, below, meth, c, Q, A, cn, sn, w⟩ := X
  obtain ⟨hx, hb, hml, hown, hts, hK, hD, hA, hfr, hlo, hcn, hsn⟩ := C
  intro H locs ls hP hS hl
  exact va_gets (own := "java/lang/String") (ref := "java/lang/String") hx hb hK.2.2.2.2.1 hS hown (hts _ (TW_of 553 (by decide +kernel) (by decide +kernel))) (fun _ h => h) d (k H locs ls hP hS hl)
theorem v_sio {X : CX} {cc : ByteArray} {nL fr lo : Nat} {st : St} {pc : Nat} {L : List (Nat × Value)} {S : List Value} (C : Cx X "java/lang/String" cc nL fr lo) (d : decode cc pc = .ok (.getstatic 1053, 3)) (k : ∀ o : Option Nat, V X st (pc + 3) L (va_rf o :: S)) : V X st pc L S := by
  obtain ⟨p, l, e, R, s, m, args, below, meth, c, Q, A, cn, sn, w⟩ := X
  obtain ⟨hx, hb, hml, hown, hts, hK, hD, hA, hfr, hlo, hcn, hsn⟩ := C
  intro H locs ls hP hS hl
  rcases hK.2.2.2.2.2 with hz | ⟨t, hz⟩
  · exact va_gets (own := "java/lang/String") (ref := "jdk/internal/util/Preconditions") hx hb hz hS hown (hts _ (TW_of 569 (by decide +kernel) (by decide +kernel))) (fun _ h => h) d (k none H locs ls hP hS hl)
  · exact va_gets (own := "java/lang/String") (ref := "jdk/internal/util/Preconditions") hx hb hz hS hown (hts _ (TW_of 569 (by decide +kernel) (by decide +kernel))) (fun _ h => h) d (k (some t) H locs ls hP hS hl)
theorem v_pop {X : CX} {own : String} {cc : ByteArray} {nL fr lo : Nat} {st : St} {pc : Nat} {L : List (Nat × Value)} {S : List Value} {a : Int32} (C : Cx X own cc nL fr lo) (d : decode cc pc = .ok (.pop, 1)) (k : V X st (pc + 1) L S) : V X st pc L (.int a :: S) := by
  obtain ⟨p, l, e, R, s, m, args, below, meth, c, Q, A, cn, sn, w⟩ := X
  obtain ⟨hx, hb, hml, hown, hts, hK, hD, hA, hfr, hlo, hcn, hsn⟩ := C
  intro H locs ls hP hS hl
  exact lv_pop hx hb d rfl (k H locs ls hP hS hl)
set_option maxHeartbeats 4000000 in
theorem v_callK {X : CX} {own : String} {cc : ByteArray} {nL fr lo : Nat} {st : St} {pc : Nat} {L : List (Nat × Value)} {stk : List Value} {st1 : St} {y : MethodName} {cy : ByteArray} {nLy fry loy idx n k1 : Nat} {ret : Option FieldType} {Af : Wp → List Value} {v : Option Value} (S : List Value) (C : Cx X own cc nL fr lo) (hm : Ct y cy nLy ret fry loy (fun w => .ref (wK w k1) :: Af w) st v st1) (mw : MwV y cy nLy ret n) (hk : k1 < nS) (hyc : y.cls = "java/lang/String") (lk : Cond.methodLink own idx y ∈ TW) (hR : fry + 1 ≤ fr ∧ 8 + (nLy + 11) + loy ≤ lo) (hn : (Af (xw X)).length = n) (hS8 : (S.map fun v => v.category).sum ≤ 8) (hst : stk = (Af (xw X)).reverse ++ .ref (wK (xw X) k1) :: S) (d : decode cc pc = .ok (.invokevirtual idx, 3)) (k : V X st1 (pc + 3) L (v.toList ++ S)) : V X st pc L stk := by
  obtain ⟨p, l, e, R, s, m, args, below, meth, c, Q, A, cn, sn, w⟩ := X
  obtain ⟨hx, hb, hml, hown, hts, hK, hD, hA, hfr, hlo, hcn, hsn⟩ := C
  intro H locs ls hP hS hl
  subst hst
  have hG : GoodIn TW (.code y cy nLy ret :: TW) := fun z hz => by
    rcases List.mem_cons.mp hz with e1 | e1
    · rw [e1]; exact ⟨mw.1, TW_good mw.1⟩
    · exact ⟨e1, TW_good e1⟩
  obtain ⟨m1, m2, m3, m4, m5, m6, m7⟩ := mw
  have cw : CallW R s args own y.cls idx y cy nLy ret (.code y cy nLy ret :: TW) { frames := fry, cells := 0, slots := 0, locals := loy } 0 0 n := ⟨callB_of n hts hG rfl rfl rfl (hts _ m2) (hts _ lk) ⟨m5, m6, m7⟩ (by rw [hfr, hlo]; exact hR), hts _ m3, hts _ m4⟩
  have hrec : ∃ cell : Cell, H[wK w k1]? = some cell ∧ cell.vm.isStatics = false ∧ s.vm.findClass y.cls = some cell.cls := by
    obtain ⟨cell, h1, h2, h3, -⟩ := (hK.2.1 k1 hk).1.kept hS.2.1
    exact ⟨cell, h1, h2, by rw [hyc]; exact h3⟩
  refine v_go (va_runV (As := Af w) (rest := S) (nL := nL) ⟨hx, hb, hml, hown, hts⟩ (hm l w H.size) cw ⟨Pc_blind, hrec, fun U hU hW => Pc_ok hP hK hD hA hS U hU hW⟩ rfl hn (by rw [← hml]; exact hl.1) rfl (lv_room hS8) d ⟨hcn, hsn⟩) hS (fun q _ h => A_in hD hA hS q h) (A_in hD hA hS) (fun H1 locs1 hP1 hS1 => k H1 locs1 ls hP1 hS1 hl)
theorem mw_strlen : MwV yJ0_length_8abf5 cJ0_length_8abf5 1 (some .int) 0 := ⟨TW_of 548 (by decide +kernel) (by decide +kernel), TW_of 82 (by decide +kernel) (by decide +kernel), TW_of 546 (by decide +kernel) (by decide +kernel), TW_of 547 (by decide +kernel) (by decide +kernel), by decide +kernel, by decide +kernel, by decide +kernel⟩
theorem mw_coder : MwV yJ0_coder_7d493 cJ0_coder_7d493 1 (some .byte) 0 := ⟨TW_of 552 (by decide +kernel) (by decide +kernel), TW_of 82 (by decide +kernel) (by decide +kernel), TW_of 550 (by decide +kernel) (by decide +kernel), TW_of 551 (by decide +kernel) (by decide +kernel), by decide +kernel, by decide +kernel, by decide +kernel⟩
theorem mw_strat : MwV yJ0_charAt_5068e cJ0_charAt_5068e 2 (some .char) 1 := ⟨TW_of 558 (by decide +kernel) (by decide +kernel), TW_of 82 (by decide +kernel) (by decide +kernel), TW_of 556 (by decide +kernel) (by decide +kernel), TW_of 557 (by decide +kernel) (by decide +kernel), by decide +kernel, by decide +kernel, by decide +kernel⟩
theorem mw_latin : MwV yJ0_isLatin1_aae02 cJ0_isLatin1_aae02 1 (some .boolean) 0 := ⟨TW_of 562 (by decide +kernel) (by decide +kernel), TW_of 82 (by decide +kernel) (by decide +kernel), TW_of 560 (by decide +kernel) (by decide +kernel), TW_of 561 (by decide +kernel) (by decide +kernel), by decide +kernel, by decide +kernel, by decide +kernel⟩
theorem mw_latat : MwS yJ1_charAt_3b067 cJ1_charAt_3b067 2 (some .char) 2 := ⟨TW_of 565 (by decide +kernel) (by decide +kernel), TW_of 83 (by decide +kernel) (by decide +kernel), TW_of 564 (by decide +kernel) (by decide +kernel), by decide +kernel, by decide +kernel, by decide +kernel⟩
theorem mw_chk : MwS yJ0_checkIndex_df160 cJ0_checkIndex_df160 2 none 2 := ⟨TW_of 568 (by decide +kernel) (by decide +kernel), TW_of 82 (by decide +kernel) (by decide +kernel), TW_of 567 (by decide +kernel) (by decide +kernel), by decide +kernel, by decide +kernel, by decide +kernel⟩
theorem mw_pre : MwS yJ3_checkIndex_8e157 cJ3_checkIndex_8e157 3 (some .int) 3 := ⟨TW_of 573 (by decide +kernel) (by decide +kernel), TW_of 84 (by decide +kernel) (by decide +kernel), TW_of 572 (by decide +kernel) (by decide +kernel), by decide +kernel, by decide +kernel, by decide +kernel⟩
theorem t_coder {k1 : Nat} {s : St} (hk : k1 < nS) : Ct yJ0_coder_7d493 cJ0_coder_7d493 1 (some .byte) 0 0 (fun w => [.ref (wK w k1)]) s (some (.int 0)) s := by
  refine Ct.ofI (by decide +kernel) (fun w => Nat.le_of_ble_eq_true rfl) (fun X C R1 => ?_)
  show V X s 0 [(0, .ref (wK (xw X) k1))] []
  have C : Cx X "java/lang/String" cJ0_coder_7d493 1 0 0 := C
  refine v_cstr C dJ0_coder_7d493_0 ?_
  refine v_if_eq 13 C dJ0_coder_7d493_3 (by decide) (fun c => ?_) (fun c => ?_)
  · exact absurd c (by decide)
  · refine v_aload_n 0 C dJ0_coder_7d493_6 rfl ?_
    refine v_kcod C hk dJ0_coder_7d493_7 ?_
    refine v_goto 14 C dJ0_coder_7d493_10 (by decide) ?_
    exact v_iret R1 rfl dJ0_coder_7d493_14
theorem t_latin {k1 : Nat} {s : St} (hk : k1 < nS) : Ct yJ0_isLatin1_aae02 cJ0_isLatin1_aae02 1 (some .boolean) 0 0 (fun w => [.ref (wK w k1)]) s (some (.int 1)) s := by
  refine Ct.ofI (by decide +kernel) (fun w => Nat.le_of_ble_eq_true rfl) (fun X C R1 => ?_)
  show V X s 0 [(0, .ref (wK (xw X) k1))] []
  have C : Cx X "java/lang/String" cJ0_isLatin1_aae02 1 0 0 := C
  refine v_cstr C dJ0_isLatin1_aae02_0 ?_
  refine v_if_eq 17 C dJ0_isLatin1_aae02_3 (by decide) (fun c => ?_) (fun c => ?_)
  · exact absurd c (by decide)
  · refine v_aload_n 0 C dJ0_isLatin1_aae02_6 rfl ?_
    refine v_kcod C hk dJ0_isLatin1_aae02_7 ?_
    refine v_if_ne 17 C dJ0_isLatin1_aae02_10 (by decide) (fun c => ?_) (fun c => ?_)
    · exact absurd rfl c
    · refine v_iconst C dJ0_isLatin1_aae02_13 ic_1 ?_
      refine v_goto 18 C dJ0_isLatin1_aae02_14 (by decide) ?_
      exact v_iret R1 rfl dJ0_isLatin1_aae02_18
theorem str_shr : ∀ k, k < nS → (nI (lenS.getD k 0)) >>> ((0 : Int32) &&& 31) = nI (lenS.getD k 0) := by decide +kernel
theorem str_chr : ∀ k, k < nS → ∀ j, j < lenS.getD k 0 → (((bytS.getD k []).getD j 0 &&& 255).toUInt32 % 65536).toInt32 = (bytS.getD k []).getD j 0 := by decide +kernel
theorem str_nar : ∀ k, k < nS → ∀ j, j < lenS.getD k 0 → vp_nar .char ((bytS.getD k []).getD j 0) = (bytS.getD k []).getD j 0 := by decide +kernel
theorem str_lenlt : ∀ k, k < nS → lenS.getD k 0 < 12 := by decide +kernel
theorem t_strLen {k1 : Nat} {s fin : St} {r : Int32} (h : strLen k1 s = some (r, fin)) : Ct yJ0_length_8abf5 cJ0_length_8abf5 1 (some .int) 3 90 (fun w => [.ref (wK w k1)]) s (some (.int r)) fin := by
  unfold strLen at h
  by_cases hk : k1 < nS
  · rw [if_pos hk] at h
    cases h
    refine Ct.ofI (by decide +kernel) (fun w => Nat.le_of_ble_eq_true rfl) (fun X C R1 => ?_)
    show V X s 0 [(0, .ref (wK (xw X) k1))] []
    have C : Cx X "java/lang/String" cJ0_length_8abf5 1 3 90 := C
    refine v_aload_n 0 C dJ0_length_8abf5_0 rfl ?_
    refine v_kval C hk dJ0_length_8abf5_1 ?_
    refine v_klen C hk dJ0_length_8abf5_4 ?_
    refine v_aload_n 0 C dJ0_length_8abf5_5 rfl ?_
    refine v_callK (v := some (.int 0)) [_] C (t_coder (s := s) hk) mw_coder hk rfl (TW_of 549 (by decide +kernel) (by decide +kernel)) ⟨by decide, by decide⟩ rfl (Nat.le_of_ble_eq_true rfl) rfl dJ0_length_8abf5_6 ?_
    show V X s 9 _ [.int 0, .int (nI (lenS.getD k1 0))]
    refine v_ishr C dJ0_length_8abf5_9 ?_
    rw [str_shr k1 hk]
    exact v_iret R1 rfl dJ0_length_8abf5_10
  · rw [if_neg hk] at h
    cases h
theorem t_pre {i n : Int32} {o : Option Nat} {s : St} (h0 : ¬ i < 0) (h1 : i < n) : Ct yJ3_checkIndex_8e157 cJ3_checkIndex_8e157 3 (some .int) 0 0 (fun _ => [.int i, .int n, va_rf o]) s (some (.int i)) s := by
  refine Ct.ofI (by decide +kernel) (fun w => ?_) (fun X C R1 => ?_)
  · cases o <;> exact Nat.le_of_ble_eq_true rfl
  · have C : Cx X "jdk/internal/util/Preconditions" cJ3_checkIndex_8e157 3 0 0 := C
    have K : V X s 0 [(0, .int i), (1, .int n)] [] := by
      refine v_iload_n 0 C dJ3_checkIndex_8e157_0 rfl ?_
      refine v_if_lt 9 C dJ3_checkIndex_8e157_1 (by decide) (fun c => absurd c h0) (fun c => ?_)
      refine v_iload_n 0 C dJ3_checkIndex_8e157_4 rfl ?_
      refine v_iload_n 1 C dJ3_checkIndex_8e157_5 rfl ?_
      refine v_icmp_lt 16 C dJ3_checkIndex_8e157_6 (by decide) (fun c => ?_) (fun c => absurd h1 c)
      refine v_iload_n 0 C dJ3_checkIndex_8e157_16 rfl ?_
      exact v_iret R1 rfl dJ3_checkIndex_8e157_17
    exact v_sub [0, 1] rfl K
theorem t_chk {i n : Int32} {s : St} (h0 : ¬ i < 0) (h1 : i < n) : Ct yJ0_checkIndex_df160 cJ0_checkIndex_df160 2 none 1 30 (fun _ => [.int i, .int n]) s none s := by
  refine Ct.ofV (by decide +kernel) (fun w => Nat.le_of_ble_eq_true rfl) (fun X C R1 => ?_)
  show V X s 0 [(0, .int i), (1, .int n)] []
  have C : Cx X "java/lang/String" cJ0_checkIndex_df160 2 1 30 := C
  refine v_iload_n 0 C dJ0_checkIndex_df160_0 rfl ?_
  refine v_iload_n 1 C dJ0_checkIndex_df160_1 rfl ?_
  refine v_sio C dJ0_checkIndex_df160_2 (fun o => ?_)
  refine v_callSi [] C (t_pre (o := o) (s := s) h0 h1) mw_pre (TW_of 571 (by decide +kernel) (by decide +kernel)) ⟨by decide, by decide⟩ rfl (Nat.le_of_ble_eq_true rfl) rfl dJ0_checkIndex_df160_5 ?_
  refine v_pop C dJ0_checkIndex_df160_8 ?_
  exact v_vret R1 dJ0_checkIndex_df160_9
theorem t_latat {k1 : Nat} {i : Int32} {s : St} (hk : k1 < nS) (hin : vp_in i (lenS.getD k1 0)) : Ct yJ1_charAt_3b067 cJ1_charAt_3b067 2 (some .char) 2 60 (fun w => [.ref (wV w k1), .int i]) s (some (.int ((bytS.getD k1 []).getD i.toNatClampNeg 0))) s := by
  have hlt : i.toNatClampNeg < lenS.getD k1 0 := Nat.not_le.mp fun q => hin (Or.inr q)
  have hL := str_lenlt k1 hk
  have h0 : ¬ i < 0 := fun q => hin (Or.inl q)
  have h1 : i < nI (lenS.getD k1 0) := by
    obtain ⟨j, hj, rfl⟩ := vp_in_of hin (by omega)
    exact nI_lt hj (by omega)
  refine Ct.ofI (by decide +kernel) (fun w => Nat.le_of_ble_eq_true rfl) (fun X C R1 => ?_)
  show V X s 0 [(0, .ref (wV (xw X) k1)), (1, .int i)] []
  have C : Cx X "java/lang/StringLatin1" cJ1_charAt_3b067 2 2 60 := C
  refine v_iload_n 1 C dJ1_charAt_3b067_0 rfl ?_
  refine v_aload_n 0 C dJ1_charAt_3b067_1 rfl ?_
  refine v_klen C hk dJ1_charAt_3b067_2 ?_
  refine v_callSv [] C (t_chk (s := s) h0 h1) mw_chk (TW_of 566 (by decide +kernel) (by decide +kernel)) ⟨by decide, by decide⟩ rfl (Nat.le_of_ble_eq_true rfl) rfl dJ1_charAt_3b067_3 ?_
  refine v_aload_n 0 C dJ1_charAt_3b067_6 rfl ?_
  refine v_iload_n 1 C dJ1_charAt_3b067_7 rfl ?_
  refine v_kald C hk hin dJ1_charAt_3b067_8 ?_
  refine v_sipush C dJ1_charAt_3b067_9 (show (Int16.ofInt 255).toInt32 = 255 by decide) ?_
  refine v_iand C dJ1_charAt_3b067_12 ?_
  refine v_i2c C dJ1_charAt_3b067_13 ?_
  rw [str_chr k1 hk _ hlt]
  refine v_iret R1 ?_ dJ1_charAt_3b067_14
  exact congrArg Value.int (str_nar k1 hk _ hlt)
theorem t_strAt {k1 : Nat} {i : Int32} {s fin : St} {r : Int32} (h : strAt k1 i s = some (r, fin)) : Ct yJ0_charAt_5068e cJ0_charAt_5068e 2 (some .char) 3 90 (fun w => [.ref (wK w k1), .int i]) s (some (.int r)) fin := by
  unfold strAt at h
  by_cases hk : k1 < nS
  · rw [if_pos hk] at h
    obtain ⟨hin, h⟩ := gi_some h
    cases h
    have hlt : i.toNatClampNeg < lenS.getD k1 0 := Nat.not_le.mp fun q => hin (Or.inr q)
    refine Ct.ofI (by decide +kernel) (fun w => Nat.le_of_ble_eq_true rfl) (fun X C R1 => ?_)
    show V X s 0 [(0, .ref (wK (xw X) k1)), (1, .int i)] []
    have C : Cx X "java/lang/String" cJ0_charAt_5068e 2 3 90 := C
    refine v_aload_n 0 C dJ0_charAt_5068e_0 rfl ?_
    refine v_callK (v := some (.int 1)) [] C (t_latin (s := s) hk) mw_latin hk rfl (TW_of 559 (by decide +kernel) (by decide +kernel)) ⟨by decide, by decide⟩ rfl (Nat.le_of_ble_eq_true rfl) rfl dJ0_charAt_5068e_1 ?_
    show V X s 4 _ [.int 1]
    refine v_if_eq 16 C dJ0_charAt_5068e_4 (by decide) (fun c => ?_) (fun c => ?_)
    · exact absurd c (by decide)
    · refine v_aload_n 0 C dJ0_charAt_5068e_7 rfl ?_
      refine v_kval C hk dJ0_charAt_5068e_8 ?_
      refine v_iload_n 1 C dJ0_charAt_5068e_11 rfl ?_
      refine v_callSi [] C (t_latat (s := s) hk hin) mw_latat (TW_of 563 (by decide +kernel) (by decide +kernel)) ⟨by decide, by decide⟩ rfl (Nat.le_of_ble_eq_true rfl) rfl dJ0_charAt_5068e_12 ?_
      refine v_iret R1 ?_ dJ0_charAt_5068e_15
      exact congrArg Value.int (str_nar k1 hk _ hlt)
  · rw [if_neg hk] at h
    cases h
theorem strLen_lt {k1 : Nat} {s : St} {q : Int32 × St} (h : strLen k1 s = some q) : k1 < nS := by
  unfold strLen at h
  by_cases hk : k1 < nS
  · exact hk
  · rw [if_neg hk] at h; cases h
theorem strAt_lt {k1 : Nat} {i : Int32} {s : St} {q : Int32 × St} (h : strAt k1 i s = some q) : k1 < nS := by
  unfold strAt at h
  by_cases hk : k1 < nS
  · exact hk
  · rw [if_neg hk] at h; cases h
theorem v_strLen {X : CX} {own : String} {cc : ByteArray} {nL fr lo : Nat} {st : St} {pc : Nat} {L : List (Nat × Value)} {stk : List Value} {st1 : St} {idx k1 : Nat} {r : Int32} (S : List Value) (C : Cx X own cc nL fr lo) (e : strLen k1 st = some (r, st1)) (lk : Cond.methodLink own idx yJ0_length_8abf5 ∈ TW) (hR : 3 + 1 ≤ fr ∧ 8 + (1 + 11) + 90 ≤ lo) (hS8 : (S.map fun v => v.category).sum ≤ 8) (hst : stk = .ref (wK (xw X) k1) :: S) (d : decode cc pc = .ok (.invokevirtual idx, 3)) (k : V X st1 (pc + 3) L (.int r :: S)) : V X st pc L stk := v_callK (v := some (.int r)) (Af := fun _ => []) S C (t_strLen e) mw_strlen (strLen_lt e) rfl lk hR rfl hS8 hst d k
theorem v_strAt {X : CX} {own : String} {cc : ByteArray} {nL fr lo : Nat} {st : St} {pc : Nat} {L : List (Nat × Value)} {stk : List Value} {st1 : St} {idx k1 : Nat} {i r : Int32} (S : List Value) (C : Cx X own cc nL fr lo) (e : strAt k1 i st = some (r, st1)) (lk : Cond.methodLink own idx yJ0_charAt_5068e ∈ TW) (hR : 3 + 1 ≤ fr ∧ 8 + (2 + 11) + 90 ≤ lo) (hS8 : (S.map fun v => v.category).sum ≤ 8) (hst : stk = .int i :: .ref (wK (xw X) k1) :: S) (d : decode cc pc = .ok (.invokevirtual idx, 3)) (k : V X st1 (pc + 3) L (.int r :: S)) : V X st pc L stk := v_callK (v := some (.int r)) (Af := fun _ => [.int i]) S C (t_strAt e) mw_strat (strAt_lt e) rfl lk hR rfl hS8 hst d k
