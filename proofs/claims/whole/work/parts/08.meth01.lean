set_option maxRecDepth 4000 in
theorem t_X8_hasRoom {x1 s fin : _} {r : Int32} (h : f_X8_hasRoom x1 s = some (r, fin)) : Ct yX8_hasRoom cX8_hasRoom 2 (some .boolean) 0 0 (fun w => [.ref (wA w 1), .int x1]) s (some (.int r)) fin := by
  refine Ct.ofI (by decide +kernel) (fun w => Nat.le_of_ble_eq_true rfl) (fun X C R1 => ?_)
  show V X s 0 [(0, .ref (wA (xw X) 1)), (1, .int x1)] []
  have C : Cx X "LitWindows$Text" cX8_hasRoom 2 0 0 := C
  refine v_aload_n 0 C dX8_hasRoom_0 rfl ?_
  refine g_1_1 C wf_RX8_15 dX8_hasRoom_1 ?_
  refine v_iload_n 1 C dX8_hasRoom_4 rfl ?_
  refine v_iadd C dX8_hasRoom_5 ?_
  refine v_sipush C dX8_hasRoom_6 sp_600 ?_
  refine v_icmp_gt 16 C dX8_hasRoom_9 (by decide) (fun c => ?_) (fun c => ?_)
  · have h := if_t h c
    refine v_iconst C dX8_hasRoom_16 ic_0 ?_
    exact v_ireth h R1 rfl dX8_hasRoom_17
  · have h := if_f h c
    refine v_iconst C dX8_hasRoom_12 ic_1 ?_
    refine v_goto 17 C dX8_hasRoom_13 (by decide) ?_
    exact v_ireth h R1 rfl dX8_hasRoom_17
set_option maxRecDepth 4000 in
theorem tl_X8_addWord_3  {X : CX} {fin : St} (C : Cx X "LitWindows$Text" cX8_addWord 3 0 0) (R1 : RtV X cX8_addWord fin)  : ∀ (n : Nat) (x1 : Int32) (x2 : Int32) (s : St), l_X8_addWord_3  n x1 x2 s = some ((), fin) → V X s 3 [(0, .ref (wA (xw X) 1)), (1, .int x1), (2, .int x2)] [] := by
  intro n
  induction n with
  | zero => intro x1 x2 s h; exact none_no h
  | succ n hr3 =>
    intro x1 x2 s h
    have h : b_X8_addWord_3  (l_X8_addWord_3  n) x1 x2 s = some ((), fin) := h
    refine v_iload_n 2 C dX8_addWord_3 rfl ?_
    refine v_if_lt 46 C dX8_addWord_4 (by decide) (fun c => ?_) (fun c => ?_)
    · have h := if_t h c
      exact v_vreth h R1 dX8_addWord_46
    · have h := if_f h c
      refine v_aload_n 0 C dX8_addWord_7 rfl ?_
      refine g_1_1 C wf_RX8_15 dX8_addWord_8 ?_
      refine v_sipush C dX8_addWord_11 sp_600 ?_
      refine v_icmp_ge 46 C dX8_addWord_14 (by decide) (fun c => ?_) (fun c => ?_)
      · have h := if_t h c
        exact v_vreth h R1 dX8_addWord_46
      · have h := if_f h c
        refine v_aload_n 0 C dX8_addWord_17 rfl ?_
        refine g_1_0 C wf_RX8_9 dX8_addWord_18 ?_
        refine v_aload_n 0 C dX8_addWord_21 rfl ?_
        refine g_1_1 C wf_RX8_15 dX8_addWord_22 ?_
        refine v_iload_n 1 C dX8_addWord_25 rfl ?_
        refine v_iload_n 2 C dX8_addWord_26 rfl ?_
        refine v_ishr C dX8_addWord_27 ?_
        refine v_i2b C dX8_addWord_28 ?_
        obtain ⟨hi, h⟩ := gi_some h
        refine ast_2 C hi dX8_addWord_29 ?_
        refine v_aload_n 0 C dX8_addWord_30 rfl ?_
        refine v_dupr C dX8_addWord_31 ?_
        refine g_1_1 C wf_RX8_15 dX8_addWord_32 ?_
        refine v_iconst C dX8_addWord_35 ic_1 ?_
        refine v_iadd C dX8_addWord_36 ?_
        refine p_1_1 C wf_RX8_15 dX8_addWord_37 ?_
        refine v_iinc (L1 := [(0, _), (1, _), (2, _)]) 2 [1, 2, 0] C dX8_addWord_40 rfl ic_m8 (by decide) rfl ?_
        refine v_goto 3 C dX8_addWord_43 (by decide) ?_
        exact hr3 _ _ _ h
set_option maxRecDepth 4000 in
theorem t_X8_addWord {x1 s fin : _} (h : f_X8_addWord x1 s = some ((), fin)) : Ct yX8_addWord cX8_addWord 3 none 0 0 (fun w => [.ref (wA w 1), .int x1]) s none fin := by
  refine Ct.ofV (by decide +kernel) (fun w => Nat.le_of_ble_eq_true rfl) (fun X C R1 => ?_)
  show V X s 0 [(0, .ref (wA (xw X) 1)), (1, .int x1)] []
  have C : Cx X "LitWindows$Text" cX8_addWord 3 0 0 := C
  refine v_bipush C dX8_addWord_0 bp_24 ?_
  refine v_istore_n (L1 := [(0, _), (1, _), (2, _)]) [1, 2, 0] C dX8_addWord_2 (by decide) rfl ?_
  exact tl_X8_addWord_3 C R1  FU _ _ _ h
set_option maxRecDepth 4000 in
theorem t_X10_feed {x1 x2 x3 x4 x5 s fin : _} {r : Int32} (h : f_X10_feed x1 x2 x3 x4 x5 s = some (r, fin)) : Ct yX10_feed cX10_feed 6 (some .int) 1 22 (fun w => [.ref (wA w 0), .int x1, .int x2, .int x3, .int x4, .int x5]) s (some (.int r)) fin := by
  refine Ct.ofI (by decide +kernel) (fun w => Nat.le_of_ble_eq_true rfl) (fun X C R1 => ?_)
  show V X s 0 [(0, .ref (wA (xw X) 0)), (1, .int x1), (2, .int x2), (3, .int x3), (4, .int x4), (5, .int x5)] []
  have C : Cx X "LitWindows" cX10_feed 6 1 22 := C
  refine v_aload_n 0 C dX10_feed_0 rfl ?_
  refine g_0_0 C wf_RX10_10 dX10_feed_1 ?_
  refine v_bipush C dX10_feed_4 bp_20 ?_
  obtain ⟨r_6, s_6, e_6, h⟩ := bd_some h
  refine v_callVi [] C (t_X8_hasRoom e_6) mw_X8_hasRoom (at_1 _ _) rfl wm_RX10_87 ⟨by decide, by decide⟩ rfl (Nat.le_of_ble_eq_true rfl) rfl dX10_feed_6 ?_
  refine v_if_ne 14 C dX10_feed_9 (by decide) (fun c => ?_) (fun c => ?_)
  · have h := if_f h c
    refine v_aload_n 0 C dX10_feed_14 rfl ?_
    refine g_0_0 C wf_RX10_10 dX10_feed_15 ?_
    refine v_iload_n 1 C dX10_feed_18 rfl ?_
    obtain ⟨r_19, s_19, e_19, h⟩ := bd_some h
    refine v_callVv [] C (t_X8_addWord e_19) mw_X8_addWord (at_1 _ _) rfl wm_RX10_91 ⟨by decide, by decide⟩ rfl (Nat.le_of_ble_eq_true rfl) rfl dX10_feed_19 ?_
    refine v_aload_n 0 C dX10_feed_22 rfl ?_
    refine g_0_0 C wf_RX10_10 dX10_feed_23 ?_
    refine v_iload_n 2 C dX10_feed_26 rfl ?_
    obtain ⟨r_27, s_27, e_27, h⟩ := bd_some h
    refine v_callVv [] C (t_X8_addWord e_27) mw_X8_addWord (at_1 _ _) rfl wm_RX10_91 ⟨by decide, by decide⟩ rfl (Nat.le_of_ble_eq_true rfl) rfl dX10_feed_27 ?_
    refine v_aload_n 0 C dX10_feed_30 rfl ?_
    refine g_0_0 C wf_RX10_10 dX10_feed_31 ?_
    refine v_iload_n 3 C dX10_feed_34 rfl ?_
    obtain ⟨r_35, s_35, e_35, h⟩ := bd_some h
    refine v_callVv [] C (t_X8_addWord e_35) mw_X8_addWord (at_1 _ _) rfl wm_RX10_91 ⟨by decide, by decide⟩ rfl (Nat.le_of_ble_eq_true rfl) rfl dX10_feed_35 ?_
    refine v_aload_n 0 C dX10_feed_38 rfl ?_
    refine g_0_0 C wf_RX10_10 dX10_feed_39 ?_
    refine v_iload 4 C dX10_feed_42 rfl ?_
    obtain ⟨r_44, s_44, e_44, h⟩ := bd_some h
    refine v_callVv [] C (t_X8_addWord e_44) mw_X8_addWord (at_1 _ _) rfl wm_RX10_91 ⟨by decide, by decide⟩ rfl (Nat.le_of_ble_eq_true rfl) rfl dX10_feed_44 ?_
    refine v_aload_n 0 C dX10_feed_47 rfl ?_
    refine g_0_0 C wf_RX10_10 dX10_feed_48 ?_
    refine v_iload 5 C dX10_feed_51 rfl ?_
    obtain ⟨r_53, s_53, e_53, h⟩ := bd_some h
    refine v_callVv [] C (t_X8_addWord e_53) mw_X8_addWord (at_1 _ _) rfl wm_RX10_91 ⟨by decide, by decide⟩ rfl (Nat.le_of_ble_eq_true rfl) rfl dX10_feed_53 ?_
    refine v_aload_n 0 C dX10_feed_56 rfl ?_
    refine g_0_0 C wf_RX10_10 dX10_feed_57 ?_
    refine g_1_1 C wf_RX10_95 dX10_feed_60 ?_
    exact v_ireth h R1 rfl dX10_feed_63
  · have h := if_t h c
    refine v_iconst C dX10_feed_12 ic_m1 ?_
    exact v_ireth h R1 rfl dX10_feed_13
set_option maxRecDepth 4000 in
theorem tj_X11_feed_71 {rec18 : Int32 → Int32 → Int32 → Int32 → Int32 → Int32 → St → Option (Int32 × St)} {X : CX} {r : Int32} {fin : St} (C : Cx X "LitWindowsModel" cX11_feed 8 0 0) (R1 : RtI X cX11_feed .int r fin) (hr18 : ∀ (x1 : Int32) (x2 : Int32) (x3 : Int32) (x4 : Int32) (x5 : Int32) (x6 : Int32) (s : St), rec18 x1 x2 x3 x4 x5 x6 s = some (r, fin) → V X s 18 [(0, .ref (wA (xw X) 74)), (1, .int x1), (2, .int x2), (3, .int x3), (4, .int x4), (5, .int x5), (6, .int x6)] []) {x1 x2 x3 x4 x5 x6 t0 s : _} (h : j_X11_feed_71 rec18 x1 x2 x3 x4 x5 x6 t0 s = some (r, fin)) : V X s 71 [(0, .ref (wA (xw X) 74)), (1, .int x1), (2, .int x2), (3, .int x3), (4, .int x4), (5, .int x5), (6, .int x6)] [.int t0] := by
  refine v_istore (L1 := [(0, _), (1, _), (2, _), (3, _), (4, _), (5, _), (6, _), (7, _)]) [1, 2, 3, 4, 5, 6, 7, 0] C dX11_feed_71 (by decide) rfl ?_
  refine v_aload_n 0 C dX11_feed_73 rfl ?_
  refine g_74_0 C wf_RX11_9 dX11_feed_74 ?_
  refine v_aload_n 0 C dX11_feed_77 rfl ?_
  refine g_74_1 C wf_RX11_95 dX11_feed_78 ?_
  refine v_iload 7 C dX11_feed_81 rfl ?_
  refine v_bipush C dX11_feed_83 bp_24 ?_
  refine v_bipush C dX11_feed_85 bp_8 ?_
  refine v_iload 6 C dX11_feed_87 rfl ?_
  refine v_iconst C dX11_feed_89 ic_4 ?_
  refine v_irem C dX11_feed_90 (by decide) ?_
  refine v_imul C dX11_feed_91 ?_
  refine v_isub C dX11_feed_92 ?_
  refine v_ishr C dX11_feed_93 ?_
  refine v_i2b C dX11_feed_94 ?_
  obtain ⟨hi, h⟩ := gi_some h
  refine ast_75 C hi dX11_feed_95 ?_
  refine v_aload_n 0 C dX11_feed_96 rfl ?_
  refine v_dupr C dX11_feed_97 ?_
  refine g_74_1 C wf_RX11_95 dX11_feed_98 ?_
  refine v_iconst C dX11_feed_101 ic_1 ?_
  refine v_iadd C dX11_feed_102 ?_
  refine p_74_1 C wf_RX11_95 dX11_feed_103 ?_
  refine v_iinc (L1 := [(0, _), (1, _), (2, _), (3, _), (4, _), (5, _), (6, _), (7, _)]) 6 [1, 2, 3, 4, 5, 6, 0, 7] C dX11_feed_106 rfl ic_1 (by decide) rfl ?_
  refine v_goto 18 C dX11_feed_109 (by decide) ?_
  refine v_sub [0, 1, 2, 3, 4, 5, 6] (L1 := [(0, _), (1, _), (2, _), (3, _), (4, _), (5, _), (6, _)]) rfl ?_
  exact hr18 _ _ _ _ _ _ _ h
set_option maxRecDepth 4000 in
theorem tl_X11_feed_18  {X : CX} {r : Int32} {fin : St} (C : Cx X "LitWindowsModel" cX11_feed 8 0 0) (R1 : RtI X cX11_feed .int r fin)  : ∀ (n : Nat) (x1 : Int32) (x2 : Int32) (x3 : Int32) (x4 : Int32) (x5 : Int32) (x6 : Int32) (s : St), l_X11_feed_18  n x1 x2 x3 x4 x5 x6 s = some (r, fin) → V X s 18 [(0, .ref (wA (xw X) 74)), (1, .int x1), (2, .int x2), (3, .int x3), (4, .int x4), (5, .int x5), (6, .int x6)] [] := by
  intro n
  induction n with
  | zero => intro x1 x2 x3 x4 x5 x6 s h; exact none_no h
  | succ n hr18 =>
    intro x1 x2 x3 x4 x5 x6 s h
    have h : b_X11_feed_18  (l_X11_feed_18  n) x1 x2 x3 x4 x5 x6 s = some (r, fin) := h
    refine v_iload 6 C dX11_feed_18 rfl ?_
    refine v_bipush C dX11_feed_20 bp_20 ?_
    refine v_icmp_ge 112 C dX11_feed_22 (by decide) (fun c => ?_) (fun c => ?_)
    · have h := if_t h c
      refine v_aload_n 0 C dX11_feed_112 rfl ?_
      refine g_74_1 C wf_RX11_95 dX11_feed_113 ?_
      exact v_ireth h R1 rfl dX11_feed_116
    · have h := if_f h c
      refine v_iload 6 C dX11_feed_25 rfl ?_
      refine v_iconst C dX11_feed_27 ic_4 ?_
      refine v_icmp_ge 35 C dX11_feed_28 (by decide) (fun c => ?_) (fun c => ?_)
      · have h := if_t h c
        refine v_iload 6 C dX11_feed_35 rfl ?_
        refine v_bipush C dX11_feed_37 bp_8 ?_
        refine v_icmp_ge 46 C dX11_feed_39 (by decide) (fun c => ?_) (fun c => ?_)
        · have h := if_t h c
          refine v_iload 6 C dX11_feed_46 rfl ?_
          refine v_bipush C dX11_feed_48 bp_12 ?_
          refine v_icmp_ge 57 C dX11_feed_50 (by decide) (fun c => ?_) (fun c => ?_)
          · have h := if_t h c
            refine v_iload 6 C dX11_feed_57 rfl ?_
            refine v_bipush C dX11_feed_59 bp_16 ?_
            refine v_icmp_ge 69 C dX11_feed_61 (by decide) (fun c => ?_) (fun c => ?_)
            · have h := if_t h c
              refine v_iload 5 C dX11_feed_69 rfl ?_
              exact tj_X11_feed_71 C R1 hr18 h
            · have h := if_f h c
              refine v_iload 4 C dX11_feed_64 rfl ?_
              refine v_goto 71 C dX11_feed_66 (by decide) ?_
              exact tj_X11_feed_71 C R1 hr18 h
          · have h := if_f h c
            refine v_iload_n 3 C dX11_feed_53 rfl ?_
            refine v_goto 71 C dX11_feed_54 (by decide) ?_
            exact tj_X11_feed_71 C R1 hr18 h
        · have h := if_f h c
          refine v_iload_n 2 C dX11_feed_42 rfl ?_
          refine v_goto 71 C dX11_feed_43 (by decide) ?_
          exact tj_X11_feed_71 C R1 hr18 h
      · have h := if_f h c
        refine v_iload_n 1 C dX11_feed_31 rfl ?_
        refine v_goto 71 C dX11_feed_32 (by decide) ?_
        exact tj_X11_feed_71 C R1 hr18 h
set_option maxRecDepth 4000 in
theorem t_X11_feed {x1 x2 x3 x4 x5 s fin : _} {r : Int32} (h : f_X11_feed x1 x2 x3 x4 x5 s = some (r, fin)) : Ct yX11_feed cX11_feed 8 (some .int) 0 0 (fun w => [.ref (wA w 74), .int x1, .int x2, .int x3, .int x4, .int x5]) s (some (.int r)) fin := by
  refine Ct.ofI (by decide +kernel) (fun w => Nat.le_of_ble_eq_true rfl) (fun X C R1 => ?_)
  show V X s 0 [(0, .ref (wA (xw X) 74)), (1, .int x1), (2, .int x2), (3, .int x3), (4, .int x4), (5, .int x5)] []
  have C : Cx X "LitWindowsModel" cX11_feed 8 0 0 := C
  refine v_aload_n 0 C dX11_feed_0 rfl ?_
  refine g_74_1 C wf_RX11_95 dX11_feed_1 ?_
  refine v_bipush C dX11_feed_4 bp_20 ?_
  refine v_iadd C dX11_feed_6 ?_
  refine v_sipush C dX11_feed_7 sp_600 ?_
  refine v_icmp_le 15 C dX11_feed_10 (by decide) (fun c => ?_) (fun c => ?_)
  · have h := if_t h c
    refine v_iconst C dX11_feed_15 ic_0 ?_
    refine v_istore (L1 := [(0, _), (1, _), (2, _), (3, _), (4, _), (5, _), (6, _)]) [1, 2, 3, 4, 5, 6, 0] C dX11_feed_16 (by decide) rfl ?_
    exact tl_X11_feed_18 C R1  FU _ _ _ _ _ _ _ h
  · have h := if_f h c
    refine v_iconst C dX11_feed_13 ic_m1 ?_
    exact v_ireth h R1 rfl dX11_feed_14
set_option maxRecDepth 4000 in
theorem t_X10_end {x1 s fin : _} {r : Int32} (h : f_X10_end x1 s = some (r, fin)) : Ct yX10_end cX10_end 2 (some .boolean) 0 0 (fun w => [.ref (wA w 0), .int x1]) s (some (.int r)) fin := by
  refine Ct.ofI (by decide +kernel) (fun w => Nat.le_of_ble_eq_true rfl) (fun X C R1 => ?_)
  show V X s 0 [(0, .ref (wA (xw X) 0)), (1, .int x1)] []
  have C : Cx X "LitWindows" cX10_end 2 0 0 := C
  refine v_iload_n 1 C dX10_end_0 rfl ?_
  refine v_if_lt 15 C dX10_end_1 (by decide) (fun c => ?_) (fun c => ?_)
  · have h := if_t h c
    refine v_iconst C dX10_end_15 ic_0 ?_
    exact v_ireth h R1 rfl dX10_end_16
  · have h := if_f h c
    refine v_iload_n 1 C dX10_end_4 rfl ?_
    refine v_aload_n 0 C dX10_end_5 rfl ?_
    refine g_0_0 C wf_RX10_10 dX10_end_6 ?_
    refine g_1_1 C wf_RX10_95 dX10_end_9 ?_
    refine v_icmp_le 17 C dX10_end_12 (by decide) (fun c => ?_) (fun c => ?_)
    · have h := if_t h c
      refine v_aload_n 0 C dX10_end_17 rfl ?_
      refine g_0_0 C wf_RX10_10 dX10_end_18 ?_
      refine v_iload_n 1 C dX10_end_21 rfl ?_
      refine p_1_1 C wf_RX10_95 dX10_end_22 ?_
      refine v_iconst C dX10_end_25 ic_1 ?_
      exact v_ireth h R1 rfl dX10_end_26
    · have h := if_f h c
      refine v_iconst C dX10_end_15 ic_0 ?_
      exact v_ireth h R1 rfl dX10_end_16
set_option maxRecDepth 4000 in
theorem t_X11_in {x0 x1 x2 s fin : _} {r : Int32} (h : f_X11_in x0 x1 x2 s = some (r, fin)) : Ct yX11_in cX11_in 3 (some .boolean) 0 0 (fun w => [.int x0, .int x1, .int x2]) s (some (.int r)) fin := by
  refine Ct.ofI (by decide +kernel) (fun w => Nat.le_of_ble_eq_true rfl) (fun X C R1 => ?_)
  show V X s 0 [(0, .int x0), (1, .int x1), (2, .int x2)] []
  have C : Cx X "LitWindowsModel" cX11_in 3 0 0 := C
  refine v_iload_n 0 C dX11_in_0 rfl ?_
  refine v_iload_n 1 C dX11_in_1 rfl ?_
  refine v_icmp_lt 14 C dX11_in_2 (by decide) (fun c => ?_) (fun c => ?_)
  · have h := if_t h c
    refine v_iconst C dX11_in_14 ic_0 ?_
    exact v_ireth h R1 rfl dX11_in_15
  · have h := if_f h c
    refine v_iload_n 0 C dX11_in_5 rfl ?_
    refine v_iload_n 2 C dX11_in_6 rfl ?_
    refine v_icmp_gt 14 C dX11_in_7 (by decide) (fun c => ?_) (fun c => ?_)
    · have h := if_t h c
      refine v_iconst C dX11_in_14 ic_0 ?_
      exact v_ireth h R1 rfl dX11_in_15
    · have h := if_f h c
      refine v_iconst C dX11_in_10 ic_1 ?_
      refine v_goto 15 C dX11_in_11 (by decide) ?_
      exact v_ireth h R1 rfl dX11_in_15
set_option maxRecDepth 4000 in
theorem t_X11_end {x1 s fin : _} {r : Int32} (h : f_X11_end x1 s = some (r, fin)) : Ct yX11_end cX11_end 2 (some .boolean) 1 22 (fun w => [.ref (wA w 74), .int x1]) s (some (.int r)) fin := by
  refine Ct.ofI (by decide +kernel) (fun w => Nat.le_of_ble_eq_true rfl) (fun X C R1 => ?_)
  show V X s 0 [(0, .ref (wA (xw X) 74)), (1, .int x1)] []
  have C : Cx X "LitWindowsModel" cX11_end 2 1 22 := C
  refine v_iload_n 1 C dX11_end_0 rfl ?_
  refine v_iconst C dX11_end_1 ic_0 ?_
  refine v_aload_n 0 C dX11_end_2 rfl ?_
  refine g_74_1 C wf_RX11_95 dX11_end_3 ?_
  obtain ⟨r_6, s_6, e_6, h⟩ := bd_some h
  refine v_callSi [] C (t_X11_in e_6) mw_X11_in wm_RX11_98 ⟨by decide, by decide⟩ rfl (Nat.le_of_ble_eq_true rfl) rfl dX11_end_6 ?_
  refine v_if_ne 14 C dX11_end_9 (by decide) (fun c => ?_) (fun c => ?_)
  · have h := if_f h c
    refine v_aload_n 0 C dX11_end_14 rfl ?_
    refine v_iload_n 1 C dX11_end_15 rfl ?_
    refine p_74_1 C wf_RX11_95 dX11_end_16 ?_
    refine v_iconst C dX11_end_19 ic_1 ?_
    exact v_ireth h R1 rfl dX11_end_20
  · have h := if_t h c
    refine v_iconst C dX11_end_12 ic_0 ?_
    exact v_ireth h R1 rfl dX11_end_13
set_option maxRecDepth 4000 in
theorem t_X3_clear_d { s fin : _} (h : f_X3_clear_d  s = some ((), fin)) : Ct yX3_clear cX3_clear 1 none 0 0 (fun w => [.ref (wA w 18)]) s none fin := by
  refine Ct.ofV (by decide +kernel) (fun w => Nat.le_of_ble_eq_true rfl) (fun X C R1 => ?_)
  show V X s 0 [(0, .ref (wA (xw X) 18))] []
  have C : Cx X "LitWindows$Plant" cX3_clear 1 0 0 := C
  unfold f_X3_clear_d at h
  refine v_aload_n 0 C dX3_clear_0 rfl ?_
  refine v_iconst C dX3_clear_1 ic_0 ?_
  refine p_18_0 C wf_RX3_40 dX3_clear_2 ?_
  refine v_aload_n 0 C dX3_clear_5 rfl ?_
  refine v_iconst C dX3_clear_6 ic_0 ?_
  refine p_18_1 C wf_RX3_44 dX3_clear_7 ?_
  refine v_aload_n 0 C dX3_clear_10 rfl ?_
  refine v_iconst C dX3_clear_11 ic_0 ?_
  refine p_18_2 C wf_RX3_47 dX3_clear_12 ?_
  refine v_aload_n 0 C dX3_clear_15 rfl ?_
  refine v_iconst C dX3_clear_16 ic_0 ?_
  refine p_18_3 C wf_RX3_50 dX3_clear_17 ?_
  exact v_vreth h R1 dX3_clear_20
set_option maxRecDepth 4000 in
theorem t_X8_signAt {x1 s fin : _} {r : Int32} (h : f_X8_signAt x1 s = some (r, fin)) : Ct yX8_signAt cX8_signAt 2 (some .int) 0 0 (fun w => [.ref (wA w 1), .int x1]) s (some (.int r)) fin := by
  refine Ct.ofI (by decide +kernel) (fun w => Nat.le_of_ble_eq_true rfl) (fun X C R1 => ?_)
  show V X s 0 [(0, .ref (wA (xw X) 1)), (1, .int x1)] []
  have C : Cx X "LitWindows$Text" cX8_signAt 2 0 0 := C
  refine v_iload_n 1 C dX8_signAt_0 rfl ?_
  refine v_if_lt 21 C dX8_signAt_1 (by decide) (fun c => ?_) (fun c => ?_)
  · have h := if_t h c
    refine v_iconst C dX8_signAt_21 ic_0 ?_
    exact v_ireth h R1 rfl dX8_signAt_22
  · have h := if_f h c
    refine v_iload_n 1 C dX8_signAt_4 rfl ?_
    refine v_aload_n 0 C dX8_signAt_5 rfl ?_
    refine g_1_1 C wf_RX8_15 dX8_signAt_6 ?_
    refine v_icmp_ge 21 C dX8_signAt_9 (by decide) (fun c => ?_) (fun c => ?_)
    · have h := if_t h c
      refine v_iconst C dX8_signAt_21 ic_0 ?_
      exact v_ireth h R1 rfl dX8_signAt_22
    · have h := if_f h c
      refine v_aload_n 0 C dX8_signAt_12 rfl ?_
      refine g_1_0 C wf_RX8_9 dX8_signAt_13 ?_
      refine v_iload_n 1 C dX8_signAt_16 rfl ?_
      obtain ⟨hi, h⟩ := gi_some h
      refine ald_2 C hi dX8_signAt_17 ?_
      refine v_goto 22 C dX8_signAt_18 (by decide) ?_
      exact v_ireth h R1 rfl dX8_signAt_22
set_option maxRecDepth 4000 in
theorem t_X9_isLetter {x0 s fin : _} {r : Int32} (h : f_X9_isLetter x0 s = some (r, fin)) : Ct yX9_isLetter cX9_isLetter 1 (some .boolean) 0 0 (fun w => [.int x0]) s (some (.int r)) fin := by
  refine Ct.ofI (by decide +kernel) (fun w => Nat.le_of_ble_eq_true rfl) (fun X C R1 => ?_)
  show V X s 0 [(0, .int x0)] []
  have C : Cx X "LitWindows$Tokens" cX9_isLetter 1 0 0 := C
  refine v_iload_n 0 C dX9_isLetter_0 rfl ?_
  refine v_bipush C dX9_isLetter_1 bp_97 ?_
  refine v_icmp_lt 16 C dX9_isLetter_3 (by decide) (fun c => ?_) (fun c => ?_)
  · have h := if_t h c
    refine v_iconst C dX9_isLetter_16 ic_0 ?_
    exact v_ireth h R1 rfl dX9_isLetter_17
  · have h := if_f h c
    refine v_iload_n 0 C dX9_isLetter_6 rfl ?_
    refine v_bipush C dX9_isLetter_7 bp_122 ?_
    refine v_icmp_gt 16 C dX9_isLetter_9 (by decide) (fun c => ?_) (fun c => ?_)
    · have h := if_t h c
      refine v_iconst C dX9_isLetter_16 ic_0 ?_
      exact v_ireth h R1 rfl dX9_isLetter_17
    · have h := if_f h c
      refine v_iconst C dX9_isLetter_12 ic_1 ?_
      refine v_goto 17 C dX9_isLetter_13 (by decide) ?_
      exact v_ireth h R1 rfl dX9_isLetter_17
set_option maxRecDepth 4000 in
theorem t_X9_isDigit {x0 s fin : _} {r : Int32} (h : f_X9_isDigit x0 s = some (r, fin)) : Ct yX9_isDigit cX9_isDigit 1 (some .boolean) 0 0 (fun w => [.int x0]) s (some (.int r)) fin := by
  refine Ct.ofI (by decide +kernel) (fun w => Nat.le_of_ble_eq_true rfl) (fun X C R1 => ?_)
  show V X s 0 [(0, .int x0)] []
  have C : Cx X "LitWindows$Tokens" cX9_isDigit 1 0 0 := C
  refine v_iload_n 0 C dX9_isDigit_0 rfl ?_
  refine v_bipush C dX9_isDigit_1 bp_48 ?_
  refine v_icmp_lt 16 C dX9_isDigit_3 (by decide) (fun c => ?_) (fun c => ?_)
  · have h := if_t h c
    refine v_iconst C dX9_isDigit_16 ic_0 ?_
    exact v_ireth h R1 rfl dX9_isDigit_17
  · have h := if_f h c
    refine v_iload_n 0 C dX9_isDigit_6 rfl ?_
    refine v_bipush C dX9_isDigit_7 bp_57 ?_
    refine v_icmp_gt 16 C dX9_isDigit_9 (by decide) (fun c => ?_) (fun c => ?_)
    · have h := if_t h c
      refine v_iconst C dX9_isDigit_16 ic_0 ?_
      exact v_ireth h R1 rfl dX9_isDigit_17
    · have h := if_f h c
      refine v_iconst C dX9_isDigit_12 ic_1 ?_
      refine v_goto 17 C dX9_isDigit_13 (by decide) ?_
      exact v_ireth h R1 rfl dX9_isDigit_17
set_option maxRecDepth 4000 in
theorem tl_X9_takeNumber_10  {X : CX} {fin : St} (C : Cx X "LitWindows$Tokens" cX9_takeNumber 1 1 32) (R1 : RtV X cX9_takeNumber fin)  : ∀ (n : Nat)  (s : St), l_X9_takeNumber_10  n  s = some ((), fin) → V X s 10 [(0, .ref (wA (xw X) 7))] [] := by
  intro n
  induction n with
  | zero => intro  s h; exact none_no h
  | succ n hr10 =>
    intro  s h
    have h : b_X9_takeNumber_10  (l_X9_takeNumber_10  n)  s = some ((), fin) := h
    refine v_aload_n 0 C dX9_takeNumber_10 rfl ?_
    refine g_7_3 C wf_RX9_15 dX9_takeNumber_11 ?_
    refine v_aload_n 0 C dX9_takeNumber_14 rfl ?_
    refine g_7_0 C wf_RX9_9 dX9_takeNumber_15 ?_
    refine g_1_1 C wf_RX9_25 dX9_takeNumber_18 ?_
    refine v_icmp_ge 85 C dX9_takeNumber_21 (by decide) (fun c => ?_) (fun c => ?_)
    · have h := if_t h c
      exact v_vreth h R1 dX9_takeNumber_85
    · have h := if_f h c
      refine v_aload_n 0 C dX9_takeNumber_24 rfl ?_
      refine g_7_0 C wf_RX9_9 dX9_takeNumber_25 ?_
      refine v_aload_n 0 C dX9_takeNumber_28 rfl ?_
      refine g_7_3 C wf_RX9_15 dX9_takeNumber_29 ?_
      obtain ⟨r_32, s_32, e_32, h⟩ := bd_some h
      refine v_callVi [] C (t_X8_signAt e_32) mw_X8_signAt (at_1 _ _) rfl wm_RX9_30 ⟨by decide, by decide⟩ rfl (Nat.le_of_ble_eq_true rfl) rfl dX9_takeNumber_32 ?_
      obtain ⟨r_35, s_35, e_35, h⟩ := bd_some h
      refine v_callSi [] C (t_X9_isDigit e_35) mw_X9_isDigit wm_RX9_47 ⟨by decide, by decide⟩ rfl (Nat.le_of_ble_eq_true rfl) rfl dX9_takeNumber_35 ?_
      refine v_if_eq 85 C dX9_takeNumber_38 (by decide) (fun c => ?_) (fun c => ?_)
      · have h := if_t h c
        exact v_vreth h R1 dX9_takeNumber_85
      · have h := if_f h c
        refine v_aload_n 0 C dX9_takeNumber_41 rfl ?_
        refine v_aload_n 0 C dX9_takeNumber_42 rfl ?_
        refine g_7_4 C wf_RX9_53 dX9_takeNumber_43 ?_
        refine v_bipush C dX9_takeNumber_46 bp_10 ?_
        refine v_imul C dX9_takeNumber_48 ?_
        refine v_aload_n 0 C dX9_takeNumber_49 rfl ?_
        refine g_7_0 C wf_RX9_9 dX9_takeNumber_50 ?_
        refine v_aload_n 0 C dX9_takeNumber_53 rfl ?_
        refine g_7_3 C wf_RX9_15 dX9_takeNumber_54 ?_
        obtain ⟨r_57, s_57, e_57, h⟩ := bd_some h
        refine v_callVi [_, _] C (t_X8_signAt e_57) mw_X8_signAt (at_1 _ _) rfl wm_RX9_30 ⟨by decide, by decide⟩ rfl (Nat.le_of_ble_eq_true rfl) rfl dX9_takeNumber_57 ?_
        refine v_iadd C dX9_takeNumber_60 ?_
        refine v_bipush C dX9_takeNumber_61 bp_48 ?_
        refine v_isub C dX9_takeNumber_63 ?_
        refine v_ldc C wc_RX9_56 dX9_takeNumber_64 ?_
        refine v_jmin C wm_RX9_57 (by decide) (Nat.le_of_ble_eq_true rfl) dX9_takeNumber_66 ?_
        refine p_7_4 C wf_RX9_53 dX9_takeNumber_69 ?_
        refine v_aload_n 0 C dX9_takeNumber_72 rfl ?_
        refine v_dupr C dX9_takeNumber_73 ?_
        refine g_7_3 C wf_RX9_15 dX9_takeNumber_74 ?_
        refine v_iconst C dX9_takeNumber_77 ic_1 ?_
        refine v_iadd C dX9_takeNumber_78 ?_
        refine p_7_3 C wf_RX9_15 dX9_takeNumber_79 ?_
        refine v_goto 10 C dX9_takeNumber_82 (by decide) ?_
        exact hr10  _ h
set_option maxRecDepth 4000 in
theorem t_X9_takeNumber { s fin : _} (h : f_X9_takeNumber  s = some ((), fin)) : Ct yX9_takeNumber cX9_takeNumber 1 none 1 32 (fun w => [.ref (wA w 7)]) s none fin := by
  refine Ct.ofV (by decide +kernel) (fun w => Nat.le_of_ble_eq_true rfl) (fun X C R1 => ?_)
  show V X s 0 [(0, .ref (wA (xw X) 7))] []
  have C : Cx X "LitWindows$Tokens" cX9_takeNumber 1 1 32 := C
  unfold f_X9_takeNumber at h
  refine v_aload_n 0 C dX9_takeNumber_0 rfl ?_
  refine v_iconst C dX9_takeNumber_1 ic_1 ?_
  refine p_7_1 C wf_RX9_38 dX9_takeNumber_2 ?_
  refine v_aload_n 0 C dX9_takeNumber_5 rfl ?_
  refine v_iconst C dX9_takeNumber_6 ic_0 ?_
  refine p_7_4 C wf_RX9_53 dX9_takeNumber_7 ?_
  exact tl_X9_takeNumber_10 C R1  FU  _ h
set_option maxRecDepth 4000 in
theorem tl_X9_takeWord_5  {X : CX} {fin : St} (C : Cx X "LitWindows$Tokens" cX9_takeWord 1 1 21) (R1 : RtV X cX9_takeWord fin)  : ∀ (n : Nat)  (s : St), l_X9_takeWord_5  n  s = some ((), fin) → V X s 5 [(0, .ref (wA (xw X) 7))] [] := by
  intro n
  induction n with
  | zero => intro  s h; exact none_no h
  | succ n hr5 =>
    intro  s h
    have h : b_X9_takeWord_5  (l_X9_takeWord_5  n)  s = some ((), fin) := h
    refine v_aload_n 0 C dX9_takeWord_5 rfl ?_
    refine g_7_3 C wf_RX9_15 dX9_takeWord_6 ?_
    refine v_aload_n 0 C dX9_takeWord_9 rfl ?_
    refine g_7_0 C wf_RX9_9 dX9_takeWord_10 ?_
    refine g_1_1 C wf_RX9_25 dX9_takeWord_13 ?_
    refine v_icmp_ge 49 C dX9_takeWord_16 (by decide) (fun c => ?_) (fun c => ?_)
    · have h := if_t h c
      exact v_vreth h R1 dX9_takeWord_49
    · have h := if_f h c
      refine v_aload_n 0 C dX9_takeWord_19 rfl ?_
      refine g_7_0 C wf_RX9_9 dX9_takeWord_20 ?_
      refine v_aload_n 0 C dX9_takeWord_23 rfl ?_
      refine g_7_3 C wf_RX9_15 dX9_takeWord_24 ?_
      obtain ⟨r_27, s_27, e_27, h⟩ := bd_some h
      refine v_callVi [] C (t_X8_signAt e_27) mw_X8_signAt (at_1 _ _) rfl wm_RX9_30 ⟨by decide, by decide⟩ rfl (Nat.le_of_ble_eq_true rfl) rfl dX9_takeWord_27 ?_
      obtain ⟨r_30, s_30, e_30, h⟩ := bd_some h
      refine v_callSi [] C (t_X9_isLetter e_30) mw_X9_isLetter wm_RX9_41 ⟨by decide, by decide⟩ rfl (Nat.le_of_ble_eq_true rfl) rfl dX9_takeWord_30 ?_
      refine v_if_eq 49 C dX9_takeWord_33 (by decide) (fun c => ?_) (fun c => ?_)
      · have h := if_t h c
        exact v_vreth h R1 dX9_takeWord_49
      · have h := if_f h c
        refine v_aload_n 0 C dX9_takeWord_36 rfl ?_
        refine v_dupr C dX9_takeWord_37 ?_
        refine g_7_3 C wf_RX9_15 dX9_takeWord_38 ?_
        refine v_iconst C dX9_takeWord_41 ic_1 ?_
        refine v_iadd C dX9_takeWord_42 ?_
        refine p_7_3 C wf_RX9_15 dX9_takeWord_43 ?_
        refine v_goto 5 C dX9_takeWord_46 (by decide) ?_
        exact hr5  _ h
set_option maxRecDepth 4000 in
theorem t_X9_takeWord { s fin : _} (h : f_X9_takeWord  s = some ((), fin)) : Ct yX9_takeWord cX9_takeWord 1 none 1 21 (fun w => [.ref (wA w 7)]) s none fin := by
  refine Ct.ofV (by decide +kernel) (fun w => Nat.le_of_ble_eq_true rfl) (fun X C R1 => ?_)
  show V X s 0 [(0, .ref (wA (xw X) 7))] []
  have C : Cx X "LitWindows$Tokens" cX9_takeWord 1 1 21 := C
  unfold f_X9_takeWord at h
  refine v_aload_n 0 C dX9_takeWord_0 rfl ?_
  refine v_iconst C dX9_takeWord_1 ic_0 ?_
  refine p_7_1 C wf_RX9_38 dX9_takeWord_2 ?_
  exact tl_X9_takeWord_5 C R1  FU  _ h
set_option maxRecDepth 4000 in
theorem t_X9_isBlank {x0 s fin : _} {r : Int32} (h : f_X9_isBlank x0 s = some (r, fin)) : Ct yX9_isBlank cX9_isBlank 1 (some .boolean) 0 0 (fun w => [.int x0]) s (some (.int r)) fin := by
  refine Ct.ofI (by decide +kernel) (fun w => Nat.le_of_ble_eq_true rfl) (fun X C R1 => ?_)
  show V X s 0 [(0, .int x0)] []
  have C : Cx X "LitWindows$Tokens" cX9_isBlank 1 0 0 := C
  refine v_iload_n 0 C dX9_isBlank_0 rfl ?_
  refine v_bipush C dX9_isBlank_1 bp_32 ?_
  refine v_icmp_eq 12 C dX9_isBlank_3 (by decide) (fun c => ?_) (fun c => ?_)
  · have h := if_t h c
    refine v_iconst C dX9_isBlank_12 ic_1 ?_
    refine v_goto 17 C dX9_isBlank_13 (by decide) ?_
    exact v_ireth h R1 rfl dX9_isBlank_17
  · have h := if_f h c
    refine v_iload_n 0 C dX9_isBlank_6 rfl ?_
    refine v_bipush C dX9_isBlank_7 bp_10 ?_
    refine v_icmp_ne 16 C dX9_isBlank_9 (by decide) (fun c => ?_) (fun c => ?_)
    · have h := if_f h c
      refine v_iconst C dX9_isBlank_16 ic_0 ?_
      exact v_ireth h R1 rfl dX9_isBlank_17
    · have h := if_t h c
      refine v_iconst C dX9_isBlank_12 ic_1 ?_
      refine v_goto 17 C dX9_isBlank_13 (by decide) ?_
      exact v_ireth h R1 rfl dX9_isBlank_17
set_option maxRecDepth 4000 in
theorem tj_X9_advance_52  {X : CX} {fin : St} (C : Cx X "LitWindows$Tokens" cX9_advance 2 2 52) (R1 : RtV X cX9_advance fin)  { s : _} (h : j_X9_advance_52   s = some ((), fin)) : V X s 52 [(0, .ref (wA (xw X) 7))] [] := by
  unfold j_X9_advance_52 at h
  refine v_aload_n 0 C dX9_advance_52 rfl ?_
  refine v_aload_n 0 C dX9_advance_53 rfl ?_
  refine g_7_2 C wf_RX9_22 dX9_advance_54 ?_
  refine p_7_3 C wf_RX9_15 dX9_advance_57 ?_
  refine v_aload_n 0 C dX9_advance_60 rfl ?_
  refine g_7_2 C wf_RX9_22 dX9_advance_61 ?_
  refine v_aload_n 0 C dX9_advance_64 rfl ?_
  refine g_7_0 C wf_RX9_9 dX9_advance_65 ?_
  refine g_1_1 C wf_RX9_25 dX9_advance_68 ?_
  refine v_icmp_lt 80 C dX9_advance_71 (by decide) (fun c => ?_) (fun c => ?_)
  · have h := if_t h c
    refine v_aload_n 0 C dX9_advance_80 rfl ?_
    refine g_7_0 C wf_RX9_9 dX9_advance_81 ?_
    refine v_aload_n 0 C dX9_advance_84 rfl ?_
    refine g_7_2 C wf_RX9_22 dX9_advance_85 ?_
    obtain ⟨r_88, s_88, e_88, h⟩ := bd_some h
    refine v_callVi [] C (t_X8_signAt e_88) mw_X8_signAt (at_1 _ _) rfl wm_RX9_30 ⟨by decide, by decide⟩ rfl (Nat.le_of_ble_eq_true rfl) rfl dX9_advance_88 ?_
    refine v_istore_n (L1 := [(0, _), (1, _)]) [1, 0] C dX9_advance_91 (by decide) rfl ?_
    refine v_iload_n 1 C dX9_advance_92 rfl ?_
    obtain ⟨r_93, s_93, e_93, h⟩ := bd_some h
    refine v_callSi [] C (t_X9_isLetter e_93) mw_X9_isLetter wm_RX9_41 ⟨by decide, by decide⟩ rfl (Nat.le_of_ble_eq_true rfl) rfl dX9_advance_93 ?_
    refine v_if_eq 106 C dX9_advance_96 (by decide) (fun c => ?_) (fun c => ?_)
    · have h := if_t h c
      refine v_iload_n 1 C dX9_advance_106 rfl ?_
      obtain ⟨r_107, s_107, e_107, h⟩ := bd_some h
      refine v_callSi [] C (t_X9_isDigit e_107) mw_X9_isDigit wm_RX9_47 ⟨by decide, by decide⟩ rfl (Nat.le_of_ble_eq_true rfl) rfl dX9_advance_107 ?_
      refine v_if_eq 120 C dX9_advance_110 (by decide) (fun c => ?_) (fun c => ?_)
      · have h := if_t h c
        refine v_aload_n 0 C dX9_advance_120 rfl ?_
        refine v_iload_n 1 C dX9_advance_121 rfl ?_
        refine v_bipush C dX9_advance_122 bp_59 ?_
        refine v_icmp_ne 131 C dX9_advance_124 (by decide) (fun c => ?_) (fun c => ?_)
        · have h := if_f h c
          refine v_iconst C dX9_advance_131 ic_3 ?_
          refine p_7_1 C wf_RX9_38 dX9_advance_132 ?_
          refine v_aload_n 0 C dX9_advance_135 rfl ?_
          refine v_aload_n 0 C dX9_advance_136 rfl ?_
          refine g_7_2 C wf_RX9_22 dX9_advance_137 ?_
          refine v_iconst C dX9_advance_140 ic_1 ?_
          refine v_iadd C dX9_advance_141 ?_
          refine p_7_3 C wf_RX9_15 dX9_advance_142 ?_
          exact v_vreth h R1 dX9_advance_145
        · have h := if_t h c
          refine v_iconst C dX9_advance_127 ic_2 ?_
          refine v_goto 132 C dX9_advance_128 (by decide) ?_
          refine p_7_1 C wf_RX9_38 dX9_advance_132 ?_
          refine v_aload_n 0 C dX9_advance_135 rfl ?_
          refine v_aload_n 0 C dX9_advance_136 rfl ?_
          refine g_7_2 C wf_RX9_22 dX9_advance_137 ?_
          refine v_iconst C dX9_advance_140 ic_1 ?_
          refine v_iadd C dX9_advance_141 ?_
          refine p_7_3 C wf_RX9_15 dX9_advance_142 ?_
          exact v_vreth h R1 dX9_advance_145
      · have h := if_f h c
        refine v_aload_n 0 C dX9_advance_113 rfl ?_
        obtain ⟨r_114, s_114, e_114, h⟩ := bd_some h
        refine v_callVv [] C (t_X9_takeNumber e_114) mw_X9_takeNumber (at_7 _ _) rfl wm_RX9_50 ⟨by decide, by decide⟩ rfl (Nat.le_of_ble_eq_true rfl) rfl dX9_advance_114 ?_
        refine v_goto 145 C dX9_advance_117 (by decide) ?_
        exact v_vreth h R1 dX9_advance_145
    · have h := if_f h c
      refine v_aload_n 0 C dX9_advance_99 rfl ?_
      obtain ⟨r_100, s_100, e_100, h⟩ := bd_some h
      refine v_callVv [] C (t_X9_takeWord e_100) mw_X9_takeWord (at_7 _ _) rfl wm_RX9_44 ⟨by decide, by decide⟩ rfl (Nat.le_of_ble_eq_true rfl) rfl dX9_advance_100 ?_
      refine v_goto 145 C dX9_advance_103 (by decide) ?_
      exact v_vreth h R1 dX9_advance_145
  · have h := if_f h c
    refine v_aload_n 0 C dX9_advance_74 rfl ?_
    refine v_iconst C dX9_advance_75 ic_4 ?_
    refine p_7_1 C wf_RX9_38 dX9_advance_76 ?_
    exact v_vreth h R1 dX9_advance_79
set_option maxRecDepth 4000 in
theorem tl_X9_advance_8  {X : CX} {fin : St} (C : Cx X "LitWindows$Tokens" cX9_advance 2 2 52) (R1 : RtV X cX9_advance fin)  : ∀ (n : Nat)  (s : St), l_X9_advance_8  n  s = some ((), fin) → V X s 8 [(0, .ref (wA (xw X) 7))] [] := by
  intro n
  induction n with
  | zero => intro  s h; exact none_no h
  | succ n hr8 =>
    intro  s h
    have h : b_X9_advance_8  (l_X9_advance_8  n)  s = some ((), fin) := h
    refine v_aload_n 0 C dX9_advance_8 rfl ?_
    refine g_7_2 C wf_RX9_22 dX9_advance_9 ?_
    refine v_aload_n 0 C dX9_advance_12 rfl ?_
    refine g_7_0 C wf_RX9_9 dX9_advance_13 ?_
    refine g_1_1 C wf_RX9_25 dX9_advance_16 ?_
    refine v_icmp_ge 52 C dX9_advance_19 (by decide) (fun c => ?_) (fun c => ?_)
    · have h := if_t h c
      exact tj_X9_advance_52 C R1  h
    · have h := if_f h c
      refine v_aload_n 0 C dX9_advance_22 rfl ?_
      refine g_7_0 C wf_RX9_9 dX9_advance_23 ?_
      refine v_aload_n 0 C dX9_advance_26 rfl ?_
      refine g_7_2 C wf_RX9_22 dX9_advance_27 ?_
      obtain ⟨r_30, s_30, e_30, h⟩ := bd_some h
      refine v_callVi [] C (t_X8_signAt e_30) mw_X8_signAt (at_1 _ _) rfl wm_RX9_30 ⟨by decide, by decide⟩ rfl (Nat.le_of_ble_eq_true rfl) rfl dX9_advance_30 ?_
      obtain ⟨r_33, s_33, e_33, h⟩ := bd_some h
      refine v_callSi [] C (t_X9_isBlank e_33) mw_X9_isBlank wm_RX9_34 ⟨by decide, by decide⟩ rfl (Nat.le_of_ble_eq_true rfl) rfl dX9_advance_33 ?_
      refine v_if_eq 52 C dX9_advance_36 (by decide) (fun c => ?_) (fun c => ?_)
      · have h := if_t h c
        exact tj_X9_advance_52 C R1  h
      · have h := if_f h c
        refine v_aload_n 0 C dX9_advance_39 rfl ?_
        refine v_dupr C dX9_advance_40 ?_
        refine g_7_2 C wf_RX9_22 dX9_advance_41 ?_
        refine v_iconst C dX9_advance_44 ic_1 ?_
        refine v_iadd C dX9_advance_45 ?_
        refine p_7_2 C wf_RX9_22 dX9_advance_46 ?_
        refine v_goto 8 C dX9_advance_49 (by decide) ?_
        exact hr8  _ h
set_option maxRecDepth 4000 in
theorem t_X9_advance { s fin : _} (h : f_X9_advance  s = some ((), fin)) : Ct yX9_advance cX9_advance 2 none 2 52 (fun w => [.ref (wA w 7)]) s none fin := by
  refine Ct.ofV (by decide +kernel) (fun w => Nat.le_of_ble_eq_true rfl) (fun X C R1 => ?_)
  show V X s 0 [(0, .ref (wA (xw X) 7))] []
  have C : Cx X "LitWindows$Tokens" cX9_advance 2 2 52 := C
  unfold f_X9_advance at h
  refine v_aload_n 0 C dX9_advance_0 rfl ?_
  refine v_aload_n 0 C dX9_advance_1 rfl ?_
  refine g_7_3 C wf_RX9_15 dX9_advance_2 ?_
  refine p_7_2 C wf_RX9_22 dX9_advance_5 ?_
  exact tl_X9_advance_8 C R1  FU  _ h
set_option maxRecDepth 4000 in
theorem t_X9_restart { s fin : _} (h : f_X9_restart  s = some ((), fin)) : Ct yX9_restart cX9_restart 1 none 3 73 (fun w => [.ref (wA w 7)]) s none fin := by
  refine Ct.ofV (by decide +kernel) (fun w => Nat.le_of_ble_eq_true rfl) (fun X C R1 => ?_)
  show V X s 0 [(0, .ref (wA (xw X) 7))] []
  have C : Cx X "LitWindows$Tokens" cX9_restart 1 3 73 := C
  unfold f_X9_restart at h
  refine v_aload_n 0 C dX9_restart_0 rfl ?_
  refine v_iconst C dX9_restart_1 ic_0 ?_
  refine p_7_3 C wf_RX9_15 dX9_restart_2 ?_
  refine v_aload_n 0 C dX9_restart_5 rfl ?_
  obtain ⟨r_6, s_6, e_6, h⟩ := bd_some h
  refine v_callVv [] C (t_X9_advance e_6) mw_X9_advance (at_7 _ _) rfl wm_RX9_19 ⟨by decide, by decide⟩ rfl (Nat.le_of_ble_eq_true rfl) rfl dX9_restart_6 ?_
  exact v_vreth h R1 dX9_restart_9
set_option maxRecDepth 4000 in
theorem tl_X9_isWord_27  {X : CX} {r : Int32} {fin : St} (C : Cx X "LitWindows$Tokens" cX9_isWord 3 4 111) (R1 : RtI X cX9_isWord .boolean r fin)  : ∀ (n : Nat) (k1 : Nat) (x2 : Int32) (s : St), l_X9_isWord_27  n k1 x2 s = some (r, fin) → V X s 27 [(0, .ref (wA (xw X) 7)), (1, .ref (wK (xw X) k1)), (2, .int x2)] [] := by
  intro n
  induction n with
  | zero => intro k1 x2 s h; exact none_no h
  | succ n hr27 =>
    intro k1 x2 s h
    have h : b_X9_isWord_27  (l_X9_isWord_27  n) k1 x2 s = some (r, fin) := h
    refine v_iload_n 2 C dX9_isWord_27 rfl ?_
    refine v_aload_n 1 C dX9_isWord_28 rfl ?_
    obtain ⟨r_29, s_29, e_29, h⟩ := bd_some h
    refine v_strLen [_] C e_29 wm_RX9_63 ⟨by decide, by decide⟩ (Nat.le_of_ble_eq_true rfl) rfl dX9_isWord_29 ?_
    refine v_icmp_ge 64 C dX9_isWord_32 (by decide) (fun c => ?_) (fun c => ?_)
    · have h := if_t h c
      refine v_iconst C dX9_isWord_64 ic_1 ?_
      exact v_ireth h R1 rfl dX9_isWord_65
    · have h := if_f h c
      refine v_aload_n 0 C dX9_isWord_35 rfl ?_
      refine g_7_0 C wf_RX9_9 dX9_isWord_36 ?_
      refine v_aload_n 0 C dX9_isWord_39 rfl ?_
      refine g_7_2 C wf_RX9_22 dX9_isWord_40 ?_
      refine v_iload_n 2 C dX9_isWord_43 rfl ?_
      refine v_iadd C dX9_isWord_44 ?_
      obtain ⟨r_45, s_45, e_45, h⟩ := bd_some h
      refine v_callVi [] C (t_X8_signAt e_45) mw_X8_signAt (at_1 _ _) rfl wm_RX9_30 ⟨by decide, by decide⟩ rfl (Nat.le_of_ble_eq_true rfl) rfl dX9_isWord_45 ?_
      refine v_aload_n 1 C dX9_isWord_48 rfl ?_
      refine v_iload_n 2 C dX9_isWord_49 rfl ?_
      obtain ⟨r_50, s_50, e_50, h⟩ := bd_some h
      refine v_strAt [_] C e_50 wm_RX9_68 ⟨by decide, by decide⟩ (Nat.le_of_ble_eq_true rfl) rfl dX9_isWord_50 ?_
      refine v_icmp_eq 58 C dX9_isWord_53 (by decide) (fun c => ?_) (fun c => ?_)
      · have h := if_t h c
        refine v_iinc (L1 := [(0, _), (1, _), (2, _)]) 2 [1, 2, 0] C dX9_isWord_58 rfl ic_1 (by decide) rfl ?_
        refine v_goto 27 C dX9_isWord_61 (by decide) ?_
        exact hr27 _ _ _ h
      · have h := if_f h c
        refine v_iconst C dX9_isWord_56 ic_0 ?_
        exact v_ireth h R1 rfl dX9_isWord_57
set_option maxRecDepth 4000 in
theorem t_X9_isWord {k1 s fin : _} {r : Int32} (h : f_X9_isWord k1 s = some (r, fin)) : Ct yX9_isWord cX9_isWord 3 (some .boolean) 4 111 (fun w => [.ref (wA w 7), .ref (wK w k1)]) s (some (.int r)) fin := by
  refine Ct.ofI (by decide +kernel) (fun w => Nat.le_of_ble_eq_true rfl) (fun X C R1 => ?_)
  show V X s 0 [(0, .ref (wA (xw X) 7)), (1, .ref (wK (xw X) k1))] []
  have C : Cx X "LitWindows$Tokens" cX9_isWord 3 4 111 := C
  refine v_aload_n 0 C dX9_isWord_0 rfl ?_
  refine g_7_1 C wf_RX9_38 dX9_isWord_1 ?_
  refine v_if_ne 23 C dX9_isWord_4 (by decide) (fun c => ?_) (fun c => ?_)
  · have h := if_f h c
    refine v_iconst C dX9_isWord_23 ic_0 ?_
    exact v_ireth h R1 rfl dX9_isWord_24
  · have h := if_t h c
    refine v_aload_n 0 C dX9_isWord_7 rfl ?_
    refine g_7_3 C wf_RX9_15 dX9_isWord_8 ?_
    refine v_aload_n 0 C dX9_isWord_11 rfl ?_
    refine g_7_2 C wf_RX9_22 dX9_isWord_12 ?_
    refine v_isub C dX9_isWord_15 ?_
    refine v_aload_n 1 C dX9_isWord_16 rfl ?_
    obtain ⟨r_17, s_17, e_17, h⟩ := bd_some h
    refine v_strLen [_] C e_17 wm_RX9_63 ⟨by decide, by decide⟩ (Nat.le_of_ble_eq_true rfl) rfl dX9_isWord_17 ?_
    refine v_icmp_eq 25 C dX9_isWord_20 (by decide) (fun c => ?_) (fun c => ?_)
    · have h := if_t h c
      refine v_iconst C dX9_isWord_25 ic_0 ?_
      refine v_istore_n (L1 := [(0, _), (1, _), (2, _)]) [1, 2, 0] C dX9_isWord_26 (by decide) rfl ?_
      exact tl_X9_isWord_27 C R1  FU _ _ _ h
    · have h := if_f h c
      refine v_iconst C dX9_isWord_23 ic_0 ?_
      exact v_ireth h R1 rfl dX9_isWord_24
set_option maxRecDepth 4000 in
theorem t_X4_takeNumber {x1 x2 s fin : _} {r : Int32} (h : f_X4_takeNumber x1 x2 s = some (r, fin)) : Ct yX4_takeNumber cX4_takeNumber 3 (some .boolean) 3 73 (fun w => [.ref (wA w 3), .int x1, .int x2]) s (some (.int r)) fin := by
  refine Ct.ofI (by decide +kernel) (fun w => Nat.le_of_ble_eq_true rfl) (fun X C R1 => ?_)
  show V X s 0 [(0, .ref (wA (xw X) 3)), (1, .int x1), (2, .int x2)] []
  have C : Cx X "LitWindows$Reader" cX4_takeNumber 3 3 73 := C
  refine v_aload_n 0 C dX4_takeNumber_0 rfl ?_
  refine g_3_1 C wf_RX4_30 dX4_takeNumber_1 ?_
  refine g_7_1 C wf_RX4_42 dX4_takeNumber_4 ?_
  refine v_iconst C dX4_takeNumber_7 ic_1 ?_
  refine v_icmp_ne 33 C dX4_takeNumber_8 (by decide) (fun c => ?_) (fun c => ?_)
  · have h := if_f h c
    refine v_iconst C dX4_takeNumber_33 ic_0 ?_
    exact v_ireth h R1 rfl dX4_takeNumber_34
  · have h := if_t h c
    refine v_aload_n 0 C dX4_takeNumber_11 rfl ?_
    refine g_3_1 C wf_RX4_30 dX4_takeNumber_12 ?_
    refine g_7_4 C wf_RX4_158 dX4_takeNumber_15 ?_
    refine v_iload_n 1 C dX4_takeNumber_18 rfl ?_
    refine v_icmp_lt 33 C dX4_takeNumber_19 (by decide) (fun c => ?_) (fun c => ?_)
    · have h := if_t h c
      refine v_iconst C dX4_takeNumber_33 ic_0 ?_
      exact v_ireth h R1 rfl dX4_takeNumber_34
    · have h := if_f h c
      refine v_aload_n 0 C dX4_takeNumber_22 rfl ?_
      refine g_3_1 C wf_RX4_30 dX4_takeNumber_23 ?_
      refine g_7_4 C wf_RX4_158 dX4_takeNumber_26 ?_
      refine v_iload_n 2 C dX4_takeNumber_29 rfl ?_
      refine v_icmp_le 35 C dX4_takeNumber_30 (by decide) (fun c => ?_) (fun c => ?_)
      · have h := if_t h c
        refine v_aload_n 0 C dX4_takeNumber_35 rfl ?_
        refine v_aload_n 0 C dX4_takeNumber_36 rfl ?_
        refine g_3_1 C wf_RX4_30 dX4_takeNumber_37 ?_
        refine g_7_4 C wf_RX4_158 dX4_takeNumber_40 ?_
        refine p_3_5 C wf_RX4_120 dX4_takeNumber_43 ?_
        refine v_aload_n 0 C dX4_takeNumber_46 rfl ?_
        refine g_3_1 C wf_RX4_30 dX4_takeNumber_47 ?_
        obtain ⟨r_50, s_50, e_50, h⟩ := bd_some h
        refine v_callVv [] C (t_X9_advance e_50) mw_X9_advance (at_7 _ _) rfl wm_RX4_91 ⟨by decide, by decide⟩ rfl (Nat.le_of_ble_eq_true rfl) rfl dX4_takeNumber_50 ?_
        refine v_iconst C dX4_takeNumber_53 ic_1 ?_
        exact v_ireth h R1 rfl dX4_takeNumber_54
      · have h := if_f h c
        refine v_iconst C dX4_takeNumber_33 ic_0 ?_
        exact v_ireth h R1 rfl dX4_takeNumber_34
set_option maxRecDepth 4000 in
theorem t_X4_takeWord {k1 s fin : _} {r : Int32} (h : f_X4_takeWord k1 s = some (r, fin)) : Ct yX4_takeWord cX4_takeWord 2 (some .boolean) 5 133 (fun w => [.ref (wA w 3), .ref (wK w k1)]) s (some (.int r)) fin := by
  refine Ct.ofI (by decide +kernel) (fun w => Nat.le_of_ble_eq_true rfl) (fun X C R1 => ?_)
  show V X s 0 [(0, .ref (wA (xw X) 3)), (1, .ref (wK (xw X) k1))] []
  have C : Cx X "LitWindows$Reader" cX4_takeWord 2 5 133 := C
  refine v_aload_n 0 C dX4_takeWord_0 rfl ?_
  refine g_3_1 C wf_RX4_30 dX4_takeWord_1 ?_
  refine v_aload_n 1 C dX4_takeWord_4 rfl ?_
  obtain ⟨r_5, s_5, e_5, h⟩ := bd_some h
  refine v_callVi [] C (t_X9_isWord e_5) mw_X9_isWord (at_7 _ _) rfl wm_RX4_48 ⟨by decide, by decide⟩ rfl (Nat.le_of_ble_eq_true rfl) rfl dX4_takeWord_5 ?_
  refine v_if_ne 13 C dX4_takeWord_8 (by decide) (fun c => ?_) (fun c => ?_)
  · have h := if_f h c
    refine v_aload_n 0 C dX4_takeWord_13 rfl ?_
    refine g_3_1 C wf_RX4_30 dX4_takeWord_14 ?_
    obtain ⟨r_17, s_17, e_17, h⟩ := bd_some h
    refine v_callVv [] C (t_X9_advance e_17) mw_X9_advance (at_7 _ _) rfl wm_RX4_91 ⟨by decide, by decide⟩ rfl (Nat.le_of_ble_eq_true rfl) rfl dX4_takeWord_17 ?_
    refine v_iconst C dX4_takeWord_20 ic_1 ?_
    exact v_ireth h R1 rfl dX4_takeWord_21
  · have h := if_t h c
    refine v_iconst C dX4_takeWord_11 ic_0 ?_
    exact v_ireth h R1 rfl dX4_takeWord_12
set_option maxRecDepth 4000 in
theorem t_X4_isNumber {x1 s fin : _} {r : Int32} (h : f_X4_isNumber x1 s = some (r, fin)) : Ct yX4_isNumber cX4_isNumber 2 (some .boolean) 0 0 (fun w => [.ref (wA w 3), .int x1]) s (some (.int r)) fin := by
  refine Ct.ofI (by decide +kernel) (fun w => Nat.le_of_ble_eq_true rfl) (fun X C R1 => ?_)
  show V X s 0 [(0, .ref (wA (xw X) 3)), (1, .int x1)] []
  have C : Cx X "LitWindows$Reader" cX4_isNumber 2 0 0 := C
  refine v_aload_n 0 C dX4_isNumber_0 rfl ?_
  refine g_3_1 C wf_RX4_30 dX4_isNumber_1 ?_
  refine g_7_1 C wf_RX4_42 dX4_isNumber_4 ?_
  refine v_iconst C dX4_isNumber_7 ic_1 ?_
  refine v_icmp_ne 26 C dX4_isNumber_8 (by decide) (fun c => ?_) (fun c => ?_)
  · have h := if_f h c
    refine v_iconst C dX4_isNumber_26 ic_0 ?_
    exact v_ireth h R1 rfl dX4_isNumber_27
  · have h := if_t h c
    refine v_aload_n 0 C dX4_isNumber_11 rfl ?_
    refine g_3_1 C wf_RX4_30 dX4_isNumber_12 ?_
    refine g_7_4 C wf_RX4_158 dX4_isNumber_15 ?_
    refine v_iload_n 1 C dX4_isNumber_18 rfl ?_
    refine v_icmp_ne 26 C dX4_isNumber_19 (by decide) (fun c => ?_) (fun c => ?_)
    · have h := if_f h c
      refine v_iconst C dX4_isNumber_26 ic_0 ?_
      exact v_ireth h R1 rfl dX4_isNumber_27
    · have h := if_t h c
      refine v_iconst C dX4_isNumber_22 ic_1 ?_
      refine v_goto 27 C dX4_isNumber_23 (by decide) ?_
      exact v_ireth h R1 rfl dX4_isNumber_27
set_option maxRecDepth 4000 in
theorem t_X4_takeSemicolon { s fin : _} {r : Int32} (h : f_X4_takeSemicolon  s = some (r, fin)) : Ct yX4_takeSemicolon cX4_takeSemicolon 1 (some .boolean) 3 73 (fun w => [.ref (wA w 3)]) s (some (.int r)) fin := by
  refine Ct.ofI (by decide +kernel) (fun w => Nat.le_of_ble_eq_true rfl) (fun X C R1 => ?_)
  show V X s 0 [(0, .ref (wA (xw X) 3))] []
  have C : Cx X "LitWindows$Reader" cX4_takeSemicolon 1 3 73 := C
  refine v_aload_n 0 C dX4_takeSemicolon_0 rfl ?_
  refine g_3_1 C wf_RX4_30 dX4_takeSemicolon_1 ?_
  refine g_7_1 C wf_RX4_42 dX4_takeSemicolon_4 ?_
  refine v_iconst C dX4_takeSemicolon_7 ic_2 ?_
  refine v_icmp_eq 13 C dX4_takeSemicolon_8 (by decide) (fun c => ?_) (fun c => ?_)
  · have h := if_t h c
    refine v_aload_n 0 C dX4_takeSemicolon_13 rfl ?_
    refine g_3_1 C wf_RX4_30 dX4_takeSemicolon_14 ?_
    obtain ⟨r_17, s_17, e_17, h⟩ := bd_some h
    refine v_callVv [] C (t_X9_advance e_17) mw_X9_advance (at_7 _ _) rfl wm_RX4_91 ⟨by decide, by decide⟩ rfl (Nat.le_of_ble_eq_true rfl) rfl dX4_takeSemicolon_17 ?_
    refine v_iconst C dX4_takeSemicolon_20 ic_1 ?_
    exact v_ireth h R1 rfl dX4_takeSemicolon_21
  · have h := if_f h c
    refine v_iconst C dX4_takeSemicolon_11 ic_0 ?_
    exact v_ireth h R1 rfl dX4_takeSemicolon_12
set_option maxRecDepth 4000 in
theorem t_X3_addRule_d {x1 x2 x3 s fin : _} (h : f_X3_addRule_d x1 x2 x3 s = some ((), fin)) : Ct yX3_addRule cX3_addRule 4 none 0 0 (fun w => [.ref (wA w 18), .int x1, .int x2, .int x3]) s none fin := by
  refine Ct.ofV (by decide +kernel) (fun w => Nat.le_of_ble_eq_true rfl) (fun X C R1 => ?_)
  show V X s 0 [(0, .ref (wA (xw X) 18)), (1, .int x1), (2, .int x2), (3, .int x3)] []
  have C : Cx X "LitWindows$Plant" cX3_addRule 4 0 0 := C
  refine v_aload_n 0 C dX3_addRule_0 rfl ?_
  refine g_18_3 C wf_RX3_50 dX3_addRule_1 ?_
  refine v_bipush C dX3_addRule_4 bp_8 ?_
  refine v_icmp_ge 49 C dX3_addRule_6 (by decide) (fun c => ?_) (fun c => ?_)
  · have h := if_t h c
    exact v_vreth h R1 dX3_addRule_49
  · have h := if_f h c
    refine v_aload_n 0 C dX3_addRule_9 rfl ?_
    refine g_18_10 C wf_RX3_31 dX3_addRule_10 ?_
    refine v_aload_n 0 C dX3_addRule_13 rfl ?_
    refine g_18_3 C wf_RX3_50 dX3_addRule_14 ?_
    refine v_iload_n 1 C dX3_addRule_17 rfl ?_
    obtain ⟨hi, h⟩ := gi_some h
    refine ast_25 C hi dX3_addRule_18 ?_
    refine v_aload_n 0 C dX3_addRule_19 rfl ?_
    refine g_18_11 C wf_RX3_34 dX3_addRule_20 ?_
    refine v_aload_n 0 C dX3_addRule_23 rfl ?_
    refine g_18_3 C wf_RX3_50 dX3_addRule_24 ?_
    refine v_iload_n 2 C dX3_addRule_27 rfl ?_
    obtain ⟨hi, h⟩ := gi_some h
    refine ast_26 C hi dX3_addRule_28 ?_
    refine v_aload_n 0 C dX3_addRule_29 rfl ?_
    refine g_18_12 C wf_RX3_37 dX3_addRule_30 ?_
    refine v_aload_n 0 C dX3_addRule_33 rfl ?_
    refine g_18_3 C wf_RX3_50 dX3_addRule_34 ?_
    refine v_iload_n 3 C dX3_addRule_37 rfl ?_
    obtain ⟨hi, h⟩ := gi_some h
    refine ast_27 C hi dX3_addRule_38 ?_
    refine v_aload_n 0 C dX3_addRule_39 rfl ?_
    refine v_dupr C dX3_addRule_40 ?_
    refine g_18_3 C wf_RX3_50 dX3_addRule_41 ?_
    refine v_iconst C dX3_addRule_44 ic_1 ?_
    refine v_iadd C dX3_addRule_45 ?_
    refine p_18_3 C wf_RX3_50 dX3_addRule_46 ?_
    exact v_vreth h R1 dX3_addRule_49
set_option maxRecDepth 4000 in
theorem tj_X4_readRule_d_120  {X : CX} {r : Int32} {fin : St} (C : Cx X "LitWindows$Reader" cX4_readRule 6 6 154) (R1 : RtI X cX4_readRule .boolean r fin)  {x3 x4 x5 s : _} (h : j_X4_readRule_d_120  x3 x4 x5 s = some (r, fin)) : V X s 120 [(0, .ref (wA (xw X) 3)), (1, .ref (wA (xw X) 18)), (3, .int x3), (4, .int x4), (5, .int x5)] [] := by
  refine v_aload_n 0 C dX4_readRule_120 rfl ?_
  obtain ⟨r_121, s_121, e_121, h⟩ := bd_some h
  refine v_callVi [] C (t_X4_takeSemicolon e_121) mw_X4_takeSemicolon (at_3 _ _) rfl wm_RX4_109 ⟨by decide, by decide⟩ rfl (Nat.le_of_ble_eq_true rfl) rfl dX4_readRule_121 ?_
  refine v_if_ne 129 C dX4_readRule_124 (by decide) (fun c => ?_) (fun c => ?_)
  · have h := if_f h c
    refine v_aload_n 1 C dX4_readRule_129 rfl ?_
    refine v_iload_n 2 C dX4_readRule_130 rfl ?_
    refine v_iload 3 C dX4_readRule_131 rfl ?_
    refine v_iload 4 C dX4_readRule_133 rfl ?_
    obtain ⟨r_135, s_135, e_135, h⟩ := bd_some h
    refine v_callVv [] C (t_X3_addRule_d e_135) mw_X3_addRule (at_18 _ _) rfl wm_RX4_155 ⟨by decide, by decide⟩ rfl (Nat.le_of_ble_eq_true rfl) rfl dX4_readRule_135 ?_
    refine v_iconst C dX4_readRule_138 ic_1 ?_
    exact v_ireth h R1 rfl dX4_readRule_139
  · have h := if_t h c
    refine v_iconst C dX4_readRule_127 ic_0 ?_
    exact v_ireth h R1 rfl dX4_readRule_128
set_option maxRecDepth 4000 in
theorem t_X4_readRule_d { s fin : _} {r : Int32} (h : f_X4_readRule_d  s = some (r, fin)) : Ct yX4_readRule cX4_readRule 6 (some .boolean) 6 154 (fun w => [.ref (wA w 3), .ref (wA w 18)]) s (some (.int r)) fin := by
  refine Ct.ofI (by decide +kernel) (fun w => Nat.le_of_ble_eq_true rfl) (fun X C R1 => ?_)
  show V X s 0 [(0, .ref (wA (xw X) 3)), (1, .ref (wA (xw X) 18))] []
  have C : Cx X "LitWindows$Reader" cX4_readRule 6 6 154 := C
  refine v_aload_n 0 C dX4_readRule_0 rfl ?_
  refine g_3_1 C wf_RX4_30 dX4_readRule_1 ?_
  obtain ⟨r_4, s_4, e_4, h⟩ := bd_some h
  refine v_callVv [] C (t_X9_advance e_4) mw_X9_advance (at_7 _ _) rfl wm_RX4_91 ⟨by decide, by decide⟩ rfl (Nat.le_of_ble_eq_true rfl) rfl dX4_readRule_4 ?_
  refine v_aload_n 1 C dX4_readRule_7 rfl ?_
  refine g_18_2 C wf_RX4_69 dX4_readRule_8 ?_
  refine v_iconst C dX4_readRule_11 ic_1 ?_
  refine v_isub C dX4_readRule_12 ?_
  refine v_istore_n (L1 := [(0, _), (1, _), (2, _)]) [1, 2, 0] C dX4_readRule_13 (by decide) rfl ?_
  refine v_aload_n 0 C dX4_readRule_14 rfl ?_
  refine v_iconst C dX4_readRule_15 ic_0 ?_
  refine v_iload_n 2 C dX4_readRule_16 rfl ?_
  obtain ⟨r_17, s_17, e_17, h⟩ := bd_some h
  refine v_callVi [] C (t_X4_takeNumber e_17) mw_X4_takeNumber (at_3 _ _) rfl wm_RX4_130 ⟨by decide, by decide⟩ rfl (Nat.le_of_ble_eq_true rfl) rfl dX4_readRule_17 ?_
  refine v_if_ne 25 C dX4_readRule_20 (by decide) (fun c => ?_) (fun c => ?_)
  · have h := if_f h c
    refine v_aload_n 0 C dX4_readRule_25 rfl ?_
    refine g_3_5 C wf_RX4_120 dX4_readRule_26 ?_
    refine v_istore_n (L1 := [(0, _), (1, _), (2, _), (3, _)]) [1, 2, 3, 0] C dX4_readRule_29 (by decide) rfl ?_
    refine v_aload_n 0 C dX4_readRule_30 rfl ?_
    refine v_ldcS 9 (tx := "while") C (by decide) dX4_readRule_31 ?_
    obtain ⟨r_33, s_33, e_33, h⟩ := bd_some h
    refine v_callVi [] C (t_X4_takeWord e_33) mw_X4_takeWord (at_3 _ _) rfl wm_RX4_125 ⟨by decide, by decide⟩ rfl (Nat.le_of_ble_eq_true rfl) rfl dX4_readRule_33 ?_
    refine v_if_eq 56 C dX4_readRule_36 (by decide) (fun c => ?_) (fun c => ?_)
    · have h := if_t h c
      refine v_iconst C dX4_readRule_56 ic_0 ?_
      exact v_ireth h R1 rfl dX4_readRule_57
    · have h := if_f h c
      refine v_aload_n 0 C dX4_readRule_39 rfl ?_
      refine v_iload_n 3 C dX4_readRule_40 rfl ?_
      obtain ⟨r_41, s_41, e_41, h⟩ := bd_some h
      refine v_callVi [] C (t_X4_isNumber e_41) mw_X4_isNumber (at_3 _ _) rfl wm_RX4_150 ⟨by decide, by decide⟩ rfl (Nat.le_of_ble_eq_true rfl) rfl dX4_readRule_41 ?_
      refine v_if_ne 56 C dX4_readRule_44 (by decide) (fun c => ?_) (fun c => ?_)
      · have h := if_f h c
        refine v_iconst C dX4_readRule_56 ic_0 ?_
        exact v_ireth h R1 rfl dX4_readRule_57
      · have h := if_t h c
        refine v_aload_n 0 C dX4_readRule_47 rfl ?_
        refine v_iconst C dX4_readRule_48 ic_0 ?_
        refine v_iload_n 2 C dX4_readRule_49 rfl ?_
        obtain ⟨r_50, s_50, e_50, h⟩ := bd_some h
        refine v_callVi [] C (t_X4_takeNumber e_50) mw_X4_takeNumber (at_3 _ _) rfl wm_RX4_130 ⟨by decide, by decide⟩ rfl (Nat.le_of_ble_eq_true rfl) rfl dX4_readRule_50 ?_
        refine v_if_ne 58 C dX4_readRule_53 (by decide) (fun c => ?_) (fun c => ?_)
        · have h := if_f h c
          refine v_aload_n 0 C dX4_readRule_58 rfl ?_
          refine g_3_5 C wf_RX4_120 dX4_readRule_59 ?_
          refine v_istore (L1 := [(0, _), (1, _), (2, _), (3, _), (4, _)]) [1, 2, 3, 4, 0] C dX4_readRule_62 (by decide) rfl ?_
          refine v_iconst C dX4_readRule_64 ic_m1 ?_
          refine v_istore (L1 := [(0, _), (1, _), (2, _), (3, _), (4, _), (5, _)]) [1, 2, 3, 4, 5, 0] C dX4_readRule_65 (by decide) rfl ?_
          refine v_aload_n 0 C dX4_readRule_67 rfl ?_
          refine g_3_1 C wf_RX4_30 dX4_readRule_68 ?_
          refine v_ldcS 10 (tx := "not") C (by decide) dX4_readRule_71 ?_
          obtain ⟨r_73, s_73, e_73, h⟩ := bd_some h
          refine v_callVi [] C (t_X9_isWord e_73) mw_X9_isWord (at_7 _ _) rfl wm_RX4_48 ⟨by decide, by decide⟩ rfl (Nat.le_of_ble_eq_true rfl) rfl dX4_readRule_73 ?_
          refine v_if_eq 120 C dX4_readRule_76 (by decide) (fun c => ?_) (fun c => ?_)
          · have h := if_t h c
            refine v_sub [0, 1, 3, 4, 5] (L1 := [(0, _), (1, _), (3, _), (4, _), (5, _)]) rfl ?_
            exact tj_X4_readRule_d_120 C R1  h
          · have h := if_f h c
            refine v_aload_n 0 C dX4_readRule_79 rfl ?_
            refine g_3_1 C wf_RX4_30 dX4_readRule_80 ?_
            obtain ⟨r_83, s_83, e_83, h⟩ := bd_some h
            refine v_callVv [] C (t_X9_advance e_83) mw_X9_advance (at_7 _ _) rfl wm_RX4_91 ⟨by decide, by decide⟩ rfl (Nat.le_of_ble_eq_true rfl) rfl dX4_readRule_83 ?_
            refine v_aload_n 0 C dX4_readRule_86 rfl ?_
            refine v_iload_n 3 C dX4_readRule_87 rfl ?_
            obtain ⟨r_88, s_88, e_88, h⟩ := bd_some h
            refine v_callVi [] C (t_X4_isNumber e_88) mw_X4_isNumber (at_3 _ _) rfl wm_RX4_150 ⟨by decide, by decide⟩ rfl (Nat.le_of_ble_eq_true rfl) rfl dX4_readRule_88 ?_
            refine v_if_ne 112 C dX4_readRule_91 (by decide) (fun c => ?_) (fun c => ?_)
            · have h := if_f h c
              refine v_iconst C dX4_readRule_112 ic_0 ?_
              exact v_ireth h R1 rfl dX4_readRule_113
            · have h := if_t h c
              refine v_aload_n 0 C dX4_readRule_94 rfl ?_
              refine v_iload 4 C dX4_readRule_95 rfl ?_
              obtain ⟨r_97, s_97, e_97, h⟩ := bd_some h
              refine v_callVi [] C (t_X4_isNumber e_97) mw_X4_isNumber (at_3 _ _) rfl wm_RX4_150 ⟨by decide, by decide⟩ rfl (Nat.le_of_ble_eq_true rfl) rfl dX4_readRule_97 ?_
              refine v_if_ne 112 C dX4_readRule_100 (by decide) (fun c => ?_) (fun c => ?_)
              · have h := if_f h c
                refine v_iconst C dX4_readRule_112 ic_0 ?_
                exact v_ireth h R1 rfl dX4_readRule_113
              · have h := if_t h c
                refine v_aload_n 0 C dX4_readRule_103 rfl ?_
                refine v_iconst C dX4_readRule_104 ic_0 ?_
                refine v_iload_n 2 C dX4_readRule_105 rfl ?_
                obtain ⟨r_106, s_106, e_106, h⟩ := bd_some h
                refine v_callVi [] C (t_X4_takeNumber e_106) mw_X4_takeNumber (at_3 _ _) rfl wm_RX4_130 ⟨by decide, by decide⟩ rfl (Nat.le_of_ble_eq_true rfl) rfl dX4_readRule_106 ?_
                refine v_if_ne 114 C dX4_readRule_109 (by decide) (fun c => ?_) (fun c => ?_)
                · have h := if_f h c
                  refine v_aload_n 0 C dX4_readRule_114 rfl ?_
                  refine g_3_5 C wf_RX4_120 dX4_readRule_115 ?_
                  refine v_istore (L1 := [(0, _), (1, _), (2, _), (3, _), (4, _), (5, _)]) [1, 2, 3, 4, 5, 0] C dX4_readRule_118 (by decide) rfl ?_
                  refine v_sub [0, 1, 3, 4, 5] (L1 := [(0, _), (1, _), (3, _), (4, _), (5, _)]) rfl ?_
                  exact tj_X4_readRule_d_120 C R1  h
                · have h := if_t h c
                  refine v_iconst C dX4_readRule_112 ic_0 ?_
                  exact v_ireth h R1 rfl dX4_readRule_113
        · have h := if_t h c
          refine v_iconst C dX4_readRule_56 ic_0 ?_
          exact v_ireth h R1 rfl dX4_readRule_57
  · have h := if_t h c
    refine v_iconst C dX4_readRule_23 ic_0 ?_
    exact v_ireth h R1 rfl dX4_readRule_24
set_option maxRecDepth 4000 in
theorem tl_X4_isNamed_37  {X : CX} {r : Int32} {fin : St} (C : Cx X "LitWindows$Reader" cX4_isNamed 4 1 21) (R1 : RtI X cX4_isNamed .boolean r fin)  : ∀ (n : Nat) (x1 : Int32) (x2 : Int32) (x3 : Int32) (s : St), l_X4_isNamed_37  n x1 x2 x3 s = some (r, fin) → V X s 37 [(0, .ref (wA (xw X) 3)), (1, .int x1), (2, .int x2), (3, .int x3)] [] := by
  intro n
  induction n with
  | zero => intro x1 x2 x3 s h; exact none_no h
  | succ n hr37 =>
    intro x1 x2 x3 s h
    have h : b_X4_isNamed_37  (l_X4_isNamed_37  n) x1 x2 x3 s = some (r, fin) := h
    refine v_iload_n 3 C dX4_isNamed_37 rfl ?_
    refine v_iload_n 2 C dX4_isNamed_38 rfl ?_
    refine v_icmp_ge 84 C dX4_isNamed_39 (by decide) (fun c => ?_) (fun c => ?_)
    · have h := if_t h c
      refine v_iconst C dX4_isNamed_84 ic_1 ?_
      exact v_ireth h R1 rfl dX4_isNamed_85
    · have h := if_f h c
      refine v_aload_n 0 C dX4_isNamed_42 rfl ?_
      refine g_3_0 C wf_RX4_21 dX4_isNamed_43 ?_
      refine v_aload_n 0 C dX4_isNamed_46 rfl ?_
      refine g_3_2 C wf_RX4_9 dX4_isNamed_47 ?_
      refine v_iload_n 1 C dX4_isNamed_50 rfl ?_
      obtain ⟨hi, h⟩ := gi_some h
      refine ald_4 C hi dX4_isNamed_51 ?_
      refine v_iload_n 3 C dX4_isNamed_52 rfl ?_
      refine v_iadd C dX4_isNamed_53 ?_
      obtain ⟨r_54, s_54, e_54, h⟩ := bd_some h
      refine v_callVi [] C (t_X8_signAt e_54) mw_X8_signAt (at_1 _ _) rfl wm_RX4_164 ⟨by decide, by decide⟩ rfl (Nat.le_of_ble_eq_true rfl) rfl dX4_isNamed_54 ?_
      refine v_aload_n 0 C dX4_isNamed_57 rfl ?_
      refine g_3_0 C wf_RX4_21 dX4_isNamed_58 ?_
      refine v_aload_n 0 C dX4_isNamed_61 rfl ?_
      refine g_3_1 C wf_RX4_30 dX4_isNamed_62 ?_
      refine g_7_2 C wf_RX4_83 dX4_isNamed_65 ?_
      refine v_iload_n 3 C dX4_isNamed_68 rfl ?_
      refine v_iadd C dX4_isNamed_69 ?_
      obtain ⟨r_70, s_70, e_70, h⟩ := bd_some h
      refine v_callVi [_] C (t_X8_signAt e_70) mw_X8_signAt (at_1 _ _) rfl wm_RX4_164 ⟨by decide, by decide⟩ rfl (Nat.le_of_ble_eq_true rfl) rfl dX4_isNamed_70 ?_
      refine v_icmp_eq 78 C dX4_isNamed_73 (by decide) (fun c => ?_) (fun c => ?_)
      · have h := if_t h c
        refine v_iinc (L1 := [(0, _), (1, _), (2, _), (3, _)]) 3 [1, 2, 3, 0] C dX4_isNamed_78 rfl ic_1 (by decide) rfl ?_
        refine v_goto 37 C dX4_isNamed_81 (by decide) ?_
        exact hr37 _ _ _ _ h
      · have h := if_f h c
        refine v_iconst C dX4_isNamed_76 ic_0 ?_
        exact v_ireth h R1 rfl dX4_isNamed_77
set_option maxRecDepth 4000 in
theorem t_X4_isNamed {x1 s fin : _} {r : Int32} (h : f_X4_isNamed x1 s = some (r, fin)) : Ct yX4_isNamed cX4_isNamed 4 (some .boolean) 1 21 (fun w => [.ref (wA w 3), .int x1]) s (some (.int r)) fin := by
  refine Ct.ofI (by decide +kernel) (fun w => Nat.le_of_ble_eq_true rfl) (fun X C R1 => ?_)
  show V X s 0 [(0, .ref (wA (xw X) 3)), (1, .int x1)] []
  have C : Cx X "LitWindows$Reader" cX4_isNamed 4 1 21 := C
  refine v_aload_n 0 C dX4_isNamed_0 rfl ?_
  refine g_3_3 C wf_RX4_15 dX4_isNamed_1 ?_
  refine v_iload_n 1 C dX4_isNamed_4 rfl ?_
  obtain ⟨hi, h⟩ := gi_some h
  refine ald_5 C hi dX4_isNamed_5 ?_
  refine v_aload_n 0 C dX4_isNamed_6 rfl ?_
  refine g_3_2 C wf_RX4_9 dX4_isNamed_7 ?_
  refine v_iload_n 1 C dX4_isNamed_10 rfl ?_
  obtain ⟨hi, h⟩ := gi_some h
  refine ald_4 C hi dX4_isNamed_11 ?_
  refine v_isub C dX4_isNamed_12 ?_
  refine v_istore_n (L1 := [(0, _), (1, _), (2, _)]) [1, 2, 0] C dX4_isNamed_13 (by decide) rfl ?_
  refine v_aload_n 0 C dX4_isNamed_14 rfl ?_
  refine g_3_1 C wf_RX4_30 dX4_isNamed_15 ?_
  refine g_7_3 C wf_RX4_102 dX4_isNamed_18 ?_
  refine v_aload_n 0 C dX4_isNamed_21 rfl ?_
  refine g_3_1 C wf_RX4_30 dX4_isNamed_22 ?_
  refine g_7_2 C wf_RX4_83 dX4_isNamed_25 ?_
  refine v_isub C dX4_isNamed_28 ?_
  refine v_iload_n 2 C dX4_isNamed_29 rfl ?_
  refine v_icmp_eq 35 C dX4_isNamed_30 (by decide) (fun c => ?_) (fun c => ?_)
  · have h := if_t h c
    refine v_iconst C dX4_isNamed_35 ic_0 ?_
    refine v_istore_n (L1 := [(0, _), (1, _), (2, _), (3, _)]) [1, 2, 3, 0] C dX4_isNamed_36 (by decide) rfl ?_
    exact tl_X4_isNamed_37 C R1  FU _ _ _ _ h
  · have h := if_f h c
    refine v_iconst C dX4_isNamed_33 ic_0 ?_
    exact v_ireth h R1 rfl dX4_isNamed_34
set_option maxRecDepth 4000 in
theorem tl_X4_findPoint_2  {X : CX} {r : Int32} {fin : St} (C : Cx X "LitWindows$Reader" cX4_findPoint 3 2 44) (R1 : RtI X cX4_findPoint .int r fin)  : ∀ (n : Nat) (x1 : Int32) (x2 : Int32) (s : St), l_X4_findPoint_2  n x1 x2 s = some (r, fin) → V X s 2 [(0, .ref (wA (xw X) 3)), (1, .int x1), (2, .int x2)] [] := by
  intro n
  induction n with
  | zero => intro x1 x2 s h; exact none_no h
  | succ n hr2 =>
    intro x1 x2 s h
    have h : b_X4_findPoint_2  (l_X4_findPoint_2  n) x1 x2 s = some (r, fin) := h
    refine v_iload_n 2 C dX4_findPoint_2 rfl ?_
    refine v_iload_n 1 C dX4_findPoint_3 rfl ?_
    refine v_icmp_ge 33 C dX4_findPoint_4 (by decide) (fun c => ?_) (fun c => ?_)
    · have h := if_t h c
      refine v_iconst C dX4_findPoint_33 ic_m1 ?_
      exact v_ireth h R1 rfl dX4_findPoint_34
    · have h := if_f h c
      refine v_aload_n 0 C dX4_findPoint_7 rfl ?_
      refine g_3_1 C wf_RX4_30 dX4_findPoint_8 ?_
      refine g_7_1 C wf_RX4_42 dX4_findPoint_11 ?_
      refine v_if_ne 27 C dX4_findPoint_14 (by decide) (fun c => ?_) (fun c => ?_)
      · have h := if_f h c
        refine v_iinc (L1 := [(0, _), (1, _), (2, _)]) 2 [1, 2, 0] C dX4_findPoint_27 rfl ic_1 (by decide) rfl ?_
        refine v_goto 2 C dX4_findPoint_30 (by decide) ?_
        exact hr2 _ _ _ h
      · have h := if_t h c
        refine v_aload_n 0 C dX4_findPoint_17 rfl ?_
        refine v_iload_n 2 C dX4_findPoint_18 rfl ?_
        obtain ⟨r_19, s_19, e_19, h⟩ := bd_some h
        refine v_callVi [] C (t_X4_isNamed e_19) mw_X4_isNamed (at_3 _ _) rfl wm_RX4_161 ⟨by decide, by decide⟩ rfl (Nat.le_of_ble_eq_true rfl) rfl dX4_findPoint_19 ?_
        refine v_if_eq 27 C dX4_findPoint_22 (by decide) (fun c => ?_) (fun c => ?_)
        · have h := if_t h c
          refine v_iinc (L1 := [(0, _), (1, _), (2, _)]) 2 [1, 2, 0] C dX4_findPoint_27 rfl ic_1 (by decide) rfl ?_
          refine v_goto 2 C dX4_findPoint_30 (by decide) ?_
          exact hr2 _ _ _ h
        · have h := if_f h c
          refine v_iload_n 2 C dX4_findPoint_25 rfl ?_
          exact v_ireth h R1 rfl dX4_findPoint_26
set_option maxRecDepth 4000 in
theorem t_X4_findPoint {x1 s fin : _} {r : Int32} (h : f_X4_findPoint x1 s = some (r, fin)) : Ct yX4_findPoint cX4_findPoint 3 (some .int) 2 44 (fun w => [.ref (wA w 3), .int x1]) s (some (.int r)) fin := by
  refine Ct.ofI (by decide +kernel) (fun w => Nat.le_of_ble_eq_true rfl) (fun X C R1 => ?_)
  show V X s 0 [(0, .ref (wA (xw X) 3)), (1, .int x1)] []
  have C : Cx X "LitWindows$Reader" cX4_findPoint 3 2 44 := C
  refine v_iconst C dX4_findPoint_0 ic_0 ?_
  refine v_istore_n (L1 := [(0, _), (1, _), (2, _)]) [1, 2, 0] C dX4_findPoint_1 (by decide) rfl ?_
  exact tl_X4_findPoint_2 C R1  FU _ _ _ h
set_option maxRecDepth 4000 in
theorem t_X4_takePoint {x1 s fin : _} {r : Int32} (h : f_X4_takePoint x1 s = some (r, fin)) : Ct yX4_takePoint cX4_takePoint 3 (some .boolean) 3 73 (fun w => [.ref (wA w 3), .int x1]) s (some (.int r)) fin := by
  refine Ct.ofI (by decide +kernel) (fun w => Nat.le_of_ble_eq_true rfl) (fun X C R1 => ?_)
  show V X s 0 [(0, .ref (wA (xw X) 3)), (1, .int x1)] []
  have C : Cx X "LitWindows$Reader" cX4_takePoint 3 3 73 := C
  refine v_aload_n 0 C dX4_takePoint_0 rfl ?_
  refine v_iload_n 1 C dX4_takePoint_1 rfl ?_
  obtain ⟨r_2, s_2, e_2, h⟩ := bd_some h
  refine v_callVi [] C (t_X4_findPoint e_2) mw_X4_findPoint (at_3 _ _) rfl wm_RX4_98 ⟨by decide, by decide⟩ rfl (Nat.le_of_ble_eq_true rfl) rfl dX4_takePoint_2 ?_
  refine v_istore_n (L1 := [(0, _), (1, _), (2, _)]) [1, 2, 0] C dX4_takePoint_5 (by decide) rfl ?_
  refine v_iload_n 2 C dX4_takePoint_6 rfl ?_
  refine v_iconst C dX4_takePoint_7 ic_m1 ?_
  refine v_icmp_ne 13 C dX4_takePoint_8 (by decide) (fun c => ?_) (fun c => ?_)
  · have h := if_f h c
    refine v_aload_n 0 C dX4_takePoint_13 rfl ?_
    refine v_iload_n 2 C dX4_takePoint_14 rfl ?_
    refine p_3_5 C wf_RX4_120 dX4_takePoint_15 ?_
    refine v_aload_n 0 C dX4_takePoint_18 rfl ?_
    refine g_3_1 C wf_RX4_30 dX4_takePoint_19 ?_
    obtain ⟨r_22, s_22, e_22, h⟩ := bd_some h
    refine v_callVv [] C (t_X9_advance e_22) mw_X9_advance (at_7 _ _) rfl wm_RX4_91 ⟨by decide, by decide⟩ rfl (Nat.le_of_ble_eq_true rfl) rfl dX4_takePoint_22 ?_
    refine v_iconst C dX4_takePoint_25 ic_1 ?_
    exact v_ireth h R1 rfl dX4_takePoint_26
  · have h := if_t h c
    refine v_iconst C dX4_takePoint_11 ic_0 ?_
    exact v_ireth h R1 rfl dX4_takePoint_12
set_option maxRecDepth 4000 in
theorem tl_X4_leastLag_18 {rec6 : Int32 → Int32 → Int32 → Int32 → St → Option (Int32 × St)} {X : CX} {r : Int32} {fin : St} (C : Cx X "LitWindows$Reader" cX4_leastLag 7 1 32) (R1 : RtI X cX4_leastLag .int r fin) (hr6 : ∀ (x1 : Int32) (x2 : Int32) (x3 : Int32) (x4 : Int32) (s : St), rec6 x1 x2 x3 x4 s = some (r, fin) → V X s 6 [(0, .ref (wA (xw X) 3)), (1, .int x1), (2, .int x2), (3, .int x3), (4, .int x4)] []) : ∀ (n : Nat) (x1 : Int32) (x2 : Int32) (x3 : Int32) (x4 : Int32) (x5 : Int32) (x6 : Int32) (s : St), l_X4_leastLag_18 rec6 n x1 x2 x3 x4 x5 x6 s = some (r, fin) → V X s 18 [(0, .ref (wA (xw X) 3)), (1, .int x1), (2, .int x2), (3, .int x3), (4, .int x4), (5, .int x5), (6, .int x6)] [] := by
  intro n
  induction n with
  | zero => intro x1 x2 x3 x4 x5 x6 s h; exact none_no h
  | succ n hr18 =>
    intro x1 x2 x3 x4 x5 x6 s h
    have h : b_X4_leastLag_18 rec6 (l_X4_leastLag_18 rec6 n) x1 x2 x3 x4 x5 x6 s = some (r, fin) := h
    refine v_iload 6 C dX4_leastLag_18 rfl ?_
    refine v_iload_n 1 C dX4_leastLag_20 rfl ?_
    refine v_icmp_ge 50 C dX4_leastLag_21 (by decide) (fun c => ?_) (fun c => ?_)
    · have h := if_t h c
      refine v_iload 5 C dX4_leastLag_50 rfl ?_
      refine v_iload_n 2 C dX4_leastLag_52 rfl ?_
      refine v_icmp_lt 68 C dX4_leastLag_53 (by decide) (fun c => ?_) (fun c => ?_)
      · have h := if_t h c
        refine v_iinc (L1 := [(0, _), (1, _), (2, _), (3, _), (4, _), (5, _), (6, _)]) 4 [1, 2, 3, 4, 0, 5, 6] C dX4_leastLag_68 rfl ic_1 (by decide) rfl ?_
        refine v_goto 6 C dX4_leastLag_71 (by decide) ?_
        refine v_sub [0, 1, 2, 3, 4] (L1 := [(0, _), (1, _), (2, _), (3, _), (4, _)]) rfl ?_
        exact hr6 _ _ _ _ _ h
      · have h := if_f h c
        refine v_iload_n 3 C dX4_leastLag_56 rfl ?_
        refine v_aload_n 0 C dX4_leastLag_57 rfl ?_
        refine g_3_4 C wf_RX4_18 dX4_leastLag_58 ?_
        refine v_iload 4 C dX4_leastLag_61 rfl ?_
        obtain ⟨hi, h⟩ := gi_some h
        refine ald_6 C hi dX4_leastLag_63 ?_
        refine v_jmin C wm_RX4_167 (by decide) (Nat.le_of_ble_eq_true rfl) dX4_leastLag_64 ?_
        refine v_istore_n (L1 := [(0, _), (1, _), (2, _), (3, _), (4, _), (5, _), (6, _)]) [1, 2, 3, 0, 4, 5, 6] C dX4_leastLag_67 (by decide) rfl ?_
        refine v_iinc (L1 := [(0, _), (1, _), (2, _), (3, _), (4, _), (5, _), (6, _)]) 4 [1, 2, 3, 4, 0, 5, 6] C dX4_leastLag_68 rfl ic_1 (by decide) rfl ?_
        refine v_goto 6 C dX4_leastLag_71 (by decide) ?_
        refine v_sub [0, 1, 2, 3, 4] (L1 := [(0, _), (1, _), (2, _), (3, _), (4, _)]) rfl ?_
        exact hr6 _ _ _ _ _ h
    · have h := if_f h c
      refine v_aload_n 0 C dX4_leastLag_24 rfl ?_
      refine g_3_4 C wf_RX4_18 dX4_leastLag_25 ?_
      refine v_iload 6 C dX4_leastLag_28 rfl ?_
      obtain ⟨hi, h⟩ := gi_some h
      refine ald_6 C hi dX4_leastLag_30 ?_
      refine v_aload_n 0 C dX4_leastLag_31 rfl ?_
      refine g_3_4 C wf_RX4_18 dX4_leastLag_32 ?_
      refine v_iload 4 C dX4_leastLag_35 rfl ?_
      obtain ⟨hi, h⟩ := gi_some h
      refine ald_6 C hi dX4_leastLag_37 ?_
      refine v_icmp_gt 44 C dX4_leastLag_38 (by decide) (fun c => ?_) (fun c => ?_)
      · have h := if_t h c
        refine v_iinc (L1 := [(0, _), (1, _), (2, _), (3, _), (4, _), (5, _), (6, _)]) 6 [1, 2, 3, 4, 5, 6, 0] C dX4_leastLag_44 rfl ic_1 (by decide) rfl ?_
        refine v_goto 18 C dX4_leastLag_47 (by decide) ?_
        exact hr18 _ _ _ _ _ _ _ h
      · have h := if_f h c
        refine v_iinc (L1 := [(0, _), (1, _), (2, _), (3, _), (4, _), (5, _), (6, _)]) 5 [1, 2, 3, 4, 5, 0, 6] C dX4_leastLag_41 rfl ic_1 (by decide) rfl ?_
        refine v_iinc (L1 := [(0, _), (1, _), (2, _), (3, _), (4, _), (5, _), (6, _)]) 6 [1, 2, 3, 4, 5, 6, 0] C dX4_leastLag_44 rfl ic_1 (by decide) rfl ?_
        refine v_goto 18 C dX4_leastLag_47 (by decide) ?_
        exact hr18 _ _ _ _ _ _ _ h
set_option maxRecDepth 4000 in
theorem tl_X4_leastLag_6  {X : CX} {r : Int32} {fin : St} (C : Cx X "LitWindows$Reader" cX4_leastLag 7 1 32) (R1 : RtI X cX4_leastLag .int r fin)  : ∀ (n : Nat) (x1 : Int32) (x2 : Int32) (x3 : Int32) (x4 : Int32) (s : St), l_X4_leastLag_6  n x1 x2 x3 x4 s = some (r, fin) → V X s 6 [(0, .ref (wA (xw X) 3)), (1, .int x1), (2, .int x2), (3, .int x3), (4, .int x4)] [] := by
  intro n
  induction n with
  | zero => intro x1 x2 x3 x4 s h; exact none_no h
  | succ n hr6 =>
    intro x1 x2 x3 x4 s h
    have h : b_X4_leastLag_6  (l_X4_leastLag_6  n) x1 x2 x3 x4 s = some (r, fin) := h
    refine v_iload 4 C dX4_leastLag_6 rfl ?_
    refine v_iload_n 1 C dX4_leastLag_8 rfl ?_
    refine v_icmp_ge 74 C dX4_leastLag_9 (by decide) (fun c => ?_) (fun c => ?_)
    · have h := if_t h c
      refine v_iload_n 3 C dX4_leastLag_74 rfl ?_
      exact v_ireth h R1 rfl dX4_leastLag_75
    · have h := if_f h c
      refine v_iconst C dX4_leastLag_12 ic_0 ?_
      refine v_istore (L1 := [(0, _), (1, _), (2, _), (3, _), (4, _), (5, _)]) [1, 2, 3, 4, 5, 0] C dX4_leastLag_13 (by decide) rfl ?_
      refine v_iconst C dX4_leastLag_15 ic_0 ?_
      refine v_istore (L1 := [(0, _), (1, _), (2, _), (3, _), (4, _), (5, _), (6, _)]) [1, 2, 3, 4, 5, 6, 0] C dX4_leastLag_16 (by decide) rfl ?_
      exact tl_X4_leastLag_18 C R1 hr6 FU _ _ _ _ _ _ _ h
set_option maxRecDepth 4000 in
theorem t_X4_leastLag {x1 x2 s fin : _} {r : Int32} (h : f_X4_leastLag x1 x2 s = some (r, fin)) : Ct yX4_leastLag cX4_leastLag 7 (some .int) 1 32 (fun w => [.ref (wA w 3), .int x1, .int x2]) s (some (.int r)) fin := by
  refine Ct.ofI (by decide +kernel) (fun w => Nat.le_of_ble_eq_true rfl) (fun X C R1 => ?_)
  show V X s 0 [(0, .ref (wA (xw X) 3)), (1, .int x1), (2, .int x2)] []
  have C : Cx X "LitWindows$Reader" cX4_leastLag 7 1 32 := C
  refine v_bipush C dX4_leastLag_0 bp_60 ?_
  refine v_istore_n (L1 := [(0, _), (1, _), (2, _), (3, _)]) [1, 2, 3, 0] C dX4_leastLag_2 (by decide) rfl ?_
  refine v_iconst C dX4_leastLag_3 ic_0 ?_
  refine v_istore (L1 := [(0, _), (1, _), (2, _), (3, _), (4, _)]) [1, 2, 3, 4, 0] C dX4_leastLag_4 (by decide) rfl ?_
  exact tl_X4_leastLag_6 C R1  FU _ _ _ _ _ h
set_option maxRecDepth 4000 in
theorem t_X3_addWindow_d {x1 x2 s fin : _} (h : f_X3_addWindow_d x1 x2 s = some ((), fin)) : Ct yX3_addWindow cX3_addWindow 3 none 0 0 (fun w => [.ref (wA w 18), .int x1, .int x2]) s none fin := by
  refine Ct.ofV (by decide +kernel) (fun w => Nat.le_of_ble_eq_true rfl) (fun X C R1 => ?_)
  show V X s 0 [(0, .ref (wA (xw X) 18)), (1, .int x1), (2, .int x2)] []
  have C : Cx X "LitWindows$Plant" cX3_addWindow 3 0 0 := C
  refine v_aload_n 0 C dX3_addWindow_0 rfl ?_
  refine g_18_2 C wf_RX3_47 dX3_addWindow_1 ?_
  refine v_bipush C dX3_addWindow_4 bp_12 ?_
  refine v_icmp_ge 39 C dX3_addWindow_6 (by decide) (fun c => ?_) (fun c => ?_)
  · have h := if_t h c
    exact v_vreth h R1 dX3_addWindow_39
  · have h := if_f h c
    refine v_aload_n 0 C dX3_addWindow_9 rfl ?_
    refine g_18_8 C wf_RX3_25 dX3_addWindow_10 ?_
    refine v_aload_n 0 C dX3_addWindow_13 rfl ?_
    refine g_18_2 C wf_RX3_47 dX3_addWindow_14 ?_
    refine v_iload_n 1 C dX3_addWindow_17 rfl ?_
    obtain ⟨hi, h⟩ := gi_some h
    refine ast_23 C hi dX3_addWindow_18 ?_
    refine v_aload_n 0 C dX3_addWindow_19 rfl ?_
    refine g_18_9 C wf_RX3_28 dX3_addWindow_20 ?_
    refine v_aload_n 0 C dX3_addWindow_23 rfl ?_
    refine g_18_2 C wf_RX3_47 dX3_addWindow_24 ?_
    refine v_iload_n 2 C dX3_addWindow_27 rfl ?_
    obtain ⟨hi, h⟩ := gi_some h
    refine ast_24 C hi dX3_addWindow_28 ?_
    refine v_aload_n 0 C dX3_addWindow_29 rfl ?_
    refine v_dupr C dX3_addWindow_30 ?_
    refine g_18_2 C wf_RX3_47 dX3_addWindow_31 ?_
    refine v_iconst C dX3_addWindow_34 ic_1 ?_
    refine v_iadd C dX3_addWindow_35 ?_
    refine p_18_2 C wf_RX3_47 dX3_addWindow_36 ?_
    exact v_vreth h R1 dX3_addWindow_39
set_option maxRecDepth 4000 in
theorem tj_X4_readWindow_d_109  {X : CX} {r : Int32} {fin : St} (C : Cx X "LitWindows$Reader" cX4_readWindow 5 6 154) (R1 : RtI X cX4_readWindow .boolean r fin)  {x2 x3 x4 s : _} (h : j_X4_readWindow_d_109  x2 x3 x4 s = some (r, fin)) : V X s 109 [(0, .ref (wA (xw X) 3)), (1, .ref (wA (xw X) 18)), (2, .int x2), (3, .int x3), (4, .int x4)] [] := by
  refine v_aload_n 0 C dX4_readWindow_109 rfl ?_
  obtain ⟨r_110, s_110, e_110, h⟩ := bd_some h
  refine v_callVi [] C (t_X4_takeSemicolon e_110) mw_X4_takeSemicolon (at_3 _ _) rfl wm_RX4_109 ⟨by decide, by decide⟩ rfl (Nat.le_of_ble_eq_true rfl) rfl dX4_readWindow_110 ?_
  refine v_if_ne 118 C dX4_readWindow_113 (by decide) (fun c => ?_) (fun c => ?_)
  · have h := if_f h c
    refine v_aload_n 1 C dX4_readWindow_118 rfl ?_
    refine v_iload_n 2 C dX4_readWindow_119 rfl ?_
    refine v_aload_n 0 C dX4_readWindow_120 rfl ?_
    refine v_iload_n 3 C dX4_readWindow_121 rfl ?_
    refine v_iload 4 C dX4_readWindow_122 rfl ?_
    obtain ⟨r_124, s_124, e_124, h⟩ := bd_some h
    refine v_callVi [_, _] C (t_X4_leastLag e_124) mw_X4_leastLag (at_3 _ _) rfl wm_RX4_140 ⟨by decide, by decide⟩ rfl (Nat.le_of_ble_eq_true rfl) rfl dX4_readWindow_124 ?_
    obtain ⟨r_127, s_127, e_127, h⟩ := bd_some h
    refine v_callVv [] C (t_X3_addWindow_d e_127) mw_X3_addWindow (at_18 _ _) rfl wm_RX4_144 ⟨by decide, by decide⟩ rfl (Nat.le_of_ble_eq_true rfl) rfl dX4_readWindow_127 ?_
    refine v_iconst C dX4_readWindow_130 ic_1 ?_
    exact v_ireth h R1 rfl dX4_readWindow_131
  · have h := if_t h c
    refine v_iconst C dX4_readWindow_116 ic_0 ?_
    exact v_ireth h R1 rfl dX4_readWindow_117
set_option maxRecDepth 4000 in
theorem tj_X4_readWindow_d_75  {X : CX} {r : Int32} {fin : St} (C : Cx X "LitWindows$Reader" cX4_readWindow 5 6 154) (R1 : RtI X cX4_readWindow .boolean r fin)  {x2 x3 s : _} (h : j_X4_readWindow_d_75  x2 x3 s = some (r, fin)) : V X s 75 [(0, .ref (wA (xw X) 3)), (1, .ref (wA (xw X) 18)), (2, .int x2), (3, .int x3)] [] := by
  refine v_iconst C dX4_readWindow_75 ic_1 ?_
  refine v_istore (L1 := [(0, _), (1, _), (2, _), (3, _), (4, _)]) [1, 2, 3, 4, 0] C dX4_readWindow_76 (by decide) rfl ?_
  refine v_iload_n 3 C dX4_readWindow_78 rfl ?_
  refine v_iconst C dX4_readWindow_79 ic_1 ?_
  refine v_icmp_le 109 C dX4_readWindow_80 (by decide) (fun c => ?_) (fun c => ?_)
  · have h := if_t h c
    exact tj_X4_readWindow_d_109 C R1  h
  · have h := if_f h c
    refine v_aload_n 0 C dX4_readWindow_83 rfl ?_
    refine v_ldcS 7 (tx := "of") C (by decide) dX4_readWindow_84 ?_
    obtain ⟨r_86, s_86, e_86, h⟩ := bd_some h
    refine v_callVi [] C (t_X4_takeWord e_86) mw_X4_takeWord (at_3 _ _) rfl wm_RX4_125 ⟨by decide, by decide⟩ rfl (Nat.le_of_ble_eq_true rfl) rfl dX4_readWindow_86 ?_
    refine v_if_eq 101 C dX4_readWindow_89 (by decide) (fun c => ?_) (fun c => ?_)
    · have h := if_t h c
      refine v_iconst C dX4_readWindow_101 ic_0 ?_
      exact v_ireth h R1 rfl dX4_readWindow_102
    · have h := if_f h c
      refine v_aload_n 0 C dX4_readWindow_92 rfl ?_
      refine v_iconst C dX4_readWindow_93 ic_1 ?_
      refine v_iload_n 3 C dX4_readWindow_94 rfl ?_
      obtain ⟨r_95, s_95, e_95, h⟩ := bd_some h
      refine v_callVi [] C (t_X4_takeNumber e_95) mw_X4_takeNumber (at_3 _ _) rfl wm_RX4_130 ⟨by decide, by decide⟩ rfl (Nat.le_of_ble_eq_true rfl) rfl dX4_readWindow_95 ?_
      refine v_if_ne 103 C dX4_readWindow_98 (by decide) (fun c => ?_) (fun c => ?_)
      · have h := if_f h c
        refine v_aload_n 0 C dX4_readWindow_103 rfl ?_
        refine g_3_5 C wf_RX4_120 dX4_readWindow_104 ?_
        refine v_istore (L1 := [(0, _), (1, _), (2, _), (3, _), (4, _)]) [1, 2, 3, 4, 0] C dX4_readWindow_107 (by decide) rfl ?_
        exact tj_X4_readWindow_d_109 C R1  h
      · have h := if_t h c
        refine v_iconst C dX4_readWindow_101 ic_0 ?_
        exact v_ireth h R1 rfl dX4_readWindow_102
set_option maxRecDepth 4000 in
theorem tj_X4_readWindow_d_47 {rec27 : Int32 → Int32 → St → Option (Int32 × St)} {X : CX} {r : Int32} {fin : St} (C : Cx X "LitWindows$Reader" cX4_readWindow 5 6 154) (R1 : RtI X cX4_readWindow .boolean r fin) (hr27 : ∀ (x2 : Int32) (x3 : Int32) (s : St), rec27 x2 x3 s = some (r, fin) → V X s 27 [(0, .ref (wA (xw X) 3)), (1, .ref (wA (xw X) 18)), (2, .int x2), (3, .int x3)] []) {x2 x3 s : _} (h : j_X4_readWindow_d_47 rec27 x2 x3 s = some (r, fin)) : V X s 47 [(0, .ref (wA (xw X) 3)), (1, .ref (wA (xw X) 18)), (2, .int x2), (3, .int x3)] [] := by
  refine v_aload_n 0 C dX4_readWindow_47 rfl ?_
  refine v_iconst C dX4_readWindow_48 ic_0 ?_
  refine v_bipush C dX4_readWindow_49 bp_60 ?_
  obtain ⟨r_51, s_51, e_51, h⟩ := bd_some h
  refine v_callVi [] C (t_X4_takeNumber e_51) mw_X4_takeNumber (at_3 _ _) rfl wm_RX4_130 ⟨by decide, by decide⟩ rfl (Nat.le_of_ble_eq_true rfl) rfl dX4_readWindow_51 ?_
  refine v_if_ne 59 C dX4_readWindow_54 (by decide) (fun c => ?_) (fun c => ?_)
  · have h := if_f h c
    refine v_aload_n 0 C dX4_readWindow_59 rfl ?_
    refine g_3_4 C wf_RX4_18 dX4_readWindow_60 ?_
    refine v_iload_n 3 C dX4_readWindow_63 rfl ?_
    refine v_aload_n 0 C dX4_readWindow_64 rfl ?_
    refine g_3_5 C wf_RX4_120 dX4_readWindow_65 ?_
    obtain ⟨hi, h⟩ := gi_some h
    refine ast_6 C hi dX4_readWindow_68 ?_
    refine v_iinc (L1 := [(0, _), (1, _), (2, _), (3, _)]) 3 [1, 2, 3, 0] C dX4_readWindow_69 rfl ic_1 (by decide) rfl ?_
    refine v_goto 27 C dX4_readWindow_72 (by decide) ?_
    exact hr27 _ _ _ h
  · have h := if_t h c
    refine v_iconst C dX4_readWindow_57 ic_0 ?_
    exact v_ireth h R1 rfl dX4_readWindow_58
set_option maxRecDepth 4000 in
theorem tl_X4_readWindow_d_27  {X : CX} {r : Int32} {fin : St} (C : Cx X "LitWindows$Reader" cX4_readWindow 5 6 154) (R1 : RtI X cX4_readWindow .boolean r fin)  : ∀ (n : Nat) (x2 : Int32) (x3 : Int32) (s : St), l_X4_readWindow_d_27  n x2 x3 s = some (r, fin) → V X s 27 [(0, .ref (wA (xw X) 3)), (1, .ref (wA (xw X) 18)), (2, .int x2), (3, .int x3)] [] := by
  intro n
  induction n with
  | zero => intro x2 x3 s h; exact none_no h
  | succ n hr27 =>
    intro x2 x3 s h
    have h : b_X4_readWindow_d_27  (l_X4_readWindow_d_27  n) x2 x3 s = some (r, fin) := h
    refine v_iload_n 3 C dX4_readWindow_27 rfl ?_
    refine v_iconst C dX4_readWindow_28 ic_3 ?_
    refine v_icmp_ge 75 C dX4_readWindow_29 (by decide) (fun c => ?_) (fun c => ?_)
    · have h := if_t h c
      exact tj_X4_readWindow_d_75 C R1  h
    · have h := if_f h c
      refine v_iload_n 3 C dX4_readWindow_32 rfl ?_
      refine v_if_eq 47 C dX4_readWindow_33 (by decide) (fun c => ?_) (fun c => ?_)
      · have h := if_t h c
        exact tj_X4_readWindow_d_47 C R1 hr27 h
      · have h := if_f h c
        refine v_aload_n 0 C dX4_readWindow_36 rfl ?_
        refine g_3_1 C wf_RX4_30 dX4_readWindow_37 ?_
        refine g_7_1 C wf_RX4_42 dX4_readWindow_40 ?_
        refine v_iconst C dX4_readWindow_43 ic_1 ?_
        refine v_icmp_ne 75 C dX4_readWindow_44 (by decide) (fun c => ?_) (fun c => ?_)
        · have h := if_f h c
          exact tj_X4_readWindow_d_75 C R1  h
        · have h := if_t h c
          exact tj_X4_readWindow_d_47 C R1 hr27 h
set_option maxRecDepth 4000 in
theorem t_X4_readWindow_d { s fin : _} {r : Int32} (h : f_X4_readWindow_d  s = some (r, fin)) : Ct yX4_readWindow cX4_readWindow 5 (some .boolean) 6 154 (fun w => [.ref (wA w 3), .ref (wA w 18)]) s (some (.int r)) fin := by
  refine Ct.ofI (by decide +kernel) (fun w => Nat.le_of_ble_eq_true rfl) (fun X C R1 => ?_)
  show V X s 0 [(0, .ref (wA (xw X) 3)), (1, .ref (wA (xw X) 18))] []
  have C : Cx X "LitWindows$Reader" cX4_readWindow 5 6 154 := C
  refine v_aload_n 0 C dX4_readWindow_0 rfl ?_
  refine g_3_1 C wf_RX4_30 dX4_readWindow_1 ?_
  obtain ⟨r_4, s_4, e_4, h⟩ := bd_some h
  refine v_callVv [] C (t_X9_advance e_4) mw_X9_advance (at_7 _ _) rfl wm_RX4_91 ⟨by decide, by decide⟩ rfl (Nat.le_of_ble_eq_true rfl) rfl dX4_readWindow_4 ?_
  refine v_aload_n 0 C dX4_readWindow_7 rfl ?_
  refine v_aload_n 1 C dX4_readWindow_8 rfl ?_
  refine g_18_0 C wf_RX4_52 dX4_readWindow_9 ?_
  obtain ⟨r_12, s_12, e_12, h⟩ := bd_some h
  refine v_callVi [] C (t_X4_takePoint e_12) mw_X4_takePoint (at_3 _ _) rfl wm_RX4_116 ⟨by decide, by decide⟩ rfl (Nat.le_of_ble_eq_true rfl) rfl dX4_readWindow_12 ?_
  refine v_if_ne 20 C dX4_readWindow_15 (by decide) (fun c => ?_) (fun c => ?_)
  · have h := if_f h c
    refine v_aload_n 0 C dX4_readWindow_20 rfl ?_
    refine g_3_5 C wf_RX4_120 dX4_readWindow_21 ?_
    refine v_istore_n (L1 := [(0, _), (1, _), (2, _)]) [1, 2, 0] C dX4_readWindow_24 (by decide) rfl ?_
    refine v_iconst C dX4_readWindow_25 ic_0 ?_
    refine v_istore_n (L1 := [(0, _), (1, _), (2, _), (3, _)]) [1, 2, 3, 0] C dX4_readWindow_26 (by decide) rfl ?_
    exact tl_X4_readWindow_d_27 C R1  FU _ _ _ h
  · have h := if_t h c
    refine v_iconst C dX4_readWindow_18 ic_0 ?_
    exact v_ireth h R1 rfl dX4_readWindow_19
set_option maxRecDepth 4000 in
theorem t_X3_addArc_d {x1 x2 x3 s fin : _} (h : f_X3_addArc_d x1 x2 x3 s = some ((), fin)) : Ct yX3_addArc cX3_addArc 4 none 0 0 (fun w => [.ref (wA w 18), .int x1, .int x2, .int x3]) s none fin := by
  refine Ct.ofV (by decide +kernel) (fun w => Nat.le_of_ble_eq_true rfl) (fun X C R1 => ?_)
  show V X s 0 [(0, .ref (wA (xw X) 18)), (1, .int x1), (2, .int x2), (3, .int x3)] []
  have C : Cx X "LitWindows$Plant" cX3_addArc 4 0 0 := C
  refine v_aload_n 0 C dX3_addArc_0 rfl ?_
  refine g_18_1 C wf_RX3_44 dX3_addArc_1 ?_
  refine v_bipush C dX3_addArc_4 bp_24 ?_
  refine v_icmp_ge 49 C dX3_addArc_6 (by decide) (fun c => ?_) (fun c => ?_)
  · have h := if_t h c
    exact v_vreth h R1 dX3_addArc_49
  · have h := if_f h c
    refine v_aload_n 0 C dX3_addArc_9 rfl ?_
    refine g_18_5 C wf_RX3_15 dX3_addArc_10 ?_
    refine v_aload_n 0 C dX3_addArc_13 rfl ?_
    refine g_18_1 C wf_RX3_44 dX3_addArc_14 ?_
    refine v_iload_n 1 C dX3_addArc_17 rfl ?_
    obtain ⟨hi, h⟩ := gi_some h
    refine ast_20 C hi dX3_addArc_18 ?_
    refine v_aload_n 0 C dX3_addArc_19 rfl ?_
    refine g_18_6 C wf_RX3_19 dX3_addArc_20 ?_
    refine v_aload_n 0 C dX3_addArc_23 rfl ?_
    refine g_18_1 C wf_RX3_44 dX3_addArc_24 ?_
    refine v_iload_n 2 C dX3_addArc_27 rfl ?_
    obtain ⟨hi, h⟩ := gi_some h
    refine ast_21 C hi dX3_addArc_28 ?_
    refine v_aload_n 0 C dX3_addArc_29 rfl ?_
    refine g_18_7 C wf_RX3_22 dX3_addArc_30 ?_
    refine v_aload_n 0 C dX3_addArc_33 rfl ?_
    refine g_18_1 C wf_RX3_44 dX3_addArc_34 ?_
    refine v_iload_n 3 C dX3_addArc_37 rfl ?_
    obtain ⟨hi, h⟩ := gi_some h
    refine ast_22 C hi dX3_addArc_38 ?_
    refine v_aload_n 0 C dX3_addArc_39 rfl ?_
    refine v_dupr C dX3_addArc_40 ?_
    refine g_18_1 C wf_RX3_44 dX3_addArc_41 ?_
    refine v_iconst C dX3_addArc_44 ic_1 ?_
    refine v_iadd C dX3_addArc_45 ?_
    refine p_18_1 C wf_RX3_44 dX3_addArc_46 ?_
    exact v_vreth h R1 dX3_addArc_49
set_option maxRecDepth 4000 in
theorem t_X4_readArc_d { s fin : _} {r : Int32} (h : f_X4_readArc_d  s = some (r, fin)) : Ct yX4_readArc cX4_readArc 5 (some .boolean) 6 154 (fun w => [.ref (wA w 3), .ref (wA w 18)]) s (some (.int r)) fin := by
  refine Ct.ofI (by decide +kernel) (fun w => Nat.le_of_ble_eq_true rfl) (fun X C R1 => ?_)
  show V X s 0 [(0, .ref (wA (xw X) 3)), (1, .ref (wA (xw X) 18))] []
  have C : Cx X "LitWindows$Reader" cX4_readArc 5 6 154 := C
  refine v_aload_n 0 C dX4_readArc_0 rfl ?_
  refine g_3_1 C wf_RX4_30 dX4_readArc_1 ?_
  obtain ⟨r_4, s_4, e_4, h⟩ := bd_some h
  refine v_callVv [] C (t_X9_advance e_4) mw_X9_advance (at_7 _ _) rfl wm_RX4_91 ⟨by decide, by decide⟩ rfl (Nat.le_of_ble_eq_true rfl) rfl dX4_readArc_4 ?_
  refine v_aload_n 0 C dX4_readArc_7 rfl ?_
  refine v_aload_n 1 C dX4_readArc_8 rfl ?_
  refine g_18_0 C wf_RX4_52 dX4_readArc_9 ?_
  obtain ⟨r_12, s_12, e_12, h⟩ := bd_some h
  refine v_callVi [] C (t_X4_takePoint e_12) mw_X4_takePoint (at_3 _ _) rfl wm_RX4_116 ⟨by decide, by decide⟩ rfl (Nat.le_of_ble_eq_true rfl) rfl dX4_readArc_12 ?_
  refine v_if_ne 20 C dX4_readArc_15 (by decide) (fun c => ?_) (fun c => ?_)
  · have h := if_f h c
    refine v_aload_n 0 C dX4_readArc_20 rfl ?_
    refine g_3_5 C wf_RX4_120 dX4_readArc_21 ?_
    refine v_istore_n (L1 := [(0, _), (1, _), (2, _)]) [1, 2, 0] C dX4_readArc_24 (by decide) rfl ?_
    refine v_aload_n 0 C dX4_readArc_25 rfl ?_
    refine v_ldcS 4 (tx := "to") C (by decide) dX4_readArc_26 ?_
    obtain ⟨r_28, s_28, e_28, h⟩ := bd_some h
    refine v_callVi [] C (t_X4_takeWord e_28) mw_X4_takeWord (at_3 _ _) rfl wm_RX4_125 ⟨by decide, by decide⟩ rfl (Nat.le_of_ble_eq_true rfl) rfl dX4_readArc_28 ?_
    refine v_if_eq 45 C dX4_readArc_31 (by decide) (fun c => ?_) (fun c => ?_)
    · have h := if_t h c
      refine v_iconst C dX4_readArc_45 ic_0 ?_
      exact v_ireth h R1 rfl dX4_readArc_46
    · have h := if_f h c
      refine v_aload_n 0 C dX4_readArc_34 rfl ?_
      refine v_aload_n 1 C dX4_readArc_35 rfl ?_
      refine g_18_0 C wf_RX4_52 dX4_readArc_36 ?_
      obtain ⟨r_39, s_39, e_39, h⟩ := bd_some h
      refine v_callVi [] C (t_X4_takePoint e_39) mw_X4_takePoint (at_3 _ _) rfl wm_RX4_116 ⟨by decide, by decide⟩ rfl (Nat.le_of_ble_eq_true rfl) rfl dX4_readArc_39 ?_
      refine v_if_ne 47 C dX4_readArc_42 (by decide) (fun c => ?_) (fun c => ?_)
      · have h := if_f h c
        refine v_aload_n 0 C dX4_readArc_47 rfl ?_
        refine g_3_5 C wf_RX4_120 dX4_readArc_48 ?_
        refine v_istore_n (L1 := [(0, _), (1, _), (2, _), (3, _)]) [1, 2, 3, 0] C dX4_readArc_51 (by decide) rfl ?_
        refine v_aload_n 0 C dX4_readArc_52 rfl ?_
        refine v_ldcS 5 (tx := "in") C (by decide) dX4_readArc_53 ?_
        obtain ⟨r_55, s_55, e_55, h⟩ := bd_some h
        refine v_callVi [] C (t_X4_takeWord e_55) mw_X4_takeWord (at_3 _ _) rfl wm_RX4_125 ⟨by decide, by decide⟩ rfl (Nat.le_of_ble_eq_true rfl) rfl dX4_readArc_55 ?_
        refine v_if_eq 71 C dX4_readArc_58 (by decide) (fun c => ?_) (fun c => ?_)
        · have h := if_t h c
          refine v_iconst C dX4_readArc_71 ic_0 ?_
          exact v_ireth h R1 rfl dX4_readArc_72
        · have h := if_f h c
          refine v_aload_n 0 C dX4_readArc_61 rfl ?_
          refine v_iconst C dX4_readArc_62 ic_0 ?_
          refine v_bipush C dX4_readArc_63 bp_60 ?_
          obtain ⟨r_65, s_65, e_65, h⟩ := bd_some h
          refine v_callVi [] C (t_X4_takeNumber e_65) mw_X4_takeNumber (at_3 _ _) rfl wm_RX4_130 ⟨by decide, by decide⟩ rfl (Nat.le_of_ble_eq_true rfl) rfl dX4_readArc_65 ?_
          refine v_if_ne 73 C dX4_readArc_68 (by decide) (fun c => ?_) (fun c => ?_)
          · have h := if_f h c
            refine v_aload_n 0 C dX4_readArc_73 rfl ?_
            refine g_3_5 C wf_RX4_120 dX4_readArc_74 ?_
            refine v_istore (L1 := [(0, _), (1, _), (2, _), (3, _), (4, _)]) [1, 2, 3, 4, 0] C dX4_readArc_77 (by decide) rfl ?_
            refine v_aload_n 0 C dX4_readArc_79 rfl ?_
            obtain ⟨r_80, s_80, e_80, h⟩ := bd_some h
            refine v_callVi [] C (t_X4_takeSemicolon e_80) mw_X4_takeSemicolon (at_3 _ _) rfl wm_RX4_109 ⟨by decide, by decide⟩ rfl (Nat.le_of_ble_eq_true rfl) rfl dX4_readArc_80 ?_
            refine v_if_ne 88 C dX4_readArc_83 (by decide) (fun c => ?_) (fun c => ?_)
            · have h := if_f h c
              refine v_aload_n 1 C dX4_readArc_88 rfl ?_
              refine v_iload_n 2 C dX4_readArc_89 rfl ?_
              refine v_iload_n 3 C dX4_readArc_90 rfl ?_
              refine v_iload 4 C dX4_readArc_91 rfl ?_
              obtain ⟨r_93, s_93, e_93, h⟩ := bd_some h
              refine v_callVv [] C (t_X3_addArc_d e_93) mw_X3_addArc (at_18 _ _) rfl wm_RX4_134 ⟨by decide, by decide⟩ rfl (Nat.le_of_ble_eq_true rfl) rfl dX4_readArc_93 ?_
              refine v_iconst C dX4_readArc_96 ic_1 ?_
              exact v_ireth h R1 rfl dX4_readArc_97
            · have h := if_t h c
              refine v_iconst C dX4_readArc_86 ic_0 ?_
              exact v_ireth h R1 rfl dX4_readArc_87
          · have h := if_t h c
            refine v_iconst C dX4_readArc_71 ic_0 ?_
            exact v_ireth h R1 rfl dX4_readArc_72
      · have h := if_t h c
        refine v_iconst C dX4_readArc_45 ic_0 ?_
        exact v_ireth h R1 rfl dX4_readArc_46
  · have h := if_t h c
    refine v_iconst C dX4_readArc_18 ic_0 ?_
    exact v_ireth h R1 rfl dX4_readArc_19
