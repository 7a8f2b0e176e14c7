set_option maxRecDepth 4000 in
theorem t_X9_isKept { s fin : _} {r : Int32} (h : f_X9_isKept  s = some (r, fin)) : Ct yX9_isKept cX9_isKept 1 (some .boolean) 5 133 (fun w => [.ref (wA w 7)]) s (some (.int r)) fin := by
  refine Ct.ofI (by decide +kernel) (fun w => Nat.le_of_ble_eq_true rfl) (fun X C R1 => ?_)
  show V X s 0 [(0, .ref (wA (xw X) 7))] []
  have C : Cx X "LitWindows$Tokens" cX9_isKept 1 5 133 := C
  refine v_aload_n 0 C dX9_isKept_0 rfl ?_
  refine v_ldcS 0 (tx := "point") C (by decide) dX9_isKept_1 ?_
  obtain ⟨r_3, s_3, e_3, h⟩ := bd_some h
  refine v_callVi [] C (t_X9_isWord e_3) mw_X9_isWord (at_7 _ _) rfl wm_RX9_78 ⟨by decide, by decide⟩ rfl (Nat.le_of_ble_eq_true rfl) rfl dX9_isKept_3 ?_
  refine v_if_ne 99 C dX9_isKept_6 (by decide) (fun c => ?_) (fun c => ?_)
  · have h := if_f h c
    refine v_iconst C dX9_isKept_99 ic_1 ?_
    refine v_goto 104 C dX9_isKept_100 (by decide) ?_
    exact v_ireth h R1 rfl dX9_isKept_104
  · have h := if_t h c
    refine v_aload_n 0 C dX9_isKept_9 rfl ?_
    refine v_ldcS 1 (tx := "any") C (by decide) dX9_isKept_10 ?_
    obtain ⟨r_12, s_12, e_12, h⟩ := bd_some h
    refine v_callVi [] C (t_X9_isWord e_12) mw_X9_isWord (at_7 _ _) rfl wm_RX9_78 ⟨by decide, by decide⟩ rfl (Nat.le_of_ble_eq_true rfl) rfl dX9_isKept_12 ?_
    refine v_if_ne 99 C dX9_isKept_15 (by decide) (fun c => ?_) (fun c => ?_)
    · have h := if_f h c
      refine v_iconst C dX9_isKept_99 ic_1 ?_
      refine v_goto 104 C dX9_isKept_100 (by decide) ?_
      exact v_ireth h R1 rfl dX9_isKept_104
    · have h := if_t h c
      refine v_aload_n 0 C dX9_isKept_18 rfl ?_
      refine v_ldcS 2 (tx := "all") C (by decide) dX9_isKept_19 ?_
      obtain ⟨r_21, s_21, e_21, h⟩ := bd_some h
      refine v_callVi [] C (t_X9_isWord e_21) mw_X9_isWord (at_7 _ _) rfl wm_RX9_78 ⟨by decide, by decide⟩ rfl (Nat.le_of_ble_eq_true rfl) rfl dX9_isKept_21 ?_
      refine v_if_ne 99 C dX9_isKept_24 (by decide) (fun c => ?_) (fun c => ?_)
      · have h := if_f h c
        refine v_iconst C dX9_isKept_99 ic_1 ?_
        refine v_goto 104 C dX9_isKept_100 (by decide) ?_
        exact v_ireth h R1 rfl dX9_isKept_104
      · have h := if_t h c
        refine v_aload_n 0 C dX9_isKept_27 rfl ?_
        refine v_ldcS 3 (tx := "from") C (by decide) dX9_isKept_28 ?_
        obtain ⟨r_30, s_30, e_30, h⟩ := bd_some h
        refine v_callVi [] C (t_X9_isWord e_30) mw_X9_isWord (at_7 _ _) rfl wm_RX9_78 ⟨by decide, by decide⟩ rfl (Nat.le_of_ble_eq_true rfl) rfl dX9_isKept_30 ?_
        refine v_if_ne 99 C dX9_isKept_33 (by decide) (fun c => ?_) (fun c => ?_)
        · have h := if_f h c
          refine v_iconst C dX9_isKept_99 ic_1 ?_
          refine v_goto 104 C dX9_isKept_100 (by decide) ?_
          exact v_ireth h R1 rfl dX9_isKept_104
        · have h := if_t h c
          refine v_aload_n 0 C dX9_isKept_36 rfl ?_
          refine v_ldcS 4 (tx := "to") C (by decide) dX9_isKept_37 ?_
          obtain ⟨r_39, s_39, e_39, h⟩ := bd_some h
          refine v_callVi [] C (t_X9_isWord e_39) mw_X9_isWord (at_7 _ _) rfl wm_RX9_78 ⟨by decide, by decide⟩ rfl (Nat.le_of_ble_eq_true rfl) rfl dX9_isKept_39 ?_
          refine v_if_ne 99 C dX9_isKept_42 (by decide) (fun c => ?_) (fun c => ?_)
          · have h := if_f h c
            refine v_iconst C dX9_isKept_99 ic_1 ?_
            refine v_goto 104 C dX9_isKept_100 (by decide) ?_
            exact v_ireth h R1 rfl dX9_isKept_104
          · have h := if_t h c
            refine v_aload_n 0 C dX9_isKept_45 rfl ?_
            refine v_ldcS 5 (tx := "in") C (by decide) dX9_isKept_46 ?_
            obtain ⟨r_48, s_48, e_48, h⟩ := bd_some h
            refine v_callVi [] C (t_X9_isWord e_48) mw_X9_isWord (at_7 _ _) rfl wm_RX9_78 ⟨by decide, by decide⟩ rfl (Nat.le_of_ble_eq_true rfl) rfl dX9_isKept_48 ?_
            refine v_if_ne 99 C dX9_isKept_51 (by decide) (fun c => ?_) (fun c => ?_)
            · have h := if_f h c
              refine v_iconst C dX9_isKept_99 ic_1 ?_
              refine v_goto 104 C dX9_isKept_100 (by decide) ?_
              exact v_ireth h R1 rfl dX9_isKept_104
            · have h := if_t h c
              refine v_aload_n 0 C dX9_isKept_54 rfl ?_
              refine v_ldcS 6 (tx := "window") C (by decide) dX9_isKept_55 ?_
              obtain ⟨r_57, s_57, e_57, h⟩ := bd_some h
              refine v_callVi [] C (t_X9_isWord e_57) mw_X9_isWord (at_7 _ _) rfl wm_RX9_78 ⟨by decide, by decide⟩ rfl (Nat.le_of_ble_eq_true rfl) rfl dX9_isKept_57 ?_
              refine v_if_ne 99 C dX9_isKept_60 (by decide) (fun c => ?_) (fun c => ?_)
              · have h := if_f h c
                refine v_iconst C dX9_isKept_99 ic_1 ?_
                refine v_goto 104 C dX9_isKept_100 (by decide) ?_
                exact v_ireth h R1 rfl dX9_isKept_104
              · have h := if_t h c
                refine v_aload_n 0 C dX9_isKept_63 rfl ?_
                refine v_ldcS 7 (tx := "of") C (by decide) dX9_isKept_64 ?_
                obtain ⟨r_66, s_66, e_66, h⟩ := bd_some h
                refine v_callVi [] C (t_X9_isWord e_66) mw_X9_isWord (at_7 _ _) rfl wm_RX9_78 ⟨by decide, by decide⟩ rfl (Nat.le_of_ble_eq_true rfl) rfl dX9_isKept_66 ?_
                refine v_if_ne 99 C dX9_isKept_69 (by decide) (fun c => ?_) (fun c => ?_)
                · have h := if_f h c
                  refine v_iconst C dX9_isKept_99 ic_1 ?_
                  refine v_goto 104 C dX9_isKept_100 (by decide) ?_
                  exact v_ireth h R1 rfl dX9_isKept_104
                · have h := if_t h c
                  refine v_aload_n 0 C dX9_isKept_72 rfl ?_
                  refine v_ldcS 8 (tx := "hide") C (by decide) dX9_isKept_73 ?_
                  obtain ⟨r_75, s_75, e_75, h⟩ := bd_some h
                  refine v_callVi [] C (t_X9_isWord e_75) mw_X9_isWord (at_7 _ _) rfl wm_RX9_78 ⟨by decide, by decide⟩ rfl (Nat.le_of_ble_eq_true rfl) rfl dX9_isKept_75 ?_
                  refine v_if_ne 99 C dX9_isKept_78 (by decide) (fun c => ?_) (fun c => ?_)
                  · have h := if_f h c
                    refine v_iconst C dX9_isKept_99 ic_1 ?_
                    refine v_goto 104 C dX9_isKept_100 (by decide) ?_
                    exact v_ireth h R1 rfl dX9_isKept_104
                  · have h := if_t h c
                    refine v_aload_n 0 C dX9_isKept_81 rfl ?_
                    refine v_ldcS 9 (tx := "while") C (by decide) dX9_isKept_82 ?_
                    obtain ⟨r_84, s_84, e_84, h⟩ := bd_some h
                    refine v_callVi [] C (t_X9_isWord e_84) mw_X9_isWord (at_7 _ _) rfl wm_RX9_78 ⟨by decide, by decide⟩ rfl (Nat.le_of_ble_eq_true rfl) rfl dX9_isKept_84 ?_
                    refine v_if_ne 99 C dX9_isKept_87 (by decide) (fun c => ?_) (fun c => ?_)
                    · have h := if_f h c
                      refine v_iconst C dX9_isKept_99 ic_1 ?_
                      refine v_goto 104 C dX9_isKept_100 (by decide) ?_
                      exact v_ireth h R1 rfl dX9_isKept_104
                    · have h := if_t h c
                      refine v_aload_n 0 C dX9_isKept_90 rfl ?_
                      refine v_ldcS 10 (tx := "not") C (by decide) dX9_isKept_91 ?_
                      obtain ⟨r_93, s_93, e_93, h⟩ := bd_some h
                      refine v_callVi [] C (t_X9_isWord e_93) mw_X9_isWord (at_7 _ _) rfl wm_RX9_78 ⟨by decide, by decide⟩ rfl (Nat.le_of_ble_eq_true rfl) rfl dX9_isKept_93 ?_
                      refine v_if_eq 103 C dX9_isKept_96 (by decide) (fun c => ?_) (fun c => ?_)
                      · have h := if_t h c
                        refine v_iconst C dX9_isKept_103 ic_0 ?_
                        exact v_ireth h R1 rfl dX9_isKept_104
                      · have h := if_f h c
                        refine v_iconst C dX9_isKept_99 ic_1 ?_
                        refine v_goto 104 C dX9_isKept_100 (by decide) ?_
                        exact v_ireth h R1 rfl dX9_isKept_104
set_option maxRecDepth 4000 in
theorem t_X9_isName { s fin : _} {r : Int32} (h : f_X9_isName  s = some (r, fin)) : Ct yX9_isName cX9_isName 1 (some .boolean) 6 153 (fun w => [.ref (wA w 7)]) s (some (.int r)) fin := by
  refine Ct.ofI (by decide +kernel) (fun w => Nat.le_of_ble_eq_true rfl) (fun X C R1 => ?_)
  show V X s 0 [(0, .ref (wA (xw X) 7))] []
  have C : Cx X "LitWindows$Tokens" cX9_isName 1 6 153 := C
  refine v_aload_n 0 C dX9_isName_0 rfl ?_
  refine g_7_1 C wf_RX9_38 dX9_isName_1 ?_
  refine v_if_ne 32 C dX9_isName_4 (by decide) (fun c => ?_) (fun c => ?_)
  · have h := if_f h c
    refine v_iconst C dX9_isName_32 ic_0 ?_
    exact v_ireth h R1 rfl dX9_isName_33
  · have h := if_t h c
    refine v_aload_n 0 C dX9_isName_7 rfl ?_
    refine g_7_3 C wf_RX9_15 dX9_isName_8 ?_
    refine v_aload_n 0 C dX9_isName_11 rfl ?_
    refine g_7_2 C wf_RX9_22 dX9_isName_12 ?_
    refine v_isub C dX9_isName_15 ?_
    refine v_bipush C dX9_isName_16 bp_8 ?_
    refine v_icmp_gt 32 C dX9_isName_18 (by decide) (fun c => ?_) (fun c => ?_)
    · have h := if_t h c
      refine v_iconst C dX9_isName_32 ic_0 ?_
      exact v_ireth h R1 rfl dX9_isName_33
    · have h := if_f h c
      refine v_aload_n 0 C dX9_isName_21 rfl ?_
      obtain ⟨r_22, s_22, e_22, h⟩ := bd_some h
      refine v_callVi [] C (t_X9_isKept e_22) mw_X9_isKept (at_7 _ _) rfl wm_RX9_72 ⟨by decide, by decide⟩ rfl (Nat.le_of_ble_eq_true rfl) rfl dX9_isName_22 ?_
      refine v_if_ne 32 C dX9_isName_25 (by decide) (fun c => ?_) (fun c => ?_)
      · have h := if_f h c
        refine v_iconst C dX9_isName_32 ic_0 ?_
        exact v_ireth h R1 rfl dX9_isName_33
      · have h := if_t h c
        refine v_iconst C dX9_isName_28 ic_1 ?_
        refine v_goto 33 C dX9_isName_29 (by decide) ?_
        exact v_ireth h R1 rfl dX9_isName_33
set_option maxRecDepth 4000 in
theorem t_X3_addPoint_d {x1 s fin : _} (h : f_X3_addPoint_d x1 s = some ((), fin)) : Ct yX3_addPoint cX3_addPoint 2 none 0 0 (fun w => [.ref (wA w 18), .int x1]) s none fin := by
  refine Ct.ofV (by decide +kernel) (fun w => Nat.le_of_ble_eq_true rfl) (fun X C R1 => ?_)
  show V X s 0 [(0, .ref (wA (xw X) 18)), (1, .int x1)] []
  have C : Cx X "LitWindows$Plant" cX3_addPoint 2 0 0 := C
  refine v_aload_n 0 C dX3_addPoint_0 rfl ?_
  refine g_18_0 C wf_RX3_40 dX3_addPoint_1 ?_
  refine v_bipush C dX3_addPoint_4 bp_12 ?_
  refine v_icmp_ge 29 C dX3_addPoint_6 (by decide) (fun c => ?_) (fun c => ?_)
  · have h := if_t h c
    exact v_vreth h R1 dX3_addPoint_29
  · have h := if_f h c
    refine v_aload_n 0 C dX3_addPoint_9 rfl ?_
    refine g_18_4 C wf_RX3_9 dX3_addPoint_10 ?_
    refine v_aload_n 0 C dX3_addPoint_13 rfl ?_
    refine g_18_0 C wf_RX3_40 dX3_addPoint_14 ?_
    refine v_iload_n 1 C dX3_addPoint_17 rfl ?_
    obtain ⟨hi, h⟩ := gi_some h
    refine ast_19 C hi dX3_addPoint_18 ?_
    refine v_aload_n 0 C dX3_addPoint_19 rfl ?_
    refine v_dupr C dX3_addPoint_20 ?_
    refine g_18_0 C wf_RX3_40 dX3_addPoint_21 ?_
    refine v_iconst C dX3_addPoint_24 ic_1 ?_
    refine v_iadd C dX3_addPoint_25 ?_
    refine p_18_0 C wf_RX3_40 dX3_addPoint_26 ?_
    exact v_vreth h R1 dX3_addPoint_29
set_option maxRecDepth 4000 in
theorem tj_X4_readPoint_d_98  {X : CX} {r : Int32} {fin : St} (C : Cx X "LitWindows$Reader" cX4_readPoint 3 7 173) (R1 : RtI X cX4_readPoint .boolean r fin)  {x2 s : _} (h : j_X4_readPoint_d_98  x2 s = some (r, fin)) : V X s 98 [(0, .ref (wA (xw X) 3)), (1, .ref (wA (xw X) 18)), (2, .int x2)] [] := by
  refine v_aload_n 0 C dX4_readPoint_98 rfl ?_
  refine g_3_1 C wf_RX4_30 dX4_readPoint_99 ?_
  obtain ⟨r_102, s_102, e_102, h⟩ := bd_some h
  refine v_callVv [] C (t_X9_advance e_102) mw_X9_advance (at_7 _ _) rfl wm_RX4_91 ⟨by decide, by decide⟩ rfl (Nat.le_of_ble_eq_true rfl) rfl dX4_readPoint_102 ?_
  refine v_aload_n 0 C dX4_readPoint_105 rfl ?_
  obtain ⟨r_106, s_106, e_106, h⟩ := bd_some h
  refine v_callVi [] C (t_X4_takeSemicolon e_106) mw_X4_takeSemicolon (at_3 _ _) rfl wm_RX4_109 ⟨by decide, by decide⟩ rfl (Nat.le_of_ble_eq_true rfl) rfl dX4_readPoint_106 ?_
  refine v_if_ne 114 C dX4_readPoint_109 (by decide) (fun c => ?_) (fun c => ?_)
  · have h := if_f h c
    refine v_aload_n 1 C dX4_readPoint_114 rfl ?_
    refine v_iload_n 2 C dX4_readPoint_115 rfl ?_
    obtain ⟨r_116, s_116, e_116, h⟩ := bd_some h
    refine v_callVv [] C (t_X3_addPoint_d e_116) mw_X3_addPoint (at_18 _ _) rfl wm_RX4_112 ⟨by decide, by decide⟩ rfl (Nat.le_of_ble_eq_true rfl) rfl dX4_readPoint_116 ?_
    refine v_iconst C dX4_readPoint_119 ic_1 ?_
    exact v_ireth h R1 rfl dX4_readPoint_120
  · have h := if_t h c
    refine v_iconst C dX4_readPoint_112 ic_0 ?_
    exact v_ireth h R1 rfl dX4_readPoint_113
set_option maxRecDepth 4000 in
theorem t_X4_readPoint_d { s fin : _} {r : Int32} (h : f_X4_readPoint_d  s = some (r, fin)) : Ct yX4_readPoint cX4_readPoint 3 (some .boolean) 7 173 (fun w => [.ref (wA w 3), .ref (wA w 18)]) s (some (.int r)) fin := by
  refine Ct.ofI (by decide +kernel) (fun w => Nat.le_of_ble_eq_true rfl) (fun X C R1 => ?_)
  show V X s 0 [(0, .ref (wA (xw X) 3)), (1, .ref (wA (xw X) 18))] []
  have C : Cx X "LitWindows$Reader" cX4_readPoint 3 7 173 := C
  refine v_aload_n 0 C dX4_readPoint_0 rfl ?_
  refine g_3_1 C wf_RX4_30 dX4_readPoint_1 ?_
  obtain ⟨r_4, s_4, e_4, h⟩ := bd_some h
  refine v_callVv [] C (t_X9_advance e_4) mw_X9_advance (at_7 _ _) rfl wm_RX4_91 ⟨by decide, by decide⟩ rfl (Nat.le_of_ble_eq_true rfl) rfl dX4_readPoint_4 ?_
  refine v_aload_n 0 C dX4_readPoint_7 rfl ?_
  refine g_3_1 C wf_RX4_30 dX4_readPoint_8 ?_
  obtain ⟨r_11, s_11, e_11, h⟩ := bd_some h
  refine v_callVi [] C (t_X9_isName e_11) mw_X9_isName (at_7 _ _) rfl wm_RX4_94 ⟨by decide, by decide⟩ rfl (Nat.le_of_ble_eq_true rfl) rfl dX4_readPoint_11 ?_
  refine v_if_eq 29 C dX4_readPoint_14 (by decide) (fun c => ?_) (fun c => ?_)
  · have h := if_t h c
    refine v_iconst C dX4_readPoint_29 ic_0 ?_
    exact v_ireth h R1 rfl dX4_readPoint_30
  · have h := if_f h c
    refine v_aload_n 0 C dX4_readPoint_17 rfl ?_
    refine v_aload_n 1 C dX4_readPoint_18 rfl ?_
    refine g_18_0 C wf_RX4_52 dX4_readPoint_19 ?_
    obtain ⟨r_22, s_22, e_22, h⟩ := bd_some h
    refine v_callVi [] C (t_X4_findPoint e_22) mw_X4_findPoint (at_3 _ _) rfl wm_RX4_98 ⟨by decide, by decide⟩ rfl (Nat.le_of_ble_eq_true rfl) rfl dX4_readPoint_22 ?_
    refine v_iconst C dX4_readPoint_25 ic_m1 ?_
    refine v_icmp_eq 31 C dX4_readPoint_26 (by decide) (fun c => ?_) (fun c => ?_)
    · have h := if_t h c
      refine v_aload_n 0 C dX4_readPoint_31 rfl ?_
      refine g_3_2 C wf_RX4_9 dX4_readPoint_32 ?_
      refine v_aload_n 1 C dX4_readPoint_35 rfl ?_
      refine g_18_0 C wf_RX4_52 dX4_readPoint_36 ?_
      refine v_aload_n 0 C dX4_readPoint_39 rfl ?_
      refine g_3_1 C wf_RX4_30 dX4_readPoint_40 ?_
      refine g_7_2 C wf_RX4_83 dX4_readPoint_43 ?_
      obtain ⟨hi, h⟩ := gi_some h
      refine ast_4 C hi dX4_readPoint_46 ?_
      refine v_aload_n 0 C dX4_readPoint_47 rfl ?_
      refine g_3_3 C wf_RX4_15 dX4_readPoint_48 ?_
      refine v_aload_n 1 C dX4_readPoint_51 rfl ?_
      refine g_18_0 C wf_RX4_52 dX4_readPoint_52 ?_
      refine v_aload_n 0 C dX4_readPoint_55 rfl ?_
      refine g_3_1 C wf_RX4_30 dX4_readPoint_56 ?_
      refine g_7_3 C wf_RX4_102 dX4_readPoint_59 ?_
      obtain ⟨hi, h⟩ := gi_some h
      refine ast_5 C hi dX4_readPoint_62 ?_
      refine v_aload_n 0 C dX4_readPoint_63 rfl ?_
      refine g_3_1 C wf_RX4_30 dX4_readPoint_64 ?_
      obtain ⟨r_67, s_67, e_67, h⟩ := bd_some h
      refine v_callVv [] C (t_X9_advance e_67) mw_X9_advance (at_7 _ _) rfl wm_RX4_91 ⟨by decide, by decide⟩ rfl (Nat.le_of_ble_eq_true rfl) rfl dX4_readPoint_67 ?_
      refine v_aload_n 0 C dX4_readPoint_70 rfl ?_
      refine g_3_1 C wf_RX4_30 dX4_readPoint_71 ?_
      refine v_ldcS 2 (tx := "all") C (by decide) dX4_readPoint_74 ?_
      obtain ⟨r_76, s_76, e_76, h⟩ := bd_some h
      refine v_callVi [] C (t_X9_isWord e_76) mw_X9_isWord (at_7 _ _) rfl wm_RX4_48 ⟨by decide, by decide⟩ rfl (Nat.le_of_ble_eq_true rfl) rfl dX4_readPoint_76 ?_
      refine v_istore_n (L1 := [(0, _), (1, _), (2, _)]) [1, 2, 0] C dX4_readPoint_79 (by decide) rfl ?_
      refine v_iload_n 2 C dX4_readPoint_80 rfl ?_
      refine v_if_ne 98 C dX4_readPoint_81 (by decide) (fun c => ?_) (fun c => ?_)
      · have h := if_f h c
        exact tj_X4_readPoint_d_98 C R1  h
      · have h := if_t h c
        refine v_aload_n 0 C dX4_readPoint_84 rfl ?_
        refine g_3_1 C wf_RX4_30 dX4_readPoint_85 ?_
        refine v_ldcS 1 (tx := "any") C (by decide) dX4_readPoint_88 ?_
        obtain ⟨r_90, s_90, e_90, h⟩ := bd_some h
        refine v_callVi [] C (t_X9_isWord e_90) mw_X9_isWord (at_7 _ _) rfl wm_RX4_48 ⟨by decide, by decide⟩ rfl (Nat.le_of_ble_eq_true rfl) rfl dX4_readPoint_90 ?_
        refine v_if_ne 98 C dX4_readPoint_93 (by decide) (fun c => ?_) (fun c => ?_)
        · have h := if_f h c
          exact tj_X4_readPoint_d_98 C R1  h
        · have h := if_t h c
          refine v_iconst C dX4_readPoint_96 ic_0 ?_
          exact v_ireth h R1 rfl dX4_readPoint_97
    · have h := if_f h c
      refine v_iconst C dX4_readPoint_29 ic_0 ?_
      exact v_ireth h R1 rfl dX4_readPoint_30
set_option maxRecDepth 4000 in
theorem tj_X4_read_d_192  {X : CX} {r : Int32} {fin : St} (C : Cx X "LitWindows$Reader" cX4_read 4 8 195) (R1 : RtI X cX4_read .int r fin)  {x2 s : _} (h : j_X4_read_d_192  x2 s = some (r, fin)) : V X s 192 [(0, .ref (wA (xw X) 3)), (1, .ref (wA (xw X) 18)), (2, .int x2)] [] := by
  refine v_iload_n 2 C dX4_read_192 rfl ?_
  refine v_if_ne 204 C dX4_read_193 (by decide) (fun c => ?_) (fun c => ?_)
  · have h := if_f h c
    refine v_aload_n 1 C dX4_read_204 rfl ?_
    refine g_18_0 C wf_RX4_52 dX4_read_205 ?_
    refine v_if_ne 221 C dX4_read_208 (by decide) (fun c => ?_) (fun c => ?_)
    · have h := if_f h c
      refine v_iconst C dX4_read_221 ic_m1 ?_
      exact v_ireth h R1 rfl dX4_read_222
    · have h := if_t h c
      refine v_aload_n 0 C dX4_read_211 rfl ?_
      refine g_3_0 C wf_RX4_21 dX4_read_212 ?_
      refine g_1_1 C wf_RX4_86 dX4_read_215 ?_
      refine v_goto 222 C dX4_read_218 (by decide) ?_
      exact v_ireth h R1 rfl dX4_read_222
  · have h := if_t h c
    refine v_aload_n 0 C dX4_read_196 rfl ?_
    refine g_3_1 C wf_RX4_30 dX4_read_197 ?_
    refine g_7_2 C wf_RX4_83 dX4_read_200 ?_
    exact v_ireth h R1 rfl dX4_read_203
set_option maxRecDepth 4000 in
theorem tl_X4_read_d_15  {X : CX} {r : Int32} {fin : St} (C : Cx X "LitWindows$Reader" cX4_read 4 8 195) (R1 : RtI X cX4_read .int r fin)  : ∀ (n : Nat) (x2 : Int32) (x3 : Int32) (s : St), l_X4_read_d_15  n x2 x3 s = some (r, fin) → V X s 15 [(0, .ref (wA (xw X) 3)), (1, .ref (wA (xw X) 18)), (2, .int x2), (3, .int x3)] [] := by
  intro n
  induction n with
  | zero => intro x2 x3 s h; exact none_no h
  | succ n hr15 =>
    intro x2 x3 s h
    have h : b_X4_read_d_15  (l_X4_read_d_15  n) x2 x3 s = some (r, fin) := h
    refine v_iload_n 3 C dX4_read_15 rfl ?_
    refine v_sipush C dX4_read_16 sp_600 ?_
    refine v_icmp_ge 192 C dX4_read_19 (by decide) (fun c => ?_) (fun c => ?_)
    · have h := if_t h c
      refine v_sub [0, 1, 2] (L1 := [(0, _), (1, _), (2, _)]) rfl ?_
      exact tj_X4_read_d_192 C R1  h
    · have h := if_f h c
      refine v_iload_n 2 C dX4_read_22 rfl ?_
      refine v_if_eq 192 C dX4_read_23 (by decide) (fun c => ?_) (fun c => ?_)
      · have h := if_t h c
        refine v_sub [0, 1, 2] (L1 := [(0, _), (1, _), (2, _)]) rfl ?_
        exact tj_X4_read_d_192 C R1  h
      · have h := if_f h c
        refine v_aload_n 0 C dX4_read_26 rfl ?_
        refine g_3_1 C wf_RX4_30 dX4_read_27 ?_
        refine g_7_1 C wf_RX4_42 dX4_read_30 ?_
        refine v_iconst C dX4_read_33 ic_4 ?_
        refine v_icmp_eq 192 C dX4_read_34 (by decide) (fun c => ?_) (fun c => ?_)
        · have h := if_t h c
          refine v_sub [0, 1, 2] (L1 := [(0, _), (1, _), (2, _)]) rfl ?_
          exact tj_X4_read_d_192 C R1  h
        · have h := if_f h c
          refine v_aload_n 0 C dX4_read_37 rfl ?_
          refine g_3_1 C wf_RX4_30 dX4_read_38 ?_
          refine v_ldcS 0 (tx := "point") C (by decide) dX4_read_41 ?_
          obtain ⟨r_43, s_43, e_43, h⟩ := bd_some h
          refine v_callVi [] C (t_X9_isWord e_43) mw_X9_isWord (at_7 _ _) rfl wm_RX4_48 ⟨by decide, by decide⟩ rfl (Nat.le_of_ble_eq_true rfl) rfl dX4_read_43 ?_
          refine v_if_eq 75 C dX4_read_46 (by decide) (fun c => ?_) (fun c => ?_)
          · have h := if_t h c
            refine v_aload_n 0 C dX4_read_75 rfl ?_
            refine g_3_1 C wf_RX4_30 dX4_read_76 ?_
            refine v_ldcS 3 (tx := "from") C (by decide) dX4_read_79 ?_
            obtain ⟨r_81, s_81, e_81, h⟩ := bd_some h
            refine v_callVi [] C (t_X9_isWord e_81) mw_X9_isWord (at_7 _ _) rfl wm_RX4_48 ⟨by decide, by decide⟩ rfl (Nat.le_of_ble_eq_true rfl) rfl dX4_read_81 ?_
            refine v_if_eq 113 C dX4_read_84 (by decide) (fun c => ?_) (fun c => ?_)
            · have h := if_t h c
              refine v_aload_n 0 C dX4_read_113 rfl ?_
              refine g_3_1 C wf_RX4_30 dX4_read_114 ?_
              refine v_ldcS 6 (tx := "window") C (by decide) dX4_read_117 ?_
              obtain ⟨r_119, s_119, e_119, h⟩ := bd_some h
              refine v_callVi [] C (t_X9_isWord e_119) mw_X9_isWord (at_7 _ _) rfl wm_RX4_48 ⟨by decide, by decide⟩ rfl (Nat.le_of_ble_eq_true rfl) rfl dX4_read_119 ?_
              refine v_if_eq 151 C dX4_read_122 (by decide) (fun c => ?_) (fun c => ?_)
              · have h := if_t h c
                refine v_aload_n 0 C dX4_read_151 rfl ?_
                refine g_3_1 C wf_RX4_30 dX4_read_152 ?_
                refine v_ldcS 8 (tx := "hide") C (by decide) dX4_read_155 ?_
                obtain ⟨r_157, s_157, e_157, h⟩ := bd_some h
                refine v_callVi [] C (t_X9_isWord e_157) mw_X9_isWord (at_7 _ _) rfl wm_RX4_48 ⟨by decide, by decide⟩ rfl (Nat.le_of_ble_eq_true rfl) rfl dX4_read_157 ?_
                refine v_if_eq 184 C dX4_read_160 (by decide) (fun c => ?_) (fun c => ?_)
                · have h := if_t h c
                  refine v_iconst C dX4_read_184 ic_0 ?_
                  refine v_istore_n (L1 := [(0, _), (1, _), (2, _), (3, _)]) [1, 2, 0, 3] C dX4_read_185 (by decide) rfl ?_
                  refine v_iinc (L1 := [(0, _), (1, _), (2, _), (3, _)]) 3 [1, 2, 3, 0] C dX4_read_186 rfl ic_1 (by decide) rfl ?_
                  refine v_goto 15 C dX4_read_189 (by decide) ?_
                  exact hr15 _ _ _ h
                · have h := if_f h c
                  refine v_aload_n 1 C dX4_read_163 rfl ?_
                  refine g_18_3 C wf_RX4_77 dX4_read_164 ?_
                  refine v_bipush C dX4_read_167 bp_8 ?_
                  refine v_icmp_ge 184 C dX4_read_169 (by decide) (fun c => ?_) (fun c => ?_)
                  · have h := if_t h c
                    refine v_iconst C dX4_read_184 ic_0 ?_
                    refine v_istore_n (L1 := [(0, _), (1, _), (2, _), (3, _)]) [1, 2, 0, 3] C dX4_read_185 (by decide) rfl ?_
                    refine v_iinc (L1 := [(0, _), (1, _), (2, _), (3, _)]) 3 [1, 2, 3, 0] C dX4_read_186 rfl ic_1 (by decide) rfl ?_
                    refine v_goto 15 C dX4_read_189 (by decide) ?_
                    exact hr15 _ _ _ h
                  · have h := if_f h c
                    refine v_aload_n 0 C dX4_read_172 rfl ?_
                    refine v_aload_n 1 C dX4_read_173 rfl ?_
                    obtain ⟨r_174, s_174, e_174, h⟩ := bd_some h
                    refine v_callVi [] C (t_X4_readRule_d e_174) mw_X4_readRule (at_3 _ _) rfl wm_RX4_80 ⟨by decide, by decide⟩ rfl (Nat.le_of_ble_eq_true rfl) rfl dX4_read_174 ?_
                    refine v_if_eq 184 C dX4_read_177 (by decide) (fun c => ?_) (fun c => ?_)
                    · have h := if_t h c
                      refine v_iconst C dX4_read_184 ic_0 ?_
                      refine v_istore_n (L1 := [(0, _), (1, _), (2, _), (3, _)]) [1, 2, 0, 3] C dX4_read_185 (by decide) rfl ?_
                      refine v_iinc (L1 := [(0, _), (1, _), (2, _), (3, _)]) 3 [1, 2, 3, 0] C dX4_read_186 rfl ic_1 (by decide) rfl ?_
                      refine v_goto 15 C dX4_read_189 (by decide) ?_
                      exact hr15 _ _ _ h
                    · have h := if_f h c
                      refine v_iconst C dX4_read_180 ic_1 ?_
                      refine v_goto 185 C dX4_read_181 (by decide) ?_
                      refine v_istore_n (L1 := [(0, _), (1, _), (2, _), (3, _)]) [1, 2, 0, 3] C dX4_read_185 (by decide) rfl ?_
                      refine v_iinc (L1 := [(0, _), (1, _), (2, _), (3, _)]) 3 [1, 2, 3, 0] C dX4_read_186 rfl ic_1 (by decide) rfl ?_
                      refine v_goto 15 C dX4_read_189 (by decide) ?_
                      exact hr15 _ _ _ h
              · have h := if_f h c
                refine v_aload_n 1 C dX4_read_125 rfl ?_
                refine g_18_2 C wf_RX4_69 dX4_read_126 ?_
                refine v_bipush C dX4_read_129 bp_12 ?_
                refine v_icmp_ge 146 C dX4_read_131 (by decide) (fun c => ?_) (fun c => ?_)
                · have h := if_t h c
                  refine v_iconst C dX4_read_146 ic_0 ?_
                  refine v_istore_n (L1 := [(0, _), (1, _), (2, _), (3, _)]) [1, 2, 0, 3] C dX4_read_147 (by decide) rfl ?_
                  refine v_goto 186 C dX4_read_148 (by decide) ?_
                  refine v_iinc (L1 := [(0, _), (1, _), (2, _), (3, _)]) 3 [1, 2, 3, 0] C dX4_read_186 rfl ic_1 (by decide) rfl ?_
                  refine v_goto 15 C dX4_read_189 (by decide) ?_
                  exact hr15 _ _ _ h
                · have h := if_f h c
                  refine v_aload_n 0 C dX4_read_134 rfl ?_
                  refine v_aload_n 1 C dX4_read_135 rfl ?_
                  obtain ⟨r_136, s_136, e_136, h⟩ := bd_some h
                  refine v_callVi [] C (t_X4_readWindow_d e_136) mw_X4_readWindow (at_3 _ _) rfl wm_RX4_72 ⟨by decide, by decide⟩ rfl (Nat.le_of_ble_eq_true rfl) rfl dX4_read_136 ?_
                  refine v_if_eq 146 C dX4_read_139 (by decide) (fun c => ?_) (fun c => ?_)
                  · have h := if_t h c
                    refine v_iconst C dX4_read_146 ic_0 ?_
                    refine v_istore_n (L1 := [(0, _), (1, _), (2, _), (3, _)]) [1, 2, 0, 3] C dX4_read_147 (by decide) rfl ?_
                    refine v_goto 186 C dX4_read_148 (by decide) ?_
                    refine v_iinc (L1 := [(0, _), (1, _), (2, _), (3, _)]) 3 [1, 2, 3, 0] C dX4_read_186 rfl ic_1 (by decide) rfl ?_
                    refine v_goto 15 C dX4_read_189 (by decide) ?_
                    exact hr15 _ _ _ h
                  · have h := if_f h c
                    refine v_iconst C dX4_read_142 ic_1 ?_
                    refine v_goto 147 C dX4_read_143 (by decide) ?_
                    refine v_istore_n (L1 := [(0, _), (1, _), (2, _), (3, _)]) [1, 2, 0, 3] C dX4_read_147 (by decide) rfl ?_
                    refine v_goto 186 C dX4_read_148 (by decide) ?_
                    refine v_iinc (L1 := [(0, _), (1, _), (2, _), (3, _)]) 3 [1, 2, 3, 0] C dX4_read_186 rfl ic_1 (by decide) rfl ?_
                    refine v_goto 15 C dX4_read_189 (by decide) ?_
                    exact hr15 _ _ _ h
            · have h := if_f h c
              refine v_aload_n 1 C dX4_read_87 rfl ?_
              refine g_18_1 C wf_RX4_61 dX4_read_88 ?_
              refine v_bipush C dX4_read_91 bp_24 ?_
              refine v_icmp_ge 108 C dX4_read_93 (by decide) (fun c => ?_) (fun c => ?_)
              · have h := if_t h c
                refine v_iconst C dX4_read_108 ic_0 ?_
                refine v_istore_n (L1 := [(0, _), (1, _), (2, _), (3, _)]) [1, 2, 0, 3] C dX4_read_109 (by decide) rfl ?_
                refine v_goto 186 C dX4_read_110 (by decide) ?_
                refine v_iinc (L1 := [(0, _), (1, _), (2, _), (3, _)]) 3 [1, 2, 3, 0] C dX4_read_186 rfl ic_1 (by decide) rfl ?_
                refine v_goto 15 C dX4_read_189 (by decide) ?_
                exact hr15 _ _ _ h
              · have h := if_f h c
                refine v_aload_n 0 C dX4_read_96 rfl ?_
                refine v_aload_n 1 C dX4_read_97 rfl ?_
                obtain ⟨r_98, s_98, e_98, h⟩ := bd_some h
                refine v_callVi [] C (t_X4_readArc_d e_98) mw_X4_readArc (at_3 _ _) rfl wm_RX4_64 ⟨by decide, by decide⟩ rfl (Nat.le_of_ble_eq_true rfl) rfl dX4_read_98 ?_
                refine v_if_eq 108 C dX4_read_101 (by decide) (fun c => ?_) (fun c => ?_)
                · have h := if_t h c
                  refine v_iconst C dX4_read_108 ic_0 ?_
                  refine v_istore_n (L1 := [(0, _), (1, _), (2, _), (3, _)]) [1, 2, 0, 3] C dX4_read_109 (by decide) rfl ?_
                  refine v_goto 186 C dX4_read_110 (by decide) ?_
                  refine v_iinc (L1 := [(0, _), (1, _), (2, _), (3, _)]) 3 [1, 2, 3, 0] C dX4_read_186 rfl ic_1 (by decide) rfl ?_
                  refine v_goto 15 C dX4_read_189 (by decide) ?_
                  exact hr15 _ _ _ h
                · have h := if_f h c
                  refine v_iconst C dX4_read_104 ic_1 ?_
                  refine v_goto 109 C dX4_read_105 (by decide) ?_
                  refine v_istore_n (L1 := [(0, _), (1, _), (2, _), (3, _)]) [1, 2, 0, 3] C dX4_read_109 (by decide) rfl ?_
                  refine v_goto 186 C dX4_read_110 (by decide) ?_
                  refine v_iinc (L1 := [(0, _), (1, _), (2, _), (3, _)]) 3 [1, 2, 3, 0] C dX4_read_186 rfl ic_1 (by decide) rfl ?_
                  refine v_goto 15 C dX4_read_189 (by decide) ?_
                  exact hr15 _ _ _ h
          · have h := if_f h c
            refine v_aload_n 1 C dX4_read_49 rfl ?_
            refine g_18_0 C wf_RX4_52 dX4_read_50 ?_
            refine v_bipush C dX4_read_53 bp_12 ?_
            refine v_icmp_ge 70 C dX4_read_55 (by decide) (fun c => ?_) (fun c => ?_)
            · have h := if_t h c
              refine v_iconst C dX4_read_70 ic_0 ?_
              refine v_istore_n (L1 := [(0, _), (1, _), (2, _), (3, _)]) [1, 2, 0, 3] C dX4_read_71 (by decide) rfl ?_
              refine v_goto 186 C dX4_read_72 (by decide) ?_
              refine v_iinc (L1 := [(0, _), (1, _), (2, _), (3, _)]) 3 [1, 2, 3, 0] C dX4_read_186 rfl ic_1 (by decide) rfl ?_
              refine v_goto 15 C dX4_read_189 (by decide) ?_
              exact hr15 _ _ _ h
            · have h := if_f h c
              refine v_aload_n 0 C dX4_read_58 rfl ?_
              refine v_aload_n 1 C dX4_read_59 rfl ?_
              obtain ⟨r_60, s_60, e_60, h⟩ := bd_some h
              refine v_callVi [] C (t_X4_readPoint_d e_60) mw_X4_readPoint (at_3 _ _) rfl wm_RX4_55 ⟨by decide, by decide⟩ rfl (Nat.le_of_ble_eq_true rfl) rfl dX4_read_60 ?_
              refine v_if_eq 70 C dX4_read_63 (by decide) (fun c => ?_) (fun c => ?_)
              · have h := if_t h c
                refine v_iconst C dX4_read_70 ic_0 ?_
                refine v_istore_n (L1 := [(0, _), (1, _), (2, _), (3, _)]) [1, 2, 0, 3] C dX4_read_71 (by decide) rfl ?_
                refine v_goto 186 C dX4_read_72 (by decide) ?_
                refine v_iinc (L1 := [(0, _), (1, _), (2, _), (3, _)]) 3 [1, 2, 3, 0] C dX4_read_186 rfl ic_1 (by decide) rfl ?_
                refine v_goto 15 C dX4_read_189 (by decide) ?_
                exact hr15 _ _ _ h
              · have h := if_f h c
                refine v_iconst C dX4_read_66 ic_1 ?_
                refine v_goto 71 C dX4_read_67 (by decide) ?_
                refine v_istore_n (L1 := [(0, _), (1, _), (2, _), (3, _)]) [1, 2, 0, 3] C dX4_read_71 (by decide) rfl ?_
                refine v_goto 186 C dX4_read_72 (by decide) ?_
                refine v_iinc (L1 := [(0, _), (1, _), (2, _), (3, _)]) 3 [1, 2, 3, 0] C dX4_read_186 rfl ic_1 (by decide) rfl ?_
                refine v_goto 15 C dX4_read_189 (by decide) ?_
                exact hr15 _ _ _ h
set_option maxRecDepth 4000 in
theorem t_X4_read_d { s fin : _} {r : Int32} (h : f_X4_read_d  s = some (r, fin)) : Ct yX4_read cX4_read 4 (some .int) 8 195 (fun w => [.ref (wA w 3), .ref (wA w 18)]) s (some (.int r)) fin := by
  refine Ct.ofI (by decide +kernel) (fun w => Nat.le_of_ble_eq_true rfl) (fun X C R1 => ?_)
  show V X s 0 [(0, .ref (wA (xw X) 3)), (1, .ref (wA (xw X) 18))] []
  have C : Cx X "LitWindows$Reader" cX4_read 4 8 195 := C
  refine v_aload_n 1 C dX4_read_0 rfl ?_
  obtain ⟨r_1, s_1, e_1, h⟩ := bd_some h
  refine v_callVv [] C (t_X3_clear_d e_1) mw_X3_clear (at_18 _ _) rfl wm_RX4_34 ⟨by decide, by decide⟩ rfl (Nat.le_of_ble_eq_true rfl) rfl dX4_read_1 ?_
  refine v_aload_n 0 C dX4_read_4 rfl ?_
  refine g_3_1 C wf_RX4_30 dX4_read_5 ?_
  obtain ⟨r_8, s_8, e_8, h⟩ := bd_some h
  refine v_callVv [] C (t_X9_restart e_8) mw_X9_restart (at_7 _ _) rfl wm_RX4_39 ⟨by decide, by decide⟩ rfl (Nat.le_of_ble_eq_true rfl) rfl dX4_read_8 ?_
  refine v_iconst C dX4_read_11 ic_1 ?_
  refine v_istore_n (L1 := [(0, _), (1, _), (2, _)]) [1, 2, 0] C dX4_read_12 (by decide) rfl ?_
  refine v_iconst C dX4_read_13 ic_0 ?_
  refine v_istore_n (L1 := [(0, _), (1, _), (2, _), (3, _)]) [1, 2, 3, 0] C dX4_read_14 (by decide) rfl ?_
  exact tl_X4_read_d_15 C R1  FU _ _ _ h
set_option maxRecDepth 4000 in
theorem t_X10_fault { s fin : _} {r : Int32} (h : f_X10_fault  s = some (r, fin)) : Ct yX10_fault cX10_fault 1 (some .int) 9 218 (fun w => [.ref (wA w 0)]) s (some (.int r)) fin := by
  refine Ct.ofI (by decide +kernel) (fun w => Nat.le_of_ble_eq_true rfl) (fun X C R1 => ?_)
  show V X s 0 [(0, .ref (wA (xw X) 0))] []
  have C : Cx X "LitWindows" cX10_fault 1 9 218 := C
  refine v_aload_n 0 C dX10_fault_0 rfl ?_
  refine g_0_1 C wf_RX10_21 dX10_fault_1 ?_
  refine v_aload_n 0 C dX10_fault_4 rfl ?_
  refine g_0_3 C wf_RX10_32 dX10_fault_5 ?_
  obtain ⟨r_8, s_8, e_8, h⟩ := bd_some h
  refine v_callVi [] C (t_X4_read_d e_8) mw_X4_read (at_3 _ _) rfl wm_RX10_99 ⟨by decide, by decide⟩ rfl (Nat.le_of_ble_eq_true rfl) rfl dX10_fault_8 ?_
  exact v_ireth h R1 rfl dX10_fault_11
set_option maxRecDepth 4000 in
theorem t_X11_isLetter {x0 s fin : _} {r : Int32} (h : f_X11_isLetter x0 s = some (r, fin)) : Ct yX11_isLetter cX11_isLetter 1 (some .boolean) 0 0 (fun w => [.int x0]) s (some (.int r)) fin := by
  refine Ct.ofI (by decide +kernel) (fun w => Nat.le_of_ble_eq_true rfl) (fun X C R1 => ?_)
  show V X s 0 [(0, .int x0)] []
  have C : Cx X "LitWindowsModel" cX11_isLetter 1 0 0 := C
  refine v_iload_n 0 C dX11_isLetter_0 rfl ?_
  refine v_bipush C dX11_isLetter_1 bp_97 ?_
  refine v_icmp_lt 16 C dX11_isLetter_3 (by decide) (fun c => ?_) (fun c => ?_)
  · have h := if_t h c
    refine v_iconst C dX11_isLetter_16 ic_0 ?_
    exact v_ireth h R1 rfl dX11_isLetter_17
  · have h := if_f h c
    refine v_iload_n 0 C dX11_isLetter_6 rfl ?_
    refine v_bipush C dX11_isLetter_7 bp_122 ?_
    refine v_icmp_gt 16 C dX11_isLetter_9 (by decide) (fun c => ?_) (fun c => ?_)
    · have h := if_t h c
      refine v_iconst C dX11_isLetter_16 ic_0 ?_
      exact v_ireth h R1 rfl dX11_isLetter_17
    · have h := if_f h c
      refine v_iconst C dX11_isLetter_12 ic_1 ?_
      refine v_goto 17 C dX11_isLetter_13 (by decide) ?_
      exact v_ireth h R1 rfl dX11_isLetter_17
set_option maxRecDepth 4000 in
theorem t_X11_isDigit {x0 s fin : _} {r : Int32} (h : f_X11_isDigit x0 s = some (r, fin)) : Ct yX11_isDigit cX11_isDigit 1 (some .boolean) 0 0 (fun w => [.int x0]) s (some (.int r)) fin := by
  refine Ct.ofI (by decide +kernel) (fun w => Nat.le_of_ble_eq_true rfl) (fun X C R1 => ?_)
  show V X s 0 [(0, .int x0)] []
  have C : Cx X "LitWindowsModel" cX11_isDigit 1 0 0 := C
  refine v_iload_n 0 C dX11_isDigit_0 rfl ?_
  refine v_bipush C dX11_isDigit_1 bp_48 ?_
  refine v_icmp_lt 16 C dX11_isDigit_3 (by decide) (fun c => ?_) (fun c => ?_)
  · have h := if_t h c
    refine v_iconst C dX11_isDigit_16 ic_0 ?_
    exact v_ireth h R1 rfl dX11_isDigit_17
  · have h := if_f h c
    refine v_iload_n 0 C dX11_isDigit_6 rfl ?_
    refine v_bipush C dX11_isDigit_7 bp_57 ?_
    refine v_icmp_gt 16 C dX11_isDigit_9 (by decide) (fun c => ?_) (fun c => ?_)
    · have h := if_t h c
      refine v_iconst C dX11_isDigit_16 ic_0 ?_
      exact v_ireth h R1 rfl dX11_isDigit_17
    · have h := if_f h c
      refine v_iconst C dX11_isDigit_12 ic_1 ?_
      refine v_goto 17 C dX11_isDigit_13 (by decide) ?_
      exact v_ireth h R1 rfl dX11_isDigit_17
set_option maxRecDepth 4000 in
theorem tl_X11_next_208  {X : CX} {fin : St} (C : Cx X "LitWindowsModel" cX11_next 2 1 20) (R1 : RtV X cX11_next fin)  : ∀ (n : Nat)  (s : St), l_X11_next_208  n  s = some ((), fin) → V X s 208 [(0, .ref (wA (xw X) 74))] [] := by
  intro n
  induction n with
  | zero => intro  s h; exact none_no h
  | succ n hr208 =>
    intro  s h
    have h : b_X11_next_208  (l_X11_next_208  n)  s = some ((), fin) := h
    refine v_aload_n 0 C dX11_next_208 rfl ?_
    refine g_74_2 C wf_RX11_102 dX11_next_209 ?_
    refine v_aload_n 0 C dX11_next_212 rfl ?_
    refine g_74_1 C wf_RX11_95 dX11_next_213 ?_
    refine v_icmp_ge 292 C dX11_next_216 (by decide) (fun c => ?_) (fun c => ?_)
    · have h := if_t h c
      refine v_aload_n 0 C dX11_next_292 rfl ?_
      refine v_iconst C dX11_next_293 ic_2 ?_
      refine p_74_3 C wf_RX11_112 dX11_next_294 ?_
      refine v_goto 325 C dX11_next_297 (by decide) ?_
      exact v_vreth h R1 dX11_next_325
    · have h := if_f h c
      refine v_aload_n 0 C dX11_next_219 rfl ?_
      refine g_74_0 C wf_RX11_9 dX11_next_220 ?_
      refine v_aload_n 0 C dX11_next_223 rfl ?_
      refine g_74_2 C wf_RX11_102 dX11_next_224 ?_
      obtain ⟨hi, h⟩ := gi_some h
      refine ald_75 C hi dX11_next_227 ?_
      obtain ⟨r_228, s_228, e_228, h⟩ := bd_some h
      refine v_callSi [] C (t_X11_isDigit e_228) mw_X11_isDigit wm_RX11_119 ⟨by decide, by decide⟩ rfl (Nat.le_of_ble_eq_true rfl) rfl dX11_next_228 ?_
      refine v_if_eq 292 C dX11_next_231 (by decide) (fun c => ?_) (fun c => ?_)
      · have h := if_t h c
        refine v_aload_n 0 C dX11_next_292 rfl ?_
        refine v_iconst C dX11_next_293 ic_2 ?_
        refine p_74_3 C wf_RX11_112 dX11_next_294 ?_
        refine v_goto 325 C dX11_next_297 (by decide) ?_
        exact v_vreth h R1 dX11_next_325
      · have h := if_f h c
        refine v_aload_n 0 C dX11_next_234 rfl ?_
        refine v_aload_n 0 C dX11_next_235 rfl ?_
        refine g_74_5 C wf_RX11_108 dX11_next_236 ?_
        refine v_ldc2 C wl_RX11_122 dX11_next_239 ?_
        refine v_lcmp C dX11_next_242 ?_
        refine v_if_le 253 C dX11_next_243 (by decide) (fun c => ?_) (fun c => ?_)
        · have h := if_t h c
          refine v_ldc2 C wl_RX11_124 dX11_next_253 ?_
          refine v_aload_n 0 C dX11_next_256 rfl ?_
          refine g_74_5 C wf_RX11_108 dX11_next_257 ?_
          refine v_lmul C dX11_next_260 ?_
          refine v_aload_n 0 C dX11_next_261 rfl ?_
          refine g_74_0 C wf_RX11_9 dX11_next_262 ?_
          refine v_aload_n 0 C dX11_next_265 rfl ?_
          refine g_74_2 C wf_RX11_102 dX11_next_266 ?_
          obtain ⟨hi, h⟩ := gi_some h
          refine ald_75 C hi dX11_next_269 ?_
          refine v_i2l C dX11_next_270 ?_
          refine v_ladd C dX11_next_271 ?_
          refine v_ldc2 C wl_RX11_126 dX11_next_272 ?_
          refine v_lsub C dX11_next_275 ?_
          refine p_74_5 C wf_RX11_108 dX11_next_276 ?_
          refine v_aload_n 0 C dX11_next_279 rfl ?_
          refine v_dupr C dX11_next_280 ?_
          refine g_74_2 C wf_RX11_102 dX11_next_281 ?_
          refine v_iconst C dX11_next_284 ic_1 ?_
          refine v_iadd C dX11_next_285 ?_
          refine p_74_2 C wf_RX11_102 dX11_next_286 ?_
          refine v_goto 208 C dX11_next_289 (by decide) ?_
          exact hr208  _ h
        · have h := if_f h c
          refine v_aload_n 0 C dX11_next_246 rfl ?_
          refine g_74_5 C wf_RX11_108 dX11_next_247 ?_
          refine v_goto 276 C dX11_next_250 (by decide) ?_
          refine p_74_5 C wf_RX11_108 dX11_next_276 ?_
          refine v_aload_n 0 C dX11_next_279 rfl ?_
          refine v_dupr C dX11_next_280 ?_
          refine g_74_2 C wf_RX11_102 dX11_next_281 ?_
          refine v_iconst C dX11_next_284 ic_1 ?_
          refine v_iadd C dX11_next_285 ?_
          refine p_74_2 C wf_RX11_102 dX11_next_286 ?_
          refine v_goto 208 C dX11_next_289 (by decide) ?_
          exact hr208  _ h
set_option maxRecDepth 4000 in
theorem tj_X11_next_174  {X : CX} {fin : St} (C : Cx X "LitWindowsModel" cX11_next 2 1 20) (R1 : RtV X cX11_next fin)  { s : _} (h : j_X11_next_174   s = some ((), fin)) : V X s 174 [(0, .ref (wA (xw X) 74))] [] := by
  refine v_aload_n 0 C dX11_next_174 rfl ?_
  refine g_74_2 C wf_RX11_102 dX11_next_175 ?_
  refine v_aload_n 0 C dX11_next_178 rfl ?_
  refine g_74_4 C wf_RX11_105 dX11_next_179 ?_
  refine v_isub C dX11_next_182 ?_
  refine v_bipush C dX11_next_183 bp_8 ?_
  refine v_icmp_le 193 C dX11_next_185 (by decide) (fun c => ?_) (fun c => ?_)
  · have h := if_t h c
    refine v_aload_n 0 C dX11_next_193 rfl ?_
    refine v_iconst C dX11_next_194 ic_1 ?_
    refine p_74_3 C wf_RX11_112 dX11_next_195 ?_
    refine v_goto 325 C dX11_next_198 (by decide) ?_
    exact v_vreth h R1 dX11_next_325
  · have h := if_f h c
    refine v_aload_n 0 C dX11_next_188 rfl ?_
    refine v_lconst C dX11_next_189 lc_0 ?_
    refine p_74_5 C wf_RX11_108 dX11_next_190 ?_
    refine v_aload_n 0 C dX11_next_193 rfl ?_
    refine v_iconst C dX11_next_194 ic_1 ?_
    refine p_74_3 C wf_RX11_112 dX11_next_195 ?_
    refine v_goto 325 C dX11_next_198 (by decide) ?_
    exact v_vreth h R1 dX11_next_325
set_option maxRecDepth 4000 in
theorem tl_X11_next_99  {X : CX} {fin : St} (C : Cx X "LitWindowsModel" cX11_next 2 1 20) (R1 : RtV X cX11_next fin)  : ∀ (n : Nat)  (s : St), l_X11_next_99  n  s = some ((), fin) → V X s 99 [(0, .ref (wA (xw X) 74))] [] := by
  intro n
  induction n with
  | zero => intro  s h; exact none_no h
  | succ n hr99 =>
    intro  s h
    have h : b_X11_next_99  (l_X11_next_99  n)  s = some ((), fin) := h
    refine v_aload_n 0 C dX11_next_99 rfl ?_
    refine g_74_2 C wf_RX11_102 dX11_next_100 ?_
    refine v_aload_n 0 C dX11_next_103 rfl ?_
    refine g_74_1 C wf_RX11_95 dX11_next_104 ?_
    refine v_icmp_ge 174 C dX11_next_107 (by decide) (fun c => ?_) (fun c => ?_)
    · have h := if_t h c
      exact tj_X11_next_174 C R1  h
    · have h := if_f h c
      refine v_aload_n 0 C dX11_next_110 rfl ?_
      refine g_74_0 C wf_RX11_9 dX11_next_111 ?_
      refine v_aload_n 0 C dX11_next_114 rfl ?_
      refine g_74_2 C wf_RX11_102 dX11_next_115 ?_
      obtain ⟨hi, h⟩ := gi_some h
      refine ald_75 C hi dX11_next_118 ?_
      obtain ⟨r_119, s_119, e_119, h⟩ := bd_some h
      refine v_callSi [] C (t_X11_isLetter e_119) mw_X11_isLetter wm_RX11_115 ⟨by decide, by decide⟩ rfl (Nat.le_of_ble_eq_true rfl) rfl dX11_next_119 ?_
      refine v_if_eq 174 C dX11_next_122 (by decide) (fun c => ?_) (fun c => ?_)
      · have h := if_t h c
        exact tj_X11_next_174 C R1  h
      · have h := if_f h c
        refine v_aload_n 0 C dX11_next_125 rfl ?_
        refine g_74_2 C wf_RX11_102 dX11_next_126 ?_
        refine v_aload_n 0 C dX11_next_129 rfl ?_
        refine g_74_4 C wf_RX11_105 dX11_next_130 ?_
        refine v_isub C dX11_next_133 ?_
        refine v_bipush C dX11_next_134 bp_8 ?_
        refine v_icmp_ge 161 C dX11_next_136 (by decide) (fun c => ?_) (fun c => ?_)
        · have h := if_t h c
          refine v_aload_n 0 C dX11_next_161 rfl ?_
          refine v_dupr C dX11_next_162 ?_
          refine g_74_2 C wf_RX11_102 dX11_next_163 ?_
          refine v_iconst C dX11_next_166 ic_1 ?_
          refine v_iadd C dX11_next_167 ?_
          refine p_74_2 C wf_RX11_102 dX11_next_168 ?_
          refine v_goto 99 C dX11_next_171 (by decide) ?_
          exact hr99  _ h
        · have h := if_f h c
          refine v_aload_n 0 C dX11_next_139 rfl ?_
          refine v_aload_n 0 C dX11_next_140 rfl ?_
          refine g_74_5 C wf_RX11_108 dX11_next_141 ?_
          refine v_bipush C dX11_next_144 bp_8 ?_
          refine v_lshl C dX11_next_146 ?_
          refine v_aload_n 0 C dX11_next_147 rfl ?_
          refine g_74_0 C wf_RX11_9 dX11_next_148 ?_
          refine v_aload_n 0 C dX11_next_151 rfl ?_
          refine g_74_2 C wf_RX11_102 dX11_next_152 ?_
          obtain ⟨hi, h⟩ := gi_some h
          refine ald_75 C hi dX11_next_155 ?_
          refine v_i2l C dX11_next_156 ?_
          refine v_lor C dX11_next_157 ?_
          refine p_74_5 C wf_RX11_108 dX11_next_158 ?_
          refine v_aload_n 0 C dX11_next_161 rfl ?_
          refine v_dupr C dX11_next_162 ?_
          refine g_74_2 C wf_RX11_102 dX11_next_163 ?_
          refine v_iconst C dX11_next_166 ic_1 ?_
          refine v_iadd C dX11_next_167 ?_
          refine p_74_2 C wf_RX11_102 dX11_next_168 ?_
          refine v_goto 99 C dX11_next_171 (by decide) ?_
          exact hr99  _ h
set_option maxRecDepth 4000 in
theorem tj_X11_next_52  {X : CX} {fin : St} (C : Cx X "LitWindowsModel" cX11_next 2 1 20) (R1 : RtV X cX11_next fin)  { s : _} (h : j_X11_next_52   s = some ((), fin)) : V X s 52 [(0, .ref (wA (xw X) 74))] [] := by
  unfold j_X11_next_52 at h
  refine v_aload_n 0 C dX11_next_52 rfl ?_
  refine v_aload_n 0 C dX11_next_53 rfl ?_
  refine g_74_2 C wf_RX11_102 dX11_next_54 ?_
  refine p_74_4 C wf_RX11_105 dX11_next_57 ?_
  refine v_aload_n 0 C dX11_next_60 rfl ?_
  refine v_lconst C dX11_next_61 lc_0 ?_
  refine p_74_5 C wf_RX11_108 dX11_next_62 ?_
  refine v_aload_n 0 C dX11_next_65 rfl ?_
  refine v_iconst C dX11_next_66 ic_0 ?_
  refine p_74_3 C wf_RX11_112 dX11_next_67 ?_
  refine v_aload_n 0 C dX11_next_70 rfl ?_
  refine g_74_2 C wf_RX11_102 dX11_next_71 ?_
  refine v_aload_n 0 C dX11_next_74 rfl ?_
  refine g_74_1 C wf_RX11_95 dX11_next_75 ?_
  refine v_icmp_ne 82 C dX11_next_78 (by decide) (fun c => ?_) (fun c => ?_)
  · have h := if_f h c
    refine v_aload_n 0 C dX11_next_82 rfl ?_
    refine g_74_0 C wf_RX11_9 dX11_next_83 ?_
    refine v_aload_n 0 C dX11_next_86 rfl ?_
    refine g_74_2 C wf_RX11_102 dX11_next_87 ?_
    obtain ⟨hi, h⟩ := gi_some h
    refine ald_75 C hi dX11_next_90 ?_
    refine v_istore_n (L1 := [(0, _), (1, _)]) [1, 0] C dX11_next_91 (by decide) rfl ?_
    refine v_iload_n 1 C dX11_next_92 rfl ?_
    obtain ⟨r_93, s_93, e_93, h⟩ := bd_some h
    refine v_callSi [] C (t_X11_isLetter e_93) mw_X11_isLetter wm_RX11_115 ⟨by decide, by decide⟩ rfl (Nat.le_of_ble_eq_true rfl) rfl dX11_next_93 ?_
    refine v_if_eq 201 C dX11_next_96 (by decide) (fun c => ?_) (fun c => ?_)
    · have h := if_t h c
      refine v_iload_n 1 C dX11_next_201 rfl ?_
      obtain ⟨r_202, s_202, e_202, h⟩ := bd_some h
      refine v_callSi [] C (t_X11_isDigit e_202) mw_X11_isDigit wm_RX11_119 ⟨by decide, by decide⟩ rfl (Nat.le_of_ble_eq_true rfl) rfl dX11_next_202 ?_
      refine v_if_eq 300 C dX11_next_205 (by decide) (fun c => ?_) (fun c => ?_)
      · have h := if_t h c
        refine v_aload_n 0 C dX11_next_300 rfl ?_
        refine v_iload_n 1 C dX11_next_301 rfl ?_
        refine v_bipush C dX11_next_302 bp_59 ?_
        refine v_icmp_ne 311 C dX11_next_304 (by decide) (fun c => ?_) (fun c => ?_)
        · have h := if_f h c
          refine v_iconst C dX11_next_311 ic_4 ?_
          refine p_74_3 C wf_RX11_112 dX11_next_312 ?_
          refine v_aload_n 0 C dX11_next_315 rfl ?_
          refine v_dupr C dX11_next_316 ?_
          refine g_74_2 C wf_RX11_102 dX11_next_317 ?_
          refine v_iconst C dX11_next_320 ic_1 ?_
          refine v_iadd C dX11_next_321 ?_
          refine p_74_2 C wf_RX11_102 dX11_next_322 ?_
          exact v_vreth h R1 dX11_next_325
        · have h := if_t h c
          refine v_iconst C dX11_next_307 ic_3 ?_
          refine v_goto 312 C dX11_next_308 (by decide) ?_
          refine p_74_3 C wf_RX11_112 dX11_next_312 ?_
          refine v_aload_n 0 C dX11_next_315 rfl ?_
          refine v_dupr C dX11_next_316 ?_
          refine g_74_2 C wf_RX11_102 dX11_next_317 ?_
          refine v_iconst C dX11_next_320 ic_1 ?_
          refine v_iadd C dX11_next_321 ?_
          refine p_74_2 C wf_RX11_102 dX11_next_322 ?_
          exact v_vreth h R1 dX11_next_325
      · have h := if_f h c
        refine v_sub [0] (L1 := [(0, _)]) rfl ?_
        exact tl_X11_next_208 C R1  FU  _ h
    · have h := if_f h c
      refine v_sub [0] (L1 := [(0, _)]) rfl ?_
      exact tl_X11_next_99 C R1  FU  _ h
  · have h := if_t h c
    exact v_vreth h R1 dX11_next_81
set_option maxRecDepth 4000 in
theorem tl_X11_next_0  {X : CX} {fin : St} (C : Cx X "LitWindowsModel" cX11_next 2 1 20) (R1 : RtV X cX11_next fin)  : ∀ (n : Nat)  (s : St), l_X11_next_0  n  s = some ((), fin) → V X s 0 [(0, .ref (wA (xw X) 74))] [] := by
  intro n
  induction n with
  | zero => intro  s h; exact none_no h
  | succ n hr0 =>
    intro  s h
    have h : b_X11_next_0  (l_X11_next_0  n)  s = some ((), fin) := h
    refine v_aload_n 0 C dX11_next_0 rfl ?_
    refine g_74_2 C wf_RX11_102 dX11_next_1 ?_
    refine v_aload_n 0 C dX11_next_4 rfl ?_
    refine g_74_1 C wf_RX11_95 dX11_next_5 ?_
    refine v_icmp_ge 52 C dX11_next_8 (by decide) (fun c => ?_) (fun c => ?_)
    · have h := if_t h c
      exact tj_X11_next_52 C R1  h
    · have h := if_f h c
      refine v_aload_n 0 C dX11_next_11 rfl ?_
      refine g_74_0 C wf_RX11_9 dX11_next_12 ?_
      refine v_aload_n 0 C dX11_next_15 rfl ?_
      refine g_74_2 C wf_RX11_102 dX11_next_16 ?_
      obtain ⟨hi, h⟩ := gi_some h
      refine ald_75 C hi dX11_next_19 ?_
      refine v_bipush C dX11_next_20 bp_32 ?_
      refine v_icmp_eq 39 C dX11_next_22 (by decide) (fun c => ?_) (fun c => ?_)
      · have h := if_t h c
        refine v_aload_n 0 C dX11_next_39 rfl ?_
        refine v_dupr C dX11_next_40 ?_
        refine g_74_2 C wf_RX11_102 dX11_next_41 ?_
        refine v_iconst C dX11_next_44 ic_1 ?_
        refine v_iadd C dX11_next_45 ?_
        refine p_74_2 C wf_RX11_102 dX11_next_46 ?_
        refine v_goto 0 C dX11_next_49 (by decide) ?_
        exact hr0  _ h
      · have h := if_f h c
        refine v_aload_n 0 C dX11_next_25 rfl ?_
        refine g_74_0 C wf_RX11_9 dX11_next_26 ?_
        refine v_aload_n 0 C dX11_next_29 rfl ?_
        refine g_74_2 C wf_RX11_102 dX11_next_30 ?_
        obtain ⟨hi, h⟩ := gi_some h
        refine ald_75 C hi dX11_next_33 ?_
        refine v_bipush C dX11_next_34 bp_10 ?_
        refine v_icmp_ne 52 C dX11_next_36 (by decide) (fun c => ?_) (fun c => ?_)
        · have h := if_f h c
          exact tj_X11_next_52 C R1  h
        · have h := if_t h c
          refine v_aload_n 0 C dX11_next_39 rfl ?_
          refine v_dupr C dX11_next_40 ?_
          refine g_74_2 C wf_RX11_102 dX11_next_41 ?_
          refine v_iconst C dX11_next_44 ic_1 ?_
          refine v_iadd C dX11_next_45 ?_
          refine p_74_2 C wf_RX11_102 dX11_next_46 ?_
          refine v_goto 0 C dX11_next_49 (by decide) ?_
          exact hr0  _ h
set_option maxRecDepth 4000 in
theorem t_X11_next { s fin : _} (h : f_X11_next  s = some ((), fin)) : Ct yX11_next cX11_next 2 none 1 20 (fun w => [.ref (wA w 74)]) s none fin := by
  refine Ct.ofV (by decide +kernel) (fun w => Nat.le_of_ble_eq_true rfl) (fun X C R1 => ?_)
  show V X s 0 [(0, .ref (wA (xw X) 74))] []
  have C : Cx X "LitWindowsModel" cX11_next 2 1 20 := C
  exact tl_X11_next_0 C R1  FU  _ h
set_option maxRecDepth 4000 in
theorem tl_X11_packed_4  {X : CX} {r : Int64} {fin : St} (C : Cx X "LitWindowsModel" cX11_packed 4 4 111) (R1 : RtL X cX11_packed r fin)  : ∀ (n : Nat) (k0 : Nat) (x1 : Int64) (x3 : Int32) (s : St), l_X11_packed_4  n k0 x1 x3 s = some (r, fin) → V X s 4 [(0, .ref (wK (xw X) k0)), (1, .long x1), (3, .int x3)] [] := by
  intro n
  induction n with
  | zero => intro k0 x1 x3 s h; exact none_no h
  | succ n hr4 =>
    intro k0 x1 x3 s h
    have h : b_X11_packed_4  (l_X11_packed_4  n) k0 x1 x3 s = some (r, fin) := h
    refine v_iload_n 2 C dX11_packed_4 rfl ?_
    refine v_aload_n 0 C dX11_packed_5 rfl ?_
    obtain ⟨r_6, s_6, e_6, h⟩ := bd_some h
    refine v_strLen [_] C e_6 wm_RX11_128 ⟨by decide, by decide⟩ (Nat.le_of_ble_eq_true rfl) rfl dX11_packed_6 ?_
    refine v_icmp_ge 30 C dX11_packed_9 (by decide) (fun c => ?_) (fun c => ?_)
    · have h := if_t h c
      refine v_lload_n 1 C dX11_packed_30 rfl ?_
      exact v_lreth h R1 dX11_packed_31
    · have h := if_f h c
      refine v_lload_n 1 C dX11_packed_12 rfl ?_
      refine v_bipush C dX11_packed_13 bp_8 ?_
      refine v_lshl C dX11_packed_15 ?_
      refine v_aload_n 0 C dX11_packed_16 rfl ?_
      refine v_iload_n 2 C dX11_packed_17 rfl ?_
      obtain ⟨r_18, s_18, e_18, h⟩ := bd_some h
      refine v_strAt [_] C e_18 wm_RX11_134 ⟨by decide, by decide⟩ (Nat.le_of_ble_eq_true rfl) rfl dX11_packed_18 ?_
      refine v_i2l C dX11_packed_21 ?_
      refine v_lor C dX11_packed_22 ?_
      refine v_lstore_n (L1 := [(0, _), (1, _), (3, _)]) [1, 0, 2] C dX11_packed_23 (by decide) rfl ?_
      refine v_iinc (L1 := [(0, _), (1, _), (3, _)]) 2 [1, 2, 0] C dX11_packed_24 rfl ic_1 (by decide) rfl ?_
      refine v_goto 4 C dX11_packed_27 (by decide) ?_
      exact hr4 _ _ _ _ h
set_option maxRecDepth 4000 in
theorem t_X11_packed {k0 s fin : _} {r : Int64} (h : f_X11_packed k0 s = some (r, fin)) : Ct yX11_packed cX11_packed 4 (some .long) 4 111 (fun w => [.ref (wK w k0)]) s (some (.long r)) fin := by
  refine Ct.ofL (by decide +kernel) (fun w => Nat.le_of_ble_eq_true rfl) (fun X C R1 => ?_)
  show V X s 0 [(0, .ref (wK (xw X) k0))] []
  have C : Cx X "LitWindowsModel" cX11_packed 4 4 111 := C
  refine v_lconst C dX11_packed_0 lc_0 ?_
  refine v_lstore_n (L1 := [(0, _), (1, _)]) [1, 0] C dX11_packed_1 (by decide) rfl ?_
  refine v_iconst C dX11_packed_2 ic_0 ?_
  refine v_istore_n (L1 := [(0, _), (1, _), (3, _)]) [1, 2, 0] C dX11_packed_3 (by decide) rfl ?_
  exact tl_X11_packed_4 C R1  FU _ _ _ _ h
set_option maxRecDepth 4000 in
theorem t_X11_isWord {k1 s fin : _} {r : Int32} (h : f_X11_isWord k1 s = some (r, fin)) : Ct yX11_isWord cX11_isWord 2 (some .boolean) 5 134 (fun w => [.ref (wA w 74), .ref (wK w k1)]) s (some (.int r)) fin := by
  refine Ct.ofI (by decide +kernel) (fun w => Nat.le_of_ble_eq_true rfl) (fun X C R1 => ?_)
  show V X s 0 [(0, .ref (wA (xw X) 74)), (1, .ref (wK (xw X) k1))] []
  have C : Cx X "LitWindowsModel" cX11_isWord 2 5 134 := C
  refine v_aload_n 0 C dX11_isWord_0 rfl ?_
  refine g_74_3 C wf_RX11_112 dX11_isWord_1 ?_
  refine v_iconst C dX11_isWord_4 ic_1 ?_
  refine v_icmp_ne 24 C dX11_isWord_5 (by decide) (fun c => ?_) (fun c => ?_)
  · have h := if_f h c
    refine v_iconst C dX11_isWord_24 ic_0 ?_
    exact v_ireth h R1 rfl dX11_isWord_25
  · have h := if_t h c
    refine v_aload_n 0 C dX11_isWord_8 rfl ?_
    refine g_74_5 C wf_RX11_108 dX11_isWord_9 ?_
    refine v_aload_n 1 C dX11_isWord_12 rfl ?_
    obtain ⟨r_13, s_13, e_13, h⟩ := bd_some h
    refine v_callSl [_] C (t_X11_packed e_13) mw_X11_packed wm_RX11_138 ⟨by decide, by decide⟩ rfl (Nat.le_of_ble_eq_true rfl) rfl dX11_isWord_13 ?_
    refine v_lcmp C dX11_isWord_16 ?_
    refine v_if_ne 24 C dX11_isWord_17 (by decide) (fun c => ?_) (fun c => ?_)
    · have h := if_f h c
      refine v_iconst C dX11_isWord_24 ic_0 ?_
      exact v_ireth h R1 rfl dX11_isWord_25
    · have h := if_t h c
      refine v_iconst C dX11_isWord_20 ic_1 ?_
      refine v_goto 25 C dX11_isWord_21 (by decide) ?_
      exact v_ireth h R1 rfl dX11_isWord_25
set_option maxRecDepth 4000 in
theorem t_X11_closes { s fin : _} {r : Int32} (h : f_X11_closes  s = some (r, fin)) : Ct yX11_closes cX11_closes 1 (some .boolean) 2 41 (fun w => [.ref (wA w 74)]) s (some (.int r)) fin := by
  refine Ct.ofI (by decide +kernel) (fun w => Nat.le_of_ble_eq_true rfl) (fun X C R1 => ?_)
  show V X s 0 [(0, .ref (wA (xw X) 74))] []
  have C : Cx X "LitWindowsModel" cX11_closes 1 2 41 := C
  refine v_aload_n 0 C dX11_closes_0 rfl ?_
  refine g_74_3 C wf_RX11_112 dX11_closes_1 ?_
  refine v_iconst C dX11_closes_4 ic_3 ?_
  refine v_icmp_eq 10 C dX11_closes_5 (by decide) (fun c => ?_) (fun c => ?_)
  · have h := if_t h c
    refine v_aload_n 0 C dX11_closes_10 rfl ?_
    obtain ⟨r_11, s_11, e_11, h⟩ := bd_some h
    refine v_callVv [] C (t_X11_next e_11) mw_X11_next (at_74 _ _) rfl wm_RX11_165 ⟨by decide, by decide⟩ rfl (Nat.le_of_ble_eq_true rfl) rfl dX11_closes_11 ?_
    refine v_iconst C dX11_closes_14 ic_1 ?_
    exact v_ireth h R1 rfl dX11_closes_15
  · have h := if_f h c
    refine v_iconst C dX11_closes_8 ic_0 ?_
    exact v_ireth h R1 rfl dX11_closes_9
set_option maxRecDepth 4000 in
theorem t_X11_isNumber {x1 x2 s fin : _} {r : Int32} (h : f_X11_isNumber x1 x2 s = some (r, fin)) : Ct yX11_isNumber cX11_isNumber 3 (some .boolean) 0 0 (fun w => [.ref (wA w 74), .int x1, .int x2]) s (some (.int r)) fin := by
  refine Ct.ofI (by decide +kernel) (fun w => Nat.le_of_ble_eq_true rfl) (fun X C R1 => ?_)
  show V X s 0 [(0, .ref (wA (xw X) 74)), (1, .int x1), (2, .int x2)] []
  have C : Cx X "LitWindowsModel" cX11_isNumber 3 0 0 := C
  refine v_aload_n 0 C dX11_isNumber_0 rfl ?_
  refine g_74_3 C wf_RX11_112 dX11_isNumber_1 ?_
  refine v_iconst C dX11_isNumber_4 ic_2 ?_
  refine v_icmp_ne 32 C dX11_isNumber_5 (by decide) (fun c => ?_) (fun c => ?_)
  · have h := if_f h c
    refine v_iconst C dX11_isNumber_32 ic_0 ?_
    exact v_ireth h R1 rfl dX11_isNumber_33
  · have h := if_t h c
    refine v_aload_n 0 C dX11_isNumber_8 rfl ?_
    refine g_74_5 C wf_RX11_108 dX11_isNumber_9 ?_
    refine v_iload_n 1 C dX11_isNumber_12 rfl ?_
    refine v_i2l C dX11_isNumber_13 ?_
    refine v_lcmp C dX11_isNumber_14 ?_
    refine v_if_lt 32 C dX11_isNumber_15 (by decide) (fun c => ?_) (fun c => ?_)
    · have h := if_t h c
      refine v_iconst C dX11_isNumber_32 ic_0 ?_
      exact v_ireth h R1 rfl dX11_isNumber_33
    · have h := if_f h c
      refine v_aload_n 0 C dX11_isNumber_18 rfl ?_
      refine g_74_5 C wf_RX11_108 dX11_isNumber_19 ?_
      refine v_iload_n 2 C dX11_isNumber_22 rfl ?_
      refine v_i2l C dX11_isNumber_23 ?_
      refine v_lcmp C dX11_isNumber_24 ?_
      refine v_if_gt 32 C dX11_isNumber_25 (by decide) (fun c => ?_) (fun c => ?_)
      · have h := if_t h c
        refine v_iconst C dX11_isNumber_32 ic_0 ?_
        exact v_ireth h R1 rfl dX11_isNumber_33
      · have h := if_f h c
        refine v_iconst C dX11_isNumber_28 ic_1 ?_
        refine v_goto 33 C dX11_isNumber_29 (by decide) ?_
        exact v_ireth h R1 rfl dX11_isNumber_33
set_option maxRecDepth 4000 in
theorem t_X11_word {k1 s fin : _} {r : Int32} (h : f_X11_word k1 s = some (r, fin)) : Ct yX11_word cX11_word 2 (some .boolean) 6 155 (fun w => [.ref (wA w 74), .ref (wK w k1)]) s (some (.int r)) fin := by
  refine Ct.ofI (by decide +kernel) (fun w => Nat.le_of_ble_eq_true rfl) (fun X C R1 => ?_)
  show V X s 0 [(0, .ref (wA (xw X) 74)), (1, .ref (wK (xw X) k1))] []
  have C : Cx X "LitWindowsModel" cX11_word 2 6 155 := C
  refine v_aload_n 0 C dX11_word_0 rfl ?_
  refine v_aload_n 1 C dX11_word_1 rfl ?_
  obtain ⟨r_2, s_2, e_2, h⟩ := bd_some h
  refine v_callVi [] C (t_X11_isWord e_2) mw_X11_isWord (at_74 _ _) rfl wm_RX11_144 ⟨by decide, by decide⟩ rfl (Nat.le_of_ble_eq_true rfl) rfl dX11_word_2 ?_
  refine v_if_ne 10 C dX11_word_5 (by decide) (fun c => ?_) (fun c => ?_)
  · have h := if_f h c
    refine v_aload_n 0 C dX11_word_10 rfl ?_
    obtain ⟨r_11, s_11, e_11, h⟩ := bd_some h
    refine v_callVv [] C (t_X11_next e_11) mw_X11_next (at_74 _ _) rfl wm_RX11_165 ⟨by decide, by decide⟩ rfl (Nat.le_of_ble_eq_true rfl) rfl dX11_word_11 ?_
    refine v_iconst C dX11_word_14 ic_1 ?_
    exact v_ireth h R1 rfl dX11_word_15
  · have h := if_t h c
    refine v_iconst C dX11_word_8 ic_0 ?_
    exact v_ireth h R1 rfl dX11_word_9
set_option maxRecDepth 4000 in
theorem tl_X11_ruleLine_98 {rec24 : Int32 → Int32 → St → Option (Int32 × St)} {X : CX} {r : Int32} {fin : St} (C : Cx X "LitWindowsModel" cX11_ruleLine 4 7 176) (R1 : RtI X cX11_ruleLine .boolean r fin) (hr24 : ∀ (x1 : Int32) (x2 : Int32) (s : St), rec24 x1 x2 s = some (r, fin) → V X s 24 [(0, .ref (wA (xw X) 74)), (1, .int x1), (2, .int x2)] []) : ∀ (n : Nat) (x1 : Int32) (x2 : Int32) (x3 : Int32) (s : St), l_X11_ruleLine_98 rec24 n x1 x2 x3 s = some (r, fin) → V X s 98 [(0, .ref (wA (xw X) 74)), (1, .int x1), (2, .int x2), (3, .int x3)] [] := by
  intro n
  induction n with
  | zero => intro x1 x2 x3 s h; exact none_no h
  | succ n hr98 =>
    intro x1 x2 x3 s h
    have h : b_X11_ruleLine_98 rec24 (l_X11_ruleLine_98 rec24 n) x1 x2 x3 s = some (r, fin) := h
    refine v_iload_n 3 C dX11_ruleLine_98 rfl ?_
    refine v_iload_n 2 C dX11_ruleLine_99 rfl ?_
    refine v_icmp_ge 128 C dX11_ruleLine_100 (by decide) (fun c => ?_) (fun c => ?_)
    · have h := if_t h c
      refine v_aload_n 0 C dX11_ruleLine_128 rfl ?_
      refine g_74_17 C wf_RX11_37 dX11_ruleLine_129 ?_
      refine v_iload_n 1 C dX11_ruleLine_132 rfl ?_
      refine v_iload_n 2 C dX11_ruleLine_133 rfl ?_
      refine v_iadd C dX11_ruleLine_134 ?_
      refine v_aload_n 0 C dX11_ruleLine_135 rfl ?_
      refine g_74_5 C wf_RX11_108 dX11_ruleLine_136 ?_
      refine v_l2i C dX11_ruleLine_139 ?_
      obtain ⟨hi, h⟩ := gi_some h
      refine ast_83 C hi dX11_ruleLine_140 ?_
      refine v_aload_n 0 C dX11_ruleLine_141 rfl ?_
      obtain ⟨r_142, s_142, e_142, h⟩ := bd_some h
      refine v_callVv [] C (t_X11_next e_142) mw_X11_next (at_74 _ _) rfl wm_RX11_165 ⟨by decide, by decide⟩ rfl (Nat.le_of_ble_eq_true rfl) rfl dX11_ruleLine_142 ?_
      refine v_iinc (L1 := [(0, _), (1, _), (2, _), (3, _)]) 2 [1, 2, 0, 3] C dX11_ruleLine_145 rfl ic_1 (by decide) rfl ?_
      refine v_goto 24 C dX11_ruleLine_148 (by decide) ?_
      refine v_sub [0, 1, 2] (L1 := [(0, _), (1, _), (2, _)]) rfl ?_
      exact hr24 _ _ _ h
    · have h := if_f h c
      refine v_aload_n 0 C dX11_ruleLine_103 rfl ?_
      refine g_74_17 C wf_RX11_37 dX11_ruleLine_104 ?_
      refine v_iload_n 1 C dX11_ruleLine_107 rfl ?_
      refine v_iload_n 3 C dX11_ruleLine_108 rfl ?_
      refine v_iadd C dX11_ruleLine_109 ?_
      obtain ⟨hi, h⟩ := gi_some h
      refine ald_83 C hi dX11_ruleLine_110 ?_
      refine v_i2l C dX11_ruleLine_111 ?_
      refine v_aload_n 0 C dX11_ruleLine_112 rfl ?_
      refine g_74_5 C wf_RX11_108 dX11_ruleLine_113 ?_
      refine v_lcmp C dX11_ruleLine_116 ?_
      refine v_if_ne 122 C dX11_ruleLine_117 (by decide) (fun c => ?_) (fun c => ?_)
      · have h := if_f h c
        refine v_iinc (L1 := [(0, _), (1, _), (2, _), (3, _)]) 3 [1, 2, 3, 0] C dX11_ruleLine_122 rfl ic_1 (by decide) rfl ?_
        refine v_goto 98 C dX11_ruleLine_125 (by decide) ?_
        exact hr98 _ _ _ _ h
      · have h := if_t h c
        refine v_iconst C dX11_ruleLine_120 ic_0 ?_
        exact v_ireth h R1 rfl dX11_ruleLine_121
set_option maxRecDepth 4000 in
theorem tj_X11_ruleLine_80 {rec24 : Int32 → Int32 → St → Option (Int32 × St)} {X : CX} {r : Int32} {fin : St} (C : Cx X "LitWindowsModel" cX11_ruleLine 4 7 176) (R1 : RtI X cX11_ruleLine .boolean r fin) (hr24 : ∀ (x1 : Int32) (x2 : Int32) (s : St), rec24 x1 x2 s = some (r, fin) → V X s 24 [(0, .ref (wA (xw X) 74)), (1, .int x1), (2, .int x2)] []) {x1 x2 s : _} (h : j_X11_ruleLine_80 rec24 x1 x2 s = some (r, fin)) : V X s 80 [(0, .ref (wA (xw X) 74)), (1, .int x1), (2, .int x2)] [] := by
  refine v_aload_n 0 C dX11_ruleLine_80 rfl ?_
  refine v_iconst C dX11_ruleLine_81 ic_0 ?_
  refine v_aload_n 0 C dX11_ruleLine_82 rfl ?_
  refine g_74_13 C wf_RX11_191 dX11_ruleLine_83 ?_
  refine v_iconst C dX11_ruleLine_86 ic_1 ?_
  refine v_isub C dX11_ruleLine_87 ?_
  obtain ⟨r_88, s_88, e_88, h⟩ := bd_some h
  refine v_callVi [] C (t_X11_isNumber e_88) mw_X11_isNumber (at_74 _ _) rfl wm_RX11_187 ⟨by decide, by decide⟩ rfl (Nat.le_of_ble_eq_true rfl) rfl dX11_ruleLine_88 ?_
  refine v_if_ne 96 C dX11_ruleLine_91 (by decide) (fun c => ?_) (fun c => ?_)
  · have h := if_f h c
    refine v_iconst C dX11_ruleLine_96 ic_0 ?_
    refine v_istore_n (L1 := [(0, _), (1, _), (2, _), (3, _)]) [1, 2, 3, 0] C dX11_ruleLine_97 (by decide) rfl ?_
    exact tl_X11_ruleLine_98 C R1 hr24 FU _ _ _ _ h
  · have h := if_t h c
    refine v_iconst C dX11_ruleLine_94 ic_0 ?_
    exact v_ireth h R1 rfl dX11_ruleLine_95
set_option maxRecDepth 4000 in
theorem tj_X11_ruleLine_54 {rec24 : Int32 → Int32 → St → Option (Int32 × St)} {X : CX} {r : Int32} {fin : St} (C : Cx X "LitWindowsModel" cX11_ruleLine 4 7 176) (R1 : RtI X cX11_ruleLine .boolean r fin) (hr24 : ∀ (x1 : Int32) (x2 : Int32) (s : St), rec24 x1 x2 s = some (r, fin) → V X s 24 [(0, .ref (wA (xw X) 74)), (1, .int x1), (2, .int x2)] []) {x1 x2 s : _} (h : j_X11_ruleLine_54 rec24 x1 x2 s = some (r, fin)) : V X s 54 [(0, .ref (wA (xw X) 74)), (1, .int x1), (2, .int x2)] [] := by
  refine v_iload_n 2 C dX11_ruleLine_54 rfl ?_
  refine v_iconst C dX11_ruleLine_55 ic_2 ?_
  refine v_icmp_ne 71 C dX11_ruleLine_56 (by decide) (fun c => ?_) (fun c => ?_)
  · have h := if_f h c
    refine v_iload_n 2 C dX11_ruleLine_71 rfl ?_
    refine v_iconst C dX11_ruleLine_72 ic_2 ?_
    refine v_icmp_ne 80 C dX11_ruleLine_73 (by decide) (fun c => ?_) (fun c => ?_)
    · have h := if_f h c
      exact tj_X11_ruleLine_80 C R1 hr24 h
    · have h := if_t h c
      refine v_aload_n 0 C dX11_ruleLine_76 rfl ?_
      obtain ⟨r_77, s_77, e_77, h⟩ := bd_some h
      refine v_callVv [] C (t_X11_next e_77) mw_X11_next (at_74 _ _) rfl wm_RX11_165 ⟨by decide, by decide⟩ rfl (Nat.le_of_ble_eq_true rfl) rfl dX11_ruleLine_77 ?_
      exact tj_X11_ruleLine_80 C R1 hr24 h
  · have h := if_t h c
    refine v_aload_n 0 C dX11_ruleLine_59 rfl ?_
    refine v_ldcS 10 (tx := "not") C (by decide) dX11_ruleLine_60 ?_
    obtain ⟨r_62, s_62, e_62, h⟩ := bd_some h
    refine v_callVi [] C (t_X11_isWord e_62) mw_X11_isWord (at_74 _ _) rfl wm_RX11_144 ⟨by decide, by decide⟩ rfl (Nat.le_of_ble_eq_true rfl) rfl dX11_ruleLine_62 ?_
    refine v_if_ne 71 C dX11_ruleLine_65 (by decide) (fun c => ?_) (fun c => ?_)
    · have h := if_f h c
      refine v_iload_n 2 C dX11_ruleLine_71 rfl ?_
      refine v_iconst C dX11_ruleLine_72 ic_2 ?_
      refine v_icmp_ne 80 C dX11_ruleLine_73 (by decide) (fun c => ?_) (fun c => ?_)
      · have h := if_f h c
        exact tj_X11_ruleLine_80 C R1 hr24 h
      · have h := if_t h c
        refine v_aload_n 0 C dX11_ruleLine_76 rfl ?_
        obtain ⟨r_77, s_77, e_77, h⟩ := bd_some h
        refine v_callVv [] C (t_X11_next e_77) mw_X11_next (at_74 _ _) rfl wm_RX11_165 ⟨by decide, by decide⟩ rfl (Nat.le_of_ble_eq_true rfl) rfl dX11_ruleLine_77 ?_
        exact tj_X11_ruleLine_80 C R1 hr24 h
    · have h := if_t h c
      refine v_goto 145 C dX11_ruleLine_68 (by decide) ?_
      refine v_iinc (L1 := [(0, _), (1, _), (2, _)]) 2 [1, 2, 0] C dX11_ruleLine_145 rfl ic_1 (by decide) rfl ?_
      refine v_goto 24 C dX11_ruleLine_148 (by decide) ?_
      exact hr24 _ _ _ h
set_option maxRecDepth 4000 in
theorem tl_X11_ruleLine_24  {X : CX} {r : Int32} {fin : St} (C : Cx X "LitWindowsModel" cX11_ruleLine 4 7 176) (R1 : RtI X cX11_ruleLine .boolean r fin)  : ∀ (n : Nat) (x1 : Int32) (x2 : Int32) (s : St), l_X11_ruleLine_24  n x1 x2 s = some (r, fin) → V X s 24 [(0, .ref (wA (xw X) 74)), (1, .int x1), (2, .int x2)] [] := by
  intro n
  induction n with
  | zero => intro x1 x2 s h; exact none_no h
  | succ n hr24 =>
    intro x1 x2 s h
    have h : b_X11_ruleLine_24  (l_X11_ruleLine_24  n) x1 x2 s = some (r, fin) := h
    refine v_iload_n 2 C dX11_ruleLine_24 rfl ?_
    refine v_iconst C dX11_ruleLine_25 ic_3 ?_
    refine v_icmp_ge 151 C dX11_ruleLine_26 (by decide) (fun c => ?_) (fun c => ?_)
    · have h := if_t h c
      refine v_aload_n 0 C dX11_ruleLine_151 rfl ?_
      refine v_dupr C dX11_ruleLine_152 ?_
      refine g_74_16 C wf_RX11_194 dX11_ruleLine_153 ?_
      refine v_iconst C dX11_ruleLine_156 ic_1 ?_
      refine v_iadd C dX11_ruleLine_157 ?_
      refine p_74_16 C wf_RX11_194 dX11_ruleLine_158 ?_
      refine v_aload_n 0 C dX11_ruleLine_161 rfl ?_
      obtain ⟨r_162, s_162, e_162, h⟩ := bd_some h
      refine v_callVi [] C (t_X11_closes e_162) mw_X11_closes (at_74 _ _) rfl wm_RX11_178 ⟨by decide, by decide⟩ rfl (Nat.le_of_ble_eq_true rfl) rfl dX11_ruleLine_162 ?_
      obtain ⟨hb, h⟩ := gb_some h
      exact v_ireth h R1 hb dX11_ruleLine_165
    · have h := if_f h c
      refine v_aload_n 0 C dX11_ruleLine_29 rfl ?_
      refine g_74_17 C wf_RX11_37 dX11_ruleLine_30 ?_
      refine v_iload_n 1 C dX11_ruleLine_33 rfl ?_
      refine v_iload_n 2 C dX11_ruleLine_34 rfl ?_
      refine v_iadd C dX11_ruleLine_35 ?_
      refine v_iconst C dX11_ruleLine_36 ic_m1 ?_
      obtain ⟨hi, h⟩ := gi_some h
      refine ast_83 C hi dX11_ruleLine_37 ?_
      refine v_iload_n 2 C dX11_ruleLine_38 rfl ?_
      refine v_iconst C dX11_ruleLine_39 ic_1 ?_
      refine v_icmp_ne 54 C dX11_ruleLine_40 (by decide) (fun c => ?_) (fun c => ?_)
      · have h := if_f h c
        exact tj_X11_ruleLine_54 C R1 hr24 h
      · have h := if_t h c
        refine v_aload_n 0 C dX11_ruleLine_43 rfl ?_
        refine v_ldcS 9 (tx := "while") C (by decide) dX11_ruleLine_44 ?_
        obtain ⟨r_46, s_46, e_46, h⟩ := bd_some h
        refine v_callVi [] C (t_X11_word e_46) mw_X11_word (at_74 _ _) rfl wm_RX11_184 ⟨by decide, by decide⟩ rfl (Nat.le_of_ble_eq_true rfl) rfl dX11_ruleLine_46 ?_
        refine v_if_ne 54 C dX11_ruleLine_49 (by decide) (fun c => ?_) (fun c => ?_)
        · have h := if_f h c
          exact tj_X11_ruleLine_54 C R1 hr24 h
        · have h := if_t h c
          refine v_iconst C dX11_ruleLine_52 ic_0 ?_
          exact v_ireth h R1 rfl dX11_ruleLine_53
set_option maxRecDepth 4000 in
theorem t_X11_ruleLine { s fin : _} {r : Int32} (h : f_X11_ruleLine  s = some (r, fin)) : Ct yX11_ruleLine cX11_ruleLine 4 (some .boolean) 7 176 (fun w => [.ref (wA w 74)]) s (some (.int r)) fin := by
  refine Ct.ofI (by decide +kernel) (fun w => Nat.le_of_ble_eq_true rfl) (fun X C R1 => ?_)
  show V X s 0 [(0, .ref (wA (xw X) 74))] []
  have C : Cx X "LitWindowsModel" cX11_ruleLine 4 7 176 := C
  refine v_aload_n 0 C dX11_ruleLine_0 rfl ?_
  refine g_74_16 C wf_RX11_194 dX11_ruleLine_1 ?_
  refine v_bipush C dX11_ruleLine_4 bp_8 ?_
  refine v_icmp_ne 11 C dX11_ruleLine_6 (by decide) (fun c => ?_) (fun c => ?_)
  · have h := if_f h c
    refine v_aload_n 0 C dX11_ruleLine_11 rfl ?_
    obtain ⟨r_12, s_12, e_12, h⟩ := bd_some h
    refine v_callVv [] C (t_X11_next e_12) mw_X11_next (at_74 _ _) rfl wm_RX11_165 ⟨by decide, by decide⟩ rfl (Nat.le_of_ble_eq_true rfl) rfl dX11_ruleLine_12 ?_
    refine v_iconst C dX11_ruleLine_15 ic_3 ?_
    refine v_aload_n 0 C dX11_ruleLine_16 rfl ?_
    refine g_74_16 C wf_RX11_194 dX11_ruleLine_17 ?_
    refine v_imul C dX11_ruleLine_20 ?_
    refine v_istore_n (L1 := [(0, _), (1, _)]) [1, 0] C dX11_ruleLine_21 (by decide) rfl ?_
    refine v_iconst C dX11_ruleLine_22 ic_0 ?_
    refine v_istore_n (L1 := [(0, _), (1, _), (2, _)]) [1, 2, 0] C dX11_ruleLine_23 (by decide) rfl ?_
    exact tl_X11_ruleLine_24 C R1  FU _ _ _ h
  · have h := if_t h c
    refine v_iconst C dX11_ruleLine_9 ic_0 ?_
    exact v_ireth h R1 rfl dX11_ruleLine_10
set_option maxRecDepth 4000 in
theorem tj_X11_isName_59  {X : CX} {r : Int32} {fin : St} (C : Cx X "LitWindowsModel" cX11_isName 2 6 155) (R1 : RtI X cX11_isName .boolean r fin)  {t0 s : _} (h : j_X11_isName_59  t0 s = some (r, fin)) : V X s 59 [(0, .ref (wA (xw X) 74))] [.int t0] := by
  refine v_istore_n (L1 := [(0, _), (1, _)]) [1, 0] C dX11_isName_59 (by decide) rfl ?_
  refine v_aload_n 0 C dX11_isName_60 rfl ?_
  refine g_74_3 C wf_RX11_112 dX11_isName_61 ?_
  refine v_iconst C dX11_isName_64 ic_1 ?_
  refine v_icmp_ne 130 C dX11_isName_65 (by decide) (fun c => ?_) (fun c => ?_)
  · have h := if_f h c
    refine v_iconst C dX11_isName_130 ic_0 ?_
    exact v_ireth h R1 rfl dX11_isName_131
  · have h := if_t h c
    refine v_aload_n 0 C dX11_isName_68 rfl ?_
    refine g_74_5 C wf_RX11_108 dX11_isName_69 ?_
    refine v_lconst C dX11_isName_72 lc_0 ?_
    refine v_lcmp C dX11_isName_73 ?_
    refine v_if_eq 130 C dX11_isName_74 (by decide) (fun c => ?_) (fun c => ?_)
    · have h := if_t h c
      refine v_iconst C dX11_isName_130 ic_0 ?_
      exact v_ireth h R1 rfl dX11_isName_131
    · have h := if_f h c
      refine v_iload_n 1 C dX11_isName_77 rfl ?_
      refine v_if_ne 130 C dX11_isName_78 (by decide) (fun c => ?_) (fun c => ?_)
      · have h := if_f h c
        refine v_iconst C dX11_isName_130 ic_0 ?_
        exact v_ireth h R1 rfl dX11_isName_131
      · have h := if_t h c
        refine v_aload_n 0 C dX11_isName_81 rfl ?_
        refine v_ldcS 6 (tx := "window") C (by decide) dX11_isName_82 ?_
        obtain ⟨r_84, s_84, e_84, h⟩ := bd_some h
        refine v_callVi [] C (t_X11_isWord e_84) mw_X11_isWord (at_74 _ _) rfl wm_RX11_144 ⟨by decide, by decide⟩ rfl (Nat.le_of_ble_eq_true rfl) rfl dX11_isName_84 ?_
        refine v_if_ne 130 C dX11_isName_87 (by decide) (fun c => ?_) (fun c => ?_)
        · have h := if_f h c
          refine v_iconst C dX11_isName_130 ic_0 ?_
          exact v_ireth h R1 rfl dX11_isName_131
        · have h := if_t h c
          refine v_aload_n 0 C dX11_isName_90 rfl ?_
          refine v_ldcS 7 (tx := "of") C (by decide) dX11_isName_91 ?_
          obtain ⟨r_93, s_93, e_93, h⟩ := bd_some h
          refine v_callVi [] C (t_X11_isWord e_93) mw_X11_isWord (at_74 _ _) rfl wm_RX11_144 ⟨by decide, by decide⟩ rfl (Nat.le_of_ble_eq_true rfl) rfl dX11_isName_93 ?_
          refine v_if_ne 130 C dX11_isName_96 (by decide) (fun c => ?_) (fun c => ?_)
          · have h := if_f h c
            refine v_iconst C dX11_isName_130 ic_0 ?_
            exact v_ireth h R1 rfl dX11_isName_131
          · have h := if_t h c
            refine v_aload_n 0 C dX11_isName_99 rfl ?_
            refine v_ldcS 8 (tx := "hide") C (by decide) dX11_isName_100 ?_
            obtain ⟨r_102, s_102, e_102, h⟩ := bd_some h
            refine v_callVi [] C (t_X11_isWord e_102) mw_X11_isWord (at_74 _ _) rfl wm_RX11_144 ⟨by decide, by decide⟩ rfl (Nat.le_of_ble_eq_true rfl) rfl dX11_isName_102 ?_
            refine v_if_ne 130 C dX11_isName_105 (by decide) (fun c => ?_) (fun c => ?_)
            · have h := if_f h c
              refine v_iconst C dX11_isName_130 ic_0 ?_
              exact v_ireth h R1 rfl dX11_isName_131
            · have h := if_t h c
              refine v_aload_n 0 C dX11_isName_108 rfl ?_
              refine v_ldcS 9 (tx := "while") C (by decide) dX11_isName_109 ?_
              obtain ⟨r_111, s_111, e_111, h⟩ := bd_some h
              refine v_callVi [] C (t_X11_isWord e_111) mw_X11_isWord (at_74 _ _) rfl wm_RX11_144 ⟨by decide, by decide⟩ rfl (Nat.le_of_ble_eq_true rfl) rfl dX11_isName_111 ?_
              refine v_if_ne 130 C dX11_isName_114 (by decide) (fun c => ?_) (fun c => ?_)
              · have h := if_f h c
                refine v_iconst C dX11_isName_130 ic_0 ?_
                exact v_ireth h R1 rfl dX11_isName_131
              · have h := if_t h c
                refine v_aload_n 0 C dX11_isName_117 rfl ?_
                refine v_ldcS 10 (tx := "not") C (by decide) dX11_isName_118 ?_
                obtain ⟨r_120, s_120, e_120, h⟩ := bd_some h
                refine v_callVi [] C (t_X11_isWord e_120) mw_X11_isWord (at_74 _ _) rfl wm_RX11_144 ⟨by decide, by decide⟩ rfl (Nat.le_of_ble_eq_true rfl) rfl dX11_isName_120 ?_
                refine v_if_ne 130 C dX11_isName_123 (by decide) (fun c => ?_) (fun c => ?_)
                · have h := if_f h c
                  refine v_iconst C dX11_isName_130 ic_0 ?_
                  exact v_ireth h R1 rfl dX11_isName_131
                · have h := if_t h c
                  refine v_iconst C dX11_isName_126 ic_1 ?_
                  refine v_goto 131 C dX11_isName_127 (by decide) ?_
                  exact v_ireth h R1 rfl dX11_isName_131
set_option maxRecDepth 4000 in
theorem t_X11_isName { s fin : _} {r : Int32} (h : f_X11_isName  s = some (r, fin)) : Ct yX11_isName cX11_isName 2 (some .boolean) 6 155 (fun w => [.ref (wA w 74)]) s (some (.int r)) fin := by
  refine Ct.ofI (by decide +kernel) (fun w => Nat.le_of_ble_eq_true rfl) (fun X C R1 => ?_)
  show V X s 0 [(0, .ref (wA (xw X) 74))] []
  have C : Cx X "LitWindowsModel" cX11_isName 2 6 155 := C
  refine v_aload_n 0 C dX11_isName_0 rfl ?_
  refine v_ldcS 0 (tx := "point") C (by decide) dX11_isName_1 ?_
  obtain ⟨r_3, s_3, e_3, h⟩ := bd_some h
  refine v_callVi [] C (t_X11_isWord e_3) mw_X11_isWord (at_74 _ _) rfl wm_RX11_144 ⟨by decide, by decide⟩ rfl (Nat.le_of_ble_eq_true rfl) rfl dX11_isName_3 ?_
  refine v_if_ne 54 C dX11_isName_6 (by decide) (fun c => ?_) (fun c => ?_)
  · have h := if_f h c
    refine v_iconst C dX11_isName_54 ic_1 ?_
    refine v_goto 59 C dX11_isName_55 (by decide) ?_
    exact tj_X11_isName_59 C R1  h
  · have h := if_t h c
    refine v_aload_n 0 C dX11_isName_9 rfl ?_
    refine v_ldcS 1 (tx := "any") C (by decide) dX11_isName_10 ?_
    obtain ⟨r_12, s_12, e_12, h⟩ := bd_some h
    refine v_callVi [] C (t_X11_isWord e_12) mw_X11_isWord (at_74 _ _) rfl wm_RX11_144 ⟨by decide, by decide⟩ rfl (Nat.le_of_ble_eq_true rfl) rfl dX11_isName_12 ?_
    refine v_if_ne 54 C dX11_isName_15 (by decide) (fun c => ?_) (fun c => ?_)
    · have h := if_f h c
      refine v_iconst C dX11_isName_54 ic_1 ?_
      refine v_goto 59 C dX11_isName_55 (by decide) ?_
      exact tj_X11_isName_59 C R1  h
    · have h := if_t h c
      refine v_aload_n 0 C dX11_isName_18 rfl ?_
      refine v_ldcS 2 (tx := "all") C (by decide) dX11_isName_19 ?_
      obtain ⟨r_21, s_21, e_21, h⟩ := bd_some h
      refine v_callVi [] C (t_X11_isWord e_21) mw_X11_isWord (at_74 _ _) rfl wm_RX11_144 ⟨by decide, by decide⟩ rfl (Nat.le_of_ble_eq_true rfl) rfl dX11_isName_21 ?_
      refine v_if_ne 54 C dX11_isName_24 (by decide) (fun c => ?_) (fun c => ?_)
      · have h := if_f h c
        refine v_iconst C dX11_isName_54 ic_1 ?_
        refine v_goto 59 C dX11_isName_55 (by decide) ?_
        exact tj_X11_isName_59 C R1  h
      · have h := if_t h c
        refine v_aload_n 0 C dX11_isName_27 rfl ?_
        refine v_ldcS 3 (tx := "from") C (by decide) dX11_isName_28 ?_
        obtain ⟨r_30, s_30, e_30, h⟩ := bd_some h
        refine v_callVi [] C (t_X11_isWord e_30) mw_X11_isWord (at_74 _ _) rfl wm_RX11_144 ⟨by decide, by decide⟩ rfl (Nat.le_of_ble_eq_true rfl) rfl dX11_isName_30 ?_
        refine v_if_ne 54 C dX11_isName_33 (by decide) (fun c => ?_) (fun c => ?_)
        · have h := if_f h c
          refine v_iconst C dX11_isName_54 ic_1 ?_
          refine v_goto 59 C dX11_isName_55 (by decide) ?_
          exact tj_X11_isName_59 C R1  h
        · have h := if_t h c
          refine v_aload_n 0 C dX11_isName_36 rfl ?_
          refine v_ldcS 4 (tx := "to") C (by decide) dX11_isName_37 ?_
          obtain ⟨r_39, s_39, e_39, h⟩ := bd_some h
          refine v_callVi [] C (t_X11_isWord e_39) mw_X11_isWord (at_74 _ _) rfl wm_RX11_144 ⟨by decide, by decide⟩ rfl (Nat.le_of_ble_eq_true rfl) rfl dX11_isName_39 ?_
          refine v_if_ne 54 C dX11_isName_42 (by decide) (fun c => ?_) (fun c => ?_)
          · have h := if_f h c
            refine v_iconst C dX11_isName_54 ic_1 ?_
            refine v_goto 59 C dX11_isName_55 (by decide) ?_
            exact tj_X11_isName_59 C R1  h
          · have h := if_t h c
            refine v_aload_n 0 C dX11_isName_45 rfl ?_
            refine v_ldcS 5 (tx := "in") C (by decide) dX11_isName_46 ?_
            obtain ⟨r_48, s_48, e_48, h⟩ := bd_some h
            refine v_callVi [] C (t_X11_isWord e_48) mw_X11_isWord (at_74 _ _) rfl wm_RX11_144 ⟨by decide, by decide⟩ rfl (Nat.le_of_ble_eq_true rfl) rfl dX11_isName_48 ?_
            refine v_if_eq 58 C dX11_isName_51 (by decide) (fun c => ?_) (fun c => ?_)
            · have h := if_t h c
              refine v_iconst C dX11_isName_58 ic_0 ?_
              exact tj_X11_isName_59 C R1  h
            · have h := if_f h c
              refine v_iconst C dX11_isName_54 ic_1 ?_
              refine v_goto 59 C dX11_isName_55 (by decide) ?_
              exact tj_X11_isName_59 C R1  h
set_option maxRecDepth 4000 in
theorem tl_X11_named_2  {X : CX} {r : Int32} {fin : St} (C : Cx X "LitWindowsModel" cX11_named 2 7 176) (R1 : RtI X cX11_named .int r fin)  : ∀ (n : Nat) (x1 : Int32) (s : St), l_X11_named_2  n x1 s = some (r, fin) → V X s 2 [(0, .ref (wA (xw X) 74)), (1, .int x1)] [] := by
  intro n
  induction n with
  | zero => intro x1 s h; exact none_no h
  | succ n hr2 =>
    intro x1 s h
    have h : b_X11_named_2  (l_X11_named_2  n) x1 s = some (r, fin) := h
    refine v_iload_n 1 C dX11_named_2 rfl ?_
    refine v_aload_n 0 C dX11_named_3 rfl ?_
    refine g_74_6 C wf_RX11_168 dX11_named_4 ?_
    refine v_icmp_ge 39 C dX11_named_7 (by decide) (fun c => ?_) (fun c => ?_)
    · have h := if_t h c
      refine v_iconst C dX11_named_39 ic_m1 ?_
      exact v_ireth h R1 rfl dX11_named_40
    · have h := if_f h c
      refine v_aload_n 0 C dX11_named_10 rfl ?_
      obtain ⟨r_11, s_11, e_11, h⟩ := bd_some h
      refine v_callVi [] C (t_X11_isName e_11) mw_X11_isName (at_74 _ _) rfl wm_RX11_171 ⟨by decide, by decide⟩ rfl (Nat.le_of_ble_eq_true rfl) rfl dX11_named_11 ?_
      refine v_if_eq 39 C dX11_named_14 (by decide) (fun c => ?_) (fun c => ?_)
      · have h := if_t h c
        refine v_iconst C dX11_named_39 ic_m1 ?_
        exact v_ireth h R1 rfl dX11_named_40
      · have h := if_f h c
        refine v_aload_n 0 C dX11_named_17 rfl ?_
        refine g_74_7 C wf_RX11_13 dX11_named_18 ?_
        refine v_iload_n 1 C dX11_named_21 rfl ?_
        obtain ⟨hi, h⟩ := gi_some h
        refine ald_76 C hi dX11_named_22 ?_
        refine v_aload_n 0 C dX11_named_23 rfl ?_
        refine g_74_5 C wf_RX11_108 dX11_named_24 ?_
        refine v_lcmp C dX11_named_27 ?_
        refine v_if_ne 33 C dX11_named_28 (by decide) (fun c => ?_) (fun c => ?_)
        · have h := if_f h c
          refine v_iinc (L1 := [(0, _), (1, _)]) 1 [1, 0] C dX11_named_33 rfl ic_1 (by decide) rfl ?_
          refine v_goto 2 C dX11_named_36 (by decide) ?_
          exact hr2 _ _ h
        · have h := if_t h c
          refine v_iload_n 1 C dX11_named_31 rfl ?_
          exact v_ireth h R1 rfl dX11_named_32
set_option maxRecDepth 4000 in
theorem t_X11_named { s fin : _} {r : Int32} (h : f_X11_named  s = some (r, fin)) : Ct yX11_named cX11_named 2 (some .int) 7 176 (fun w => [.ref (wA w 74)]) s (some (.int r)) fin := by
  refine Ct.ofI (by decide +kernel) (fun w => Nat.le_of_ble_eq_true rfl) (fun X C R1 => ?_)
  show V X s 0 [(0, .ref (wA (xw X) 74))] []
  have C : Cx X "LitWindowsModel" cX11_named 2 7 176 := C
  refine v_iconst C dX11_named_0 ic_0 ?_
  refine v_istore_n (L1 := [(0, _), (1, _)]) [1, 0] C dX11_named_1 (by decide) rfl ?_
  exact tl_X11_named_2 C R1  FU _ _ h
set_option maxRecDepth 4000 in
theorem tj_X11_windowLine_121 {rec49 : Int32 → St → Option (Int32 × St)} {X : CX} {r : Int32} {fin : St} (C : Cx X "LitWindowsModel" cX11_windowLine 3 8 197) (R1 : RtI X cX11_windowLine .boolean r fin) (hr49 : ∀ (x1 : Int32) (s : St), rec49 x1 s = some (r, fin) → V X s 49 [(0, .ref (wA (xw X) 74)), (1, .int x1)] []) {x1 x2 s : _} (h : j_X11_windowLine_121 rec49 x1 x2 s = some (r, fin)) : V X s 121 [(0, .ref (wA (xw X) 74)), (1, .int x1), (2, .int x2)] [] := by
  refine v_aload_n 0 C dX11_windowLine_121 rfl ?_
  refine g_74_37 C wf_RX11_80 dX11_windowLine_122 ?_
  refine v_iload_n 2 C dX11_windowLine_125 rfl ?_
  refine v_aload_n 0 C dX11_windowLine_126 rfl ?_
  refine g_74_5 C wf_RX11_108 dX11_windowLine_127 ?_
  refine v_l2i C dX11_windowLine_130 ?_
  obtain ⟨hi, h⟩ := gi_some h
  refine ast_96 C hi dX11_windowLine_131 ?_
  refine v_iinc (L1 := [(0, _), (1, _), (2, _)]) 1 [1, 0, 2] C dX11_windowLine_132 rfl ic_1 (by decide) rfl ?_
  refine v_aload_n 0 C dX11_windowLine_135 rfl ?_
  obtain ⟨r_136, s_136, e_136, h⟩ := bd_some h
  refine v_callVv [] C (t_X11_next e_136) mw_X11_next (at_74 _ _) rfl wm_RX11_165 ⟨by decide, by decide⟩ rfl (Nat.le_of_ble_eq_true rfl) rfl dX11_windowLine_136 ?_
  refine v_goto 49 C dX11_windowLine_139 (by decide) ?_
  refine v_sub [0, 1] (L1 := [(0, _), (1, _)]) rfl ?_
  exact hr49 _ _ h
set_option maxRecDepth 4000 in
theorem tl_X11_windowLine_80 {rec49 : Int32 → St → Option (Int32 × St)} {X : CX} {r : Int32} {fin : St} (C : Cx X "LitWindowsModel" cX11_windowLine 3 8 197) (R1 : RtI X cX11_windowLine .boolean r fin) (hr49 : ∀ (x1 : Int32) (s : St), rec49 x1 s = some (r, fin) → V X s 49 [(0, .ref (wA (xw X) 74)), (1, .int x1)] []) : ∀ (n : Nat) (x1 : Int32) (x2 : Int32) (s : St), l_X11_windowLine_80 rec49 n x1 x2 s = some (r, fin) → V X s 80 [(0, .ref (wA (xw X) 74)), (1, .int x1), (2, .int x2)] [] := by
  intro n
  induction n with
  | zero => intro x1 x2 s h; exact none_no h
  | succ n hr80 =>
    intro x1 x2 s h
    have h : b_X11_windowLine_80 rec49 (l_X11_windowLine_80 rec49 n) x1 x2 s = some (r, fin) := h
    refine v_iload_n 2 C dX11_windowLine_80 rfl ?_
    refine v_if_le 121 C dX11_windowLine_81 (by decide) (fun c => ?_) (fun c => ?_)
    · have h := if_t h c
      exact tj_X11_windowLine_121 C R1 hr49 h
    · have h := if_f h c
      refine v_aload_n 0 C dX11_windowLine_84 rfl ?_
      refine g_74_37 C wf_RX11_80 dX11_windowLine_85 ?_
      refine v_iload_n 2 C dX11_windowLine_88 rfl ?_
      refine v_iconst C dX11_windowLine_89 ic_1 ?_
      refine v_isub C dX11_windowLine_90 ?_
      obtain ⟨hi, h⟩ := gi_some h
      refine ald_96 C hi dX11_windowLine_91 ?_
      refine v_i2l C dX11_windowLine_92 ?_
      refine v_aload_n 0 C dX11_windowLine_93 rfl ?_
      refine g_74_5 C wf_RX11_108 dX11_windowLine_94 ?_
      refine v_lcmp C dX11_windowLine_97 ?_
      refine v_if_le 121 C dX11_windowLine_98 (by decide) (fun c => ?_) (fun c => ?_)
      · have h := if_t h c
        exact tj_X11_windowLine_121 C R1 hr49 h
      · have h := if_f h c
        refine v_aload_n 0 C dX11_windowLine_101 rfl ?_
        refine g_74_37 C wf_RX11_80 dX11_windowLine_102 ?_
        refine v_iload_n 2 C dX11_windowLine_105 rfl ?_
        refine v_aload_n 0 C dX11_windowLine_106 rfl ?_
        refine g_74_37 C wf_RX11_80 dX11_windowLine_107 ?_
        refine v_iload_n 2 C dX11_windowLine_110 rfl ?_
        refine v_iconst C dX11_windowLine_111 ic_1 ?_
        refine v_isub C dX11_windowLine_112 ?_
        obtain ⟨hi, h⟩ := gi_some h
        refine ald_96 C hi dX11_windowLine_113 ?_
        obtain ⟨hi, h⟩ := gi_some h
        refine ast_96 C hi dX11_windowLine_114 ?_
        refine v_iinc (L1 := [(0, _), (1, _), (2, _)]) 2 [1, 2, 0] C dX11_windowLine_115 rfl ic_m1 (by decide) rfl ?_
        refine v_goto 80 C dX11_windowLine_118 (by decide) ?_
        exact hr80 _ _ _ h
set_option maxRecDepth 4000 in
theorem tj_X11_windowLine_66 {rec49 : Int32 → St → Option (Int32 × St)} {X : CX} {r : Int32} {fin : St} (C : Cx X "LitWindowsModel" cX11_windowLine 3 8 197) (R1 : RtI X cX11_windowLine .boolean r fin) (hr49 : ∀ (x1 : Int32) (s : St), rec49 x1 s = some (r, fin) → V X s 49 [(0, .ref (wA (xw X) 74)), (1, .int x1)] []) {x1 s : _} (h : j_X11_windowLine_66 rec49 x1 s = some (r, fin)) : V X s 66 [(0, .ref (wA (xw X) 74)), (1, .int x1)] [] := by
  refine v_aload_n 0 C dX11_windowLine_66 rfl ?_
  refine v_iconst C dX11_windowLine_67 ic_0 ?_
  refine v_bipush C dX11_windowLine_68 bp_60 ?_
  obtain ⟨r_70, s_70, e_70, h⟩ := bd_some h
  refine v_callVi [] C (t_X11_isNumber e_70) mw_X11_isNumber (at_74 _ _) rfl wm_RX11_187 ⟨by decide, by decide⟩ rfl (Nat.le_of_ble_eq_true rfl) rfl dX11_windowLine_70 ?_
  refine v_if_ne 78 C dX11_windowLine_73 (by decide) (fun c => ?_) (fun c => ?_)
  · have h := if_f h c
    refine v_iload_n 1 C dX11_windowLine_78 rfl ?_
    refine v_istore_n (L1 := [(0, _), (1, _), (2, _)]) [1, 2, 0] C dX11_windowLine_79 (by decide) rfl ?_
    exact tl_X11_windowLine_80 C R1 hr49 FU _ _ _ h
  · have h := if_t h c
    refine v_iconst C dX11_windowLine_76 ic_0 ?_
    exact v_ireth h R1 rfl dX11_windowLine_77
set_option maxRecDepth 4000 in
theorem tj_X11_windowLine_207  {X : CX} {r : Int32} {fin : St} (C : Cx X "LitWindowsModel" cX11_windowLine 3 8 197) (R1 : RtI X cX11_windowLine .boolean r fin)  { s : _} (h : j_X11_windowLine_207   s = some (r, fin)) : V X s 207 [(0, .ref (wA (xw X) 74))] [] := by
  unfold j_X11_windowLine_207 at h
  refine v_aload_n 0 C dX11_windowLine_207 rfl ?_
  refine v_dupr C dX11_windowLine_208 ?_
  refine g_74_13 C wf_RX11_191 dX11_windowLine_209 ?_
  refine v_iconst C dX11_windowLine_212 ic_1 ?_
  refine v_iadd C dX11_windowLine_213 ?_
  refine p_74_13 C wf_RX11_191 dX11_windowLine_214 ?_
  refine v_aload_n 0 C dX11_windowLine_217 rfl ?_
  obtain ⟨r_218, s_218, e_218, h⟩ := bd_some h
  refine v_callVi [] C (t_X11_closes e_218) mw_X11_closes (at_74 _ _) rfl wm_RX11_178 ⟨by decide, by decide⟩ rfl (Nat.le_of_ble_eq_true rfl) rfl dX11_windowLine_218 ?_
  obtain ⟨hb, h⟩ := gb_some h
  exact v_ireth h R1 hb dX11_windowLine_221
set_option maxRecDepth 4000 in
theorem tj_X11_windowLine_142  {X : CX} {r : Int32} {fin : St} (C : Cx X "LitWindowsModel" cX11_windowLine 3 8 197) (R1 : RtI X cX11_windowLine .boolean r fin)  {x1 s : _} (h : j_X11_windowLine_142  x1 s = some (r, fin)) : V X s 142 [(0, .ref (wA (xw X) 74)), (1, .int x1)] [] := by
  refine v_aload_n 0 C dX11_windowLine_142 rfl ?_
  refine g_74_15 C wf_RX11_34 dX11_windowLine_143 ?_
  refine v_aload_n 0 C dX11_windowLine_146 rfl ?_
  refine g_74_13 C wf_RX11_191 dX11_windowLine_147 ?_
  refine v_aload_n 0 C dX11_windowLine_150 rfl ?_
  refine g_74_37 C wf_RX11_80 dX11_windowLine_151 ?_
  refine v_iconst C dX11_windowLine_154 ic_0 ?_
  obtain ⟨hi, h⟩ := gi_some h
  refine ald_96 C hi dX11_windowLine_155 ?_
  obtain ⟨hi, h⟩ := gi_some h
  refine ast_82 C hi dX11_windowLine_156 ?_
  refine v_iload_n 1 C dX11_windowLine_157 rfl ?_
  refine v_iconst C dX11_windowLine_158 ic_1 ?_
  refine v_icmp_le 207 C dX11_windowLine_159 (by decide) (fun c => ?_) (fun c => ?_)
  · have h := if_t h c
    refine v_sub [0] (L1 := [(0, _)]) rfl ?_
    exact tj_X11_windowLine_207 C R1  h
  · have h := if_f h c
    refine v_aload_n 0 C dX11_windowLine_162 rfl ?_
    refine v_ldcS 7 (tx := "of") C (by decide) dX11_windowLine_163 ?_
    obtain ⟨r_165, s_165, e_165, h⟩ := bd_some h
    refine v_callVi [] C (t_X11_word e_165) mw_X11_word (at_74 _ _) rfl wm_RX11_184 ⟨by decide, by decide⟩ rfl (Nat.le_of_ble_eq_true rfl) rfl dX11_windowLine_165 ?_
    refine v_if_eq 180 C dX11_windowLine_168 (by decide) (fun c => ?_) (fun c => ?_)
    · have h := if_t h c
      refine v_iconst C dX11_windowLine_180 ic_0 ?_
      exact v_ireth h R1 rfl dX11_windowLine_181
    · have h := if_f h c
      refine v_aload_n 0 C dX11_windowLine_171 rfl ?_
      refine v_iconst C dX11_windowLine_172 ic_1 ?_
      refine v_iload_n 1 C dX11_windowLine_173 rfl ?_
      obtain ⟨r_174, s_174, e_174, h⟩ := bd_some h
      refine v_callVi [] C (t_X11_isNumber e_174) mw_X11_isNumber (at_74 _ _) rfl wm_RX11_187 ⟨by decide, by decide⟩ rfl (Nat.le_of_ble_eq_true rfl) rfl dX11_windowLine_174 ?_
      refine v_if_ne 182 C dX11_windowLine_177 (by decide) (fun c => ?_) (fun c => ?_)
      · have h := if_f h c
        refine v_aload_n 0 C dX11_windowLine_182 rfl ?_
        refine g_74_15 C wf_RX11_34 dX11_windowLine_183 ?_
        refine v_aload_n 0 C dX11_windowLine_186 rfl ?_
        refine g_74_13 C wf_RX11_191 dX11_windowLine_187 ?_
        refine v_aload_n 0 C dX11_windowLine_190 rfl ?_
        refine g_74_37 C wf_RX11_80 dX11_windowLine_191 ?_
        refine v_aload_n 0 C dX11_windowLine_194 rfl ?_
        refine g_74_5 C wf_RX11_108 dX11_windowLine_195 ?_
        refine v_l2i C dX11_windowLine_198 ?_
        refine v_iconst C dX11_windowLine_199 ic_1 ?_
        refine v_isub C dX11_windowLine_200 ?_
        obtain ⟨hi, h⟩ := gi_some h
        refine ald_96 C hi dX11_windowLine_201 ?_
        obtain ⟨hi, h⟩ := gi_some h
        refine ast_82 C hi dX11_windowLine_202 ?_
        refine v_aload_n 0 C dX11_windowLine_203 rfl ?_
        obtain ⟨r_204, s_204, e_204, h⟩ := bd_some h
        refine v_callVv [] C (t_X11_next e_204) mw_X11_next (at_74 _ _) rfl wm_RX11_165 ⟨by decide, by decide⟩ rfl (Nat.le_of_ble_eq_true rfl) rfl dX11_windowLine_204 ?_
        refine v_sub [0] (L1 := [(0, _)]) rfl ?_
        exact tj_X11_windowLine_207 C R1  h
      · have h := if_t h c
        refine v_iconst C dX11_windowLine_180 ic_0 ?_
        exact v_ireth h R1 rfl dX11_windowLine_181
set_option maxRecDepth 4000 in
theorem tl_X11_windowLine_49  {X : CX} {r : Int32} {fin : St} (C : Cx X "LitWindowsModel" cX11_windowLine 3 8 197) (R1 : RtI X cX11_windowLine .boolean r fin)  : ∀ (n : Nat) (x1 : Int32) (s : St), l_X11_windowLine_49  n x1 s = some (r, fin) → V X s 49 [(0, .ref (wA (xw X) 74)), (1, .int x1)] [] := by
  intro n
  induction n with
  | zero => intro x1 s h; exact none_no h
  | succ n hr49 =>
    intro x1 s h
    have h : b_X11_windowLine_49  (l_X11_windowLine_49  n) x1 s = some (r, fin) := h
    refine v_iload_n 1 C dX11_windowLine_49 rfl ?_
    refine v_if_eq 66 C dX11_windowLine_50 (by decide) (fun c => ?_) (fun c => ?_)
    · have h := if_t h c
      exact tj_X11_windowLine_66 C R1 hr49 h
    · have h := if_f h c
      refine v_iload_n 1 C dX11_windowLine_53 rfl ?_
      refine v_iconst C dX11_windowLine_54 ic_3 ?_
      refine v_icmp_ge 142 C dX11_windowLine_55 (by decide) (fun c => ?_) (fun c => ?_)
      · have h := if_t h c
        exact tj_X11_windowLine_142 C R1  h
      · have h := if_f h c
        refine v_aload_n 0 C dX11_windowLine_58 rfl ?_
        refine g_74_3 C wf_RX11_112 dX11_windowLine_59 ?_
        refine v_iconst C dX11_windowLine_62 ic_2 ?_
        refine v_icmp_ne 142 C dX11_windowLine_63 (by decide) (fun c => ?_) (fun c => ?_)
        · have h := if_f h c
          exact tj_X11_windowLine_142 C R1  h
        · have h := if_t h c
          exact tj_X11_windowLine_66 C R1 hr49 h
set_option maxRecDepth 4000 in
theorem t_X11_windowLine { s fin : _} {r : Int32} (h : f_X11_windowLine  s = some (r, fin)) : Ct yX11_windowLine cX11_windowLine 3 (some .boolean) 8 197 (fun w => [.ref (wA w 74)]) s (some (.int r)) fin := by
  refine Ct.ofI (by decide +kernel) (fun w => Nat.le_of_ble_eq_true rfl) (fun X C R1 => ?_)
  show V X s 0 [(0, .ref (wA (xw X) 74))] []
  have C : Cx X "LitWindowsModel" cX11_windowLine 3 8 197 := C
  refine v_aload_n 0 C dX11_windowLine_0 rfl ?_
  refine g_74_13 C wf_RX11_191 dX11_windowLine_1 ?_
  refine v_bipush C dX11_windowLine_4 bp_12 ?_
  refine v_icmp_ne 11 C dX11_windowLine_6 (by decide) (fun c => ?_) (fun c => ?_)
  · have h := if_f h c
    refine v_aload_n 0 C dX11_windowLine_11 rfl ?_
    obtain ⟨r_12, s_12, e_12, h⟩ := bd_some h
    refine v_callVv [] C (t_X11_next e_12) mw_X11_next (at_74 _ _) rfl wm_RX11_165 ⟨by decide, by decide⟩ rfl (Nat.le_of_ble_eq_true rfl) rfl dX11_windowLine_12 ?_
    refine v_aload_n 0 C dX11_windowLine_15 rfl ?_
    refine g_74_14 C wf_RX11_31 dX11_windowLine_16 ?_
    refine v_aload_n 0 C dX11_windowLine_19 rfl ?_
    refine g_74_13 C wf_RX11_191 dX11_windowLine_20 ?_
    refine v_aload_n 0 C dX11_windowLine_23 rfl ?_
    obtain ⟨r_24, s_24, e_24, h⟩ := bd_some h
    refine v_callVi [_, _] C (t_X11_named e_24) mw_X11_named (at_74 _ _) rfl wm_RX11_175 ⟨by decide, by decide⟩ rfl (Nat.le_of_ble_eq_true rfl) rfl dX11_windowLine_24 ?_
    obtain ⟨hi, h⟩ := gi_some h
    refine ast_81 C hi dX11_windowLine_27 ?_
    refine v_aload_n 0 C dX11_windowLine_28 rfl ?_
    refine g_74_14 C wf_RX11_31 dX11_windowLine_29 ?_
    refine v_aload_n 0 C dX11_windowLine_32 rfl ?_
    refine g_74_13 C wf_RX11_191 dX11_windowLine_33 ?_
    obtain ⟨hi, h⟩ := gi_some h
    refine ald_81 C hi dX11_windowLine_36 ?_
    refine v_iconst C dX11_windowLine_37 ic_m1 ?_
    refine v_icmp_ne 43 C dX11_windowLine_38 (by decide) (fun c => ?_) (fun c => ?_)
    · have h := if_f h c
      refine v_aload_n 0 C dX11_windowLine_43 rfl ?_
      obtain ⟨r_44, s_44, e_44, h⟩ := bd_some h
      refine v_callVv [] C (t_X11_next e_44) mw_X11_next (at_74 _ _) rfl wm_RX11_165 ⟨by decide, by decide⟩ rfl (Nat.le_of_ble_eq_true rfl) rfl dX11_windowLine_44 ?_
      refine v_iconst C dX11_windowLine_47 ic_0 ?_
      refine v_istore_n (L1 := [(0, _), (1, _)]) [1, 0] C dX11_windowLine_48 (by decide) rfl ?_
      exact tl_X11_windowLine_49 C R1  FU _ _ h
    · have h := if_t h c
      refine v_iconst C dX11_windowLine_41 ic_0 ?_
      exact v_ireth h R1 rfl dX11_windowLine_42
  · have h := if_t h c
    refine v_iconst C dX11_windowLine_9 ic_0 ?_
    exact v_ireth h R1 rfl dX11_windowLine_10
