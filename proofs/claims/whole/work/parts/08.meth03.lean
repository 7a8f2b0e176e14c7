set_option maxRecDepth 4000 in
theorem t_X11_arcLine { s fin : _} {r : Int32} (h : f_X11_arcLine  s = some (r, fin)) : Ct yX11_arcLine cX11_arcLine 1 (some .boolean) 8 197 (fun w => [.ref (wA w 74)]) s (some (.int r)) fin := by
  refine Ct.ofI (by decide +kernel) (fun w => Nat.le_of_ble_eq_true rfl) (fun X C R1 => ?_)
  show V X s 0 [(0, .ref (wA (xw X) 74))] []
  have C : Cx X "LitWindowsModel" cX11_arcLine 1 8 197 := C
  refine v_aload_n 0 C dX11_arcLine_0 rfl ?_
  refine g_74_9 C wf_RX11_181 dX11_arcLine_1 ?_
  refine v_bipush C dX11_arcLine_4 bp_24 ?_
  refine v_icmp_ne 11 C dX11_arcLine_6 (by decide) (fun c => ?_) (fun c => ?_)
  · have h := if_f h c
    refine v_aload_n 0 C dX11_arcLine_11 rfl ?_
    obtain ⟨r_12, s_12, e_12, h⟩ := bd_some h
    refine v_callVv [] C (t_X11_next e_12) mw_X11_next (at_74 _ _) rfl wm_RX11_165 ⟨by decide, by decide⟩ rfl (Nat.le_of_ble_eq_true rfl) rfl dX11_arcLine_12 ?_
    refine v_aload_n 0 C dX11_arcLine_15 rfl ?_
    refine g_74_10 C wf_RX11_21 dX11_arcLine_16 ?_
    refine v_aload_n 0 C dX11_arcLine_19 rfl ?_
    refine g_74_9 C wf_RX11_181 dX11_arcLine_20 ?_
    refine v_aload_n 0 C dX11_arcLine_23 rfl ?_
    obtain ⟨r_24, s_24, e_24, h⟩ := bd_some h
    refine v_callVi [_, _] C (t_X11_named e_24) mw_X11_named (at_74 _ _) rfl wm_RX11_175 ⟨by decide, by decide⟩ rfl (Nat.le_of_ble_eq_true rfl) rfl dX11_arcLine_24 ?_
    obtain ⟨hi, h⟩ := gi_some h
    refine ast_78 C hi dX11_arcLine_27 ?_
    refine v_aload_n 0 C dX11_arcLine_28 rfl ?_
    refine g_74_10 C wf_RX11_21 dX11_arcLine_29 ?_
    refine v_aload_n 0 C dX11_arcLine_32 rfl ?_
    refine g_74_9 C wf_RX11_181 dX11_arcLine_33 ?_
    obtain ⟨hi, h⟩ := gi_some h
    refine ald_78 C hi dX11_arcLine_36 ?_
    refine v_iconst C dX11_arcLine_37 ic_m1 ?_
    refine v_icmp_ne 43 C dX11_arcLine_38 (by decide) (fun c => ?_) (fun c => ?_)
    · have h := if_f h c
      refine v_aload_n 0 C dX11_arcLine_43 rfl ?_
      obtain ⟨r_44, s_44, e_44, h⟩ := bd_some h
      refine v_callVv [] C (t_X11_next e_44) mw_X11_next (at_74 _ _) rfl wm_RX11_165 ⟨by decide, by decide⟩ rfl (Nat.le_of_ble_eq_true rfl) rfl dX11_arcLine_44 ?_
      refine v_aload_n 0 C dX11_arcLine_47 rfl ?_
      refine v_ldcS 4 (tx := "to") C (by decide) dX11_arcLine_48 ?_
      obtain ⟨r_50, s_50, e_50, h⟩ := bd_some h
      refine v_callVi [] C (t_X11_word e_50) mw_X11_word (at_74 _ _) rfl wm_RX11_184 ⟨by decide, by decide⟩ rfl (Nat.le_of_ble_eq_true rfl) rfl dX11_arcLine_50 ?_
      refine v_if_ne 58 C dX11_arcLine_53 (by decide) (fun c => ?_) (fun c => ?_)
      · have h := if_f h c
        refine v_aload_n 0 C dX11_arcLine_58 rfl ?_
        refine g_74_11 C wf_RX11_25 dX11_arcLine_59 ?_
        refine v_aload_n 0 C dX11_arcLine_62 rfl ?_
        refine g_74_9 C wf_RX11_181 dX11_arcLine_63 ?_
        refine v_aload_n 0 C dX11_arcLine_66 rfl ?_
        obtain ⟨r_67, s_67, e_67, h⟩ := bd_some h
        refine v_callVi [_, _] C (t_X11_named e_67) mw_X11_named (at_74 _ _) rfl wm_RX11_175 ⟨by decide, by decide⟩ rfl (Nat.le_of_ble_eq_true rfl) rfl dX11_arcLine_67 ?_
        obtain ⟨hi, h⟩ := gi_some h
        refine ast_79 C hi dX11_arcLine_70 ?_
        refine v_aload_n 0 C dX11_arcLine_71 rfl ?_
        refine g_74_11 C wf_RX11_25 dX11_arcLine_72 ?_
        refine v_aload_n 0 C dX11_arcLine_75 rfl ?_
        refine g_74_9 C wf_RX11_181 dX11_arcLine_76 ?_
        obtain ⟨hi, h⟩ := gi_some h
        refine ald_79 C hi dX11_arcLine_79 ?_
        refine v_iconst C dX11_arcLine_80 ic_m1 ?_
        refine v_icmp_ne 86 C dX11_arcLine_81 (by decide) (fun c => ?_) (fun c => ?_)
        · have h := if_f h c
          refine v_aload_n 0 C dX11_arcLine_86 rfl ?_
          obtain ⟨r_87, s_87, e_87, h⟩ := bd_some h
          refine v_callVv [] C (t_X11_next e_87) mw_X11_next (at_74 _ _) rfl wm_RX11_165 ⟨by decide, by decide⟩ rfl (Nat.le_of_ble_eq_true rfl) rfl dX11_arcLine_87 ?_
          refine v_aload_n 0 C dX11_arcLine_90 rfl ?_
          refine v_ldcS 5 (tx := "in") C (by decide) dX11_arcLine_91 ?_
          obtain ⟨r_93, s_93, e_93, h⟩ := bd_some h
          refine v_callVi [] C (t_X11_word e_93) mw_X11_word (at_74 _ _) rfl wm_RX11_184 ⟨by decide, by decide⟩ rfl (Nat.le_of_ble_eq_true rfl) rfl dX11_arcLine_93 ?_
          refine v_if_eq 109 C dX11_arcLine_96 (by decide) (fun c => ?_) (fun c => ?_)
          · have h := if_t h c
            refine v_iconst C dX11_arcLine_109 ic_0 ?_
            exact v_ireth h R1 rfl dX11_arcLine_110
          · have h := if_f h c
            refine v_aload_n 0 C dX11_arcLine_99 rfl ?_
            refine v_iconst C dX11_arcLine_100 ic_0 ?_
            refine v_bipush C dX11_arcLine_101 bp_60 ?_
            obtain ⟨r_103, s_103, e_103, h⟩ := bd_some h
            refine v_callVi [] C (t_X11_isNumber e_103) mw_X11_isNumber (at_74 _ _) rfl wm_RX11_187 ⟨by decide, by decide⟩ rfl (Nat.le_of_ble_eq_true rfl) rfl dX11_arcLine_103 ?_
            refine v_if_ne 111 C dX11_arcLine_106 (by decide) (fun c => ?_) (fun c => ?_)
            · have h := if_f h c
              refine v_aload_n 0 C dX11_arcLine_111 rfl ?_
              refine g_74_12 C wf_RX11_28 dX11_arcLine_112 ?_
              refine v_aload_n 0 C dX11_arcLine_115 rfl ?_
              refine g_74_9 C wf_RX11_181 dX11_arcLine_116 ?_
              refine v_aload_n 0 C dX11_arcLine_119 rfl ?_
              refine g_74_5 C wf_RX11_108 dX11_arcLine_120 ?_
              refine v_l2i C dX11_arcLine_123 ?_
              obtain ⟨hi, h⟩ := gi_some h
              refine ast_80 C hi dX11_arcLine_124 ?_
              refine v_aload_n 0 C dX11_arcLine_125 rfl ?_
              refine v_dupr C dX11_arcLine_126 ?_
              refine g_74_9 C wf_RX11_181 dX11_arcLine_127 ?_
              refine v_iconst C dX11_arcLine_130 ic_1 ?_
              refine v_iadd C dX11_arcLine_131 ?_
              refine p_74_9 C wf_RX11_181 dX11_arcLine_132 ?_
              refine v_aload_n 0 C dX11_arcLine_135 rfl ?_
              obtain ⟨r_136, s_136, e_136, h⟩ := bd_some h
              refine v_callVv [] C (t_X11_next e_136) mw_X11_next (at_74 _ _) rfl wm_RX11_165 ⟨by decide, by decide⟩ rfl (Nat.le_of_ble_eq_true rfl) rfl dX11_arcLine_136 ?_
              refine v_aload_n 0 C dX11_arcLine_139 rfl ?_
              obtain ⟨r_140, s_140, e_140, h⟩ := bd_some h
              refine v_callVi [] C (t_X11_closes e_140) mw_X11_closes (at_74 _ _) rfl wm_RX11_178 ⟨by decide, by decide⟩ rfl (Nat.le_of_ble_eq_true rfl) rfl dX11_arcLine_140 ?_
              obtain ⟨hb, h⟩ := gb_some h
              exact v_ireth h R1 hb dX11_arcLine_143
            · have h := if_t h c
              refine v_iconst C dX11_arcLine_109 ic_0 ?_
              exact v_ireth h R1 rfl dX11_arcLine_110
        · have h := if_t h c
          refine v_iconst C dX11_arcLine_84 ic_0 ?_
          exact v_ireth h R1 rfl dX11_arcLine_85
      · have h := if_t h c
        refine v_iconst C dX11_arcLine_56 ic_0 ?_
        exact v_ireth h R1 rfl dX11_arcLine_57
    · have h := if_t h c
      refine v_iconst C dX11_arcLine_41 ic_0 ?_
      exact v_ireth h R1 rfl dX11_arcLine_42
  · have h := if_t h c
    refine v_iconst C dX11_arcLine_9 ic_0 ?_
    exact v_ireth h R1 rfl dX11_arcLine_10
set_option maxRecDepth 4000 in
theorem tj_X11_pointLine_84  {X : CX} {r : Int32} {fin : St} (C : Cx X "LitWindowsModel" cX11_pointLine 1 8 197) (R1 : RtI X cX11_pointLine .boolean r fin)  { s : _} (h : j_X11_pointLine_84   s = some (r, fin)) : V X s 84 [(0, .ref (wA (xw X) 74))] [] := by
  unfold j_X11_pointLine_84 at h
  refine v_aload_n 0 C dX11_pointLine_84 rfl ?_
  refine v_dupr C dX11_pointLine_85 ?_
  refine g_74_6 C wf_RX11_168 dX11_pointLine_86 ?_
  refine v_iconst C dX11_pointLine_89 ic_1 ?_
  refine v_iadd C dX11_pointLine_90 ?_
  refine p_74_6 C wf_RX11_168 dX11_pointLine_91 ?_
  refine v_aload_n 0 C dX11_pointLine_94 rfl ?_
  obtain ⟨r_95, s_95, e_95, h⟩ := bd_some h
  refine v_callVv [] C (t_X11_next e_95) mw_X11_next (at_74 _ _) rfl wm_RX11_165 ⟨by decide, by decide⟩ rfl (Nat.le_of_ble_eq_true rfl) rfl dX11_pointLine_95 ?_
  refine v_aload_n 0 C dX11_pointLine_98 rfl ?_
  obtain ⟨r_99, s_99, e_99, h⟩ := bd_some h
  refine v_callVi [] C (t_X11_closes e_99) mw_X11_closes (at_74 _ _) rfl wm_RX11_178 ⟨by decide, by decide⟩ rfl (Nat.le_of_ble_eq_true rfl) rfl dX11_pointLine_99 ?_
  obtain ⟨hb, h⟩ := gb_some h
  exact v_ireth h R1 hb dX11_pointLine_102
set_option maxRecDepth 4000 in
theorem t_X11_pointLine { s fin : _} {r : Int32} (h : f_X11_pointLine  s = some (r, fin)) : Ct yX11_pointLine cX11_pointLine 1 (some .boolean) 8 197 (fun w => [.ref (wA w 74)]) s (some (.int r)) fin := by
  refine Ct.ofI (by decide +kernel) (fun w => Nat.le_of_ble_eq_true rfl) (fun X C R1 => ?_)
  show V X s 0 [(0, .ref (wA (xw X) 74))] []
  have C : Cx X "LitWindowsModel" cX11_pointLine 1 8 197 := C
  refine v_aload_n 0 C dX11_pointLine_0 rfl ?_
  refine g_74_6 C wf_RX11_168 dX11_pointLine_1 ?_
  refine v_bipush C dX11_pointLine_4 bp_12 ?_
  refine v_icmp_ne 11 C dX11_pointLine_6 (by decide) (fun c => ?_) (fun c => ?_)
  · have h := if_f h c
    refine v_aload_n 0 C dX11_pointLine_11 rfl ?_
    obtain ⟨r_12, s_12, e_12, h⟩ := bd_some h
    refine v_callVv [] C (t_X11_next e_12) mw_X11_next (at_74 _ _) rfl wm_RX11_165 ⟨by decide, by decide⟩ rfl (Nat.le_of_ble_eq_true rfl) rfl dX11_pointLine_12 ?_
    refine v_aload_n 0 C dX11_pointLine_15 rfl ?_
    obtain ⟨r_16, s_16, e_16, h⟩ := bd_some h
    refine v_callVi [] C (t_X11_isName e_16) mw_X11_isName (at_74 _ _) rfl wm_RX11_171 ⟨by decide, by decide⟩ rfl (Nat.le_of_ble_eq_true rfl) rfl dX11_pointLine_16 ?_
    refine v_if_eq 30 C dX11_pointLine_19 (by decide) (fun c => ?_) (fun c => ?_)
    · have h := if_t h c
      refine v_iconst C dX11_pointLine_30 ic_0 ?_
      exact v_ireth h R1 rfl dX11_pointLine_31
    · have h := if_f h c
      refine v_aload_n 0 C dX11_pointLine_22 rfl ?_
      obtain ⟨r_23, s_23, e_23, h⟩ := bd_some h
      refine v_callVi [] C (t_X11_named e_23) mw_X11_named (at_74 _ _) rfl wm_RX11_175 ⟨by decide, by decide⟩ rfl (Nat.le_of_ble_eq_true rfl) rfl dX11_pointLine_23 ?_
      refine v_iconst C dX11_pointLine_26 ic_m1 ?_
      refine v_icmp_eq 32 C dX11_pointLine_27 (by decide) (fun c => ?_) (fun c => ?_)
      · have h := if_t h c
        refine v_aload_n 0 C dX11_pointLine_32 rfl ?_
        refine g_74_7 C wf_RX11_13 dX11_pointLine_33 ?_
        refine v_aload_n 0 C dX11_pointLine_36 rfl ?_
        refine g_74_6 C wf_RX11_168 dX11_pointLine_37 ?_
        refine v_aload_n 0 C dX11_pointLine_40 rfl ?_
        refine g_74_5 C wf_RX11_108 dX11_pointLine_41 ?_
        obtain ⟨hi, h⟩ := gi_some h
        refine ast_76 C hi dX11_pointLine_44 ?_
        refine v_aload_n 0 C dX11_pointLine_45 rfl ?_
        obtain ⟨r_46, s_46, e_46, h⟩ := bd_some h
        refine v_callVv [] C (t_X11_next e_46) mw_X11_next (at_74 _ _) rfl wm_RX11_165 ⟨by decide, by decide⟩ rfl (Nat.le_of_ble_eq_true rfl) rfl dX11_pointLine_46 ?_
        refine v_aload_n 0 C dX11_pointLine_49 rfl ?_
        refine g_74_8 C wf_RX11_17 dX11_pointLine_50 ?_
        refine v_aload_n 0 C dX11_pointLine_53 rfl ?_
        refine g_74_6 C wf_RX11_168 dX11_pointLine_54 ?_
        refine v_aload_n 0 C dX11_pointLine_57 rfl ?_
        refine v_ldcS 2 (tx := "all") C (by decide) dX11_pointLine_58 ?_
        obtain ⟨r_60, s_60, e_60, h⟩ := bd_some h
        refine v_callVi [_, _] C (t_X11_isWord e_60) mw_X11_isWord (at_74 _ _) rfl wm_RX11_144 ⟨by decide, by decide⟩ rfl (Nat.le_of_ble_eq_true rfl) rfl dX11_pointLine_60 ?_
        obtain ⟨hi, h⟩ := gi_some h
        refine ast_77 C hi dX11_pointLine_63 ?_
        refine v_aload_n 0 C dX11_pointLine_64 rfl ?_
        refine v_ldcS 1 (tx := "any") C (by decide) dX11_pointLine_65 ?_
        obtain ⟨r_67, s_67, e_67, h⟩ := bd_some h
        refine v_callVi [] C (t_X11_isWord e_67) mw_X11_isWord (at_74 _ _) rfl wm_RX11_144 ⟨by decide, by decide⟩ rfl (Nat.le_of_ble_eq_true rfl) rfl dX11_pointLine_67 ?_
        refine v_if_ne 84 C dX11_pointLine_70 (by decide) (fun c => ?_) (fun c => ?_)
        · have h := if_f h c
          exact tj_X11_pointLine_84 C R1  h
        · have h := if_t h c
          refine v_aload_n 0 C dX11_pointLine_73 rfl ?_
          refine v_ldcS 2 (tx := "all") C (by decide) dX11_pointLine_74 ?_
          obtain ⟨r_76, s_76, e_76, h⟩ := bd_some h
          refine v_callVi [] C (t_X11_isWord e_76) mw_X11_isWord (at_74 _ _) rfl wm_RX11_144 ⟨by decide, by decide⟩ rfl (Nat.le_of_ble_eq_true rfl) rfl dX11_pointLine_76 ?_
          refine v_if_ne 84 C dX11_pointLine_79 (by decide) (fun c => ?_) (fun c => ?_)
          · have h := if_f h c
            exact tj_X11_pointLine_84 C R1  h
          · have h := if_t h c
            refine v_iconst C dX11_pointLine_82 ic_0 ?_
            exact v_ireth h R1 rfl dX11_pointLine_83
      · have h := if_f h c
        refine v_iconst C dX11_pointLine_30 ic_0 ?_
        exact v_ireth h R1 rfl dX11_pointLine_31
  · have h := if_t h c
    refine v_iconst C dX11_pointLine_9 ic_0 ?_
    exact v_ireth h R1 rfl dX11_pointLine_10
set_option maxRecDepth 4000 in
theorem t_X11_line { s fin : _} {r : Int32} (h : f_X11_line  s = some (r, fin)) : Ct yX11_line cX11_line 1 (some .boolean) 9 219 (fun w => [.ref (wA w 74)]) s (some (.int r)) fin := by
  refine Ct.ofI (by decide +kernel) (fun w => Nat.le_of_ble_eq_true rfl) (fun X C R1 => ?_)
  show V X s 0 [(0, .ref (wA (xw X) 74))] []
  have C : Cx X "LitWindowsModel" cX11_line 1 9 219 := C
  refine v_aload_n 0 C dX11_line_0 rfl ?_
  refine v_ldcS 0 (tx := "point") C (by decide) dX11_line_1 ?_
  obtain ⟨r_3, s_3, e_3, h⟩ := bd_some h
  refine v_callVi [] C (t_X11_isWord e_3) mw_X11_isWord (at_74 _ _) rfl wm_RX11_144 ⟨by decide, by decide⟩ rfl (Nat.le_of_ble_eq_true rfl) rfl dX11_line_3 ?_
  refine v_if_eq 14 C dX11_line_6 (by decide) (fun c => ?_) (fun c => ?_)
  · have h := if_t h c
    refine v_aload_n 0 C dX11_line_14 rfl ?_
    refine v_ldcS 3 (tx := "from") C (by decide) dX11_line_15 ?_
    obtain ⟨r_17, s_17, e_17, h⟩ := bd_some h
    refine v_callVi [] C (t_X11_isWord e_17) mw_X11_isWord (at_74 _ _) rfl wm_RX11_144 ⟨by decide, by decide⟩ rfl (Nat.le_of_ble_eq_true rfl) rfl dX11_line_17 ?_
    refine v_if_eq 28 C dX11_line_20 (by decide) (fun c => ?_) (fun c => ?_)
    · have h := if_t h c
      refine v_aload_n 0 C dX11_line_28 rfl ?_
      refine v_ldcS 6 (tx := "window") C (by decide) dX11_line_29 ?_
      obtain ⟨r_31, s_31, e_31, h⟩ := bd_some h
      refine v_callVi [] C (t_X11_isWord e_31) mw_X11_isWord (at_74 _ _) rfl wm_RX11_144 ⟨by decide, by decide⟩ rfl (Nat.le_of_ble_eq_true rfl) rfl dX11_line_31 ?_
      refine v_if_eq 42 C dX11_line_34 (by decide) (fun c => ?_) (fun c => ?_)
      · have h := if_t h c
        refine v_aload_n 0 C dX11_line_42 rfl ?_
        refine v_ldcS 8 (tx := "hide") C (by decide) dX11_line_43 ?_
        obtain ⟨r_45, s_45, e_45, h⟩ := bd_some h
        refine v_callVi [] C (t_X11_isWord e_45) mw_X11_isWord (at_74 _ _) rfl wm_RX11_144 ⟨by decide, by decide⟩ rfl (Nat.le_of_ble_eq_true rfl) rfl dX11_line_45 ?_
        refine v_if_eq 62 C dX11_line_48 (by decide) (fun c => ?_) (fun c => ?_)
        · have h := if_t h c
          refine v_iconst C dX11_line_62 ic_0 ?_
          exact v_ireth h R1 rfl dX11_line_63
        · have h := if_f h c
          refine v_aload_n 0 C dX11_line_51 rfl ?_
          obtain ⟨r_52, s_52, e_52, h⟩ := bd_some h
          refine v_callVi [] C (t_X11_ruleLine e_52) mw_X11_ruleLine (at_74 _ _) rfl wm_RX11_206 ⟨by decide, by decide⟩ rfl (Nat.le_of_ble_eq_true rfl) rfl dX11_line_52 ?_
          refine v_if_eq 62 C dX11_line_55 (by decide) (fun c => ?_) (fun c => ?_)
          · have h := if_t h c
            refine v_iconst C dX11_line_62 ic_0 ?_
            exact v_ireth h R1 rfl dX11_line_63
          · have h := if_f h c
            refine v_iconst C dX11_line_58 ic_1 ?_
            refine v_goto 63 C dX11_line_59 (by decide) ?_
            exact v_ireth h R1 rfl dX11_line_63
      · have h := if_f h c
        refine v_aload_n 0 C dX11_line_37 rfl ?_
        obtain ⟨r_38, s_38, e_38, h⟩ := bd_some h
        refine v_callVi [] C (t_X11_windowLine e_38) mw_X11_windowLine (at_74 _ _) rfl wm_RX11_203 ⟨by decide, by decide⟩ rfl (Nat.le_of_ble_eq_true rfl) rfl dX11_line_38 ?_
        obtain ⟨hb, h⟩ := gb_some h
        exact v_ireth h R1 hb dX11_line_41
    · have h := if_f h c
      refine v_aload_n 0 C dX11_line_23 rfl ?_
      obtain ⟨r_24, s_24, e_24, h⟩ := bd_some h
      refine v_callVi [] C (t_X11_arcLine e_24) mw_X11_arcLine (at_74 _ _) rfl wm_RX11_200 ⟨by decide, by decide⟩ rfl (Nat.le_of_ble_eq_true rfl) rfl dX11_line_24 ?_
      obtain ⟨hb, h⟩ := gb_some h
      exact v_ireth h R1 hb dX11_line_27
  · have h := if_f h c
    refine v_aload_n 0 C dX11_line_9 rfl ?_
    obtain ⟨r_10, s_10, e_10, h⟩ := bd_some h
    refine v_callVi [] C (t_X11_pointLine e_10) mw_X11_pointLine (at_74 _ _) rfl wm_RX11_197 ⟨by decide, by decide⟩ rfl (Nat.le_of_ble_eq_true rfl) rfl dX11_line_10 ?_
    obtain ⟨hb, h⟩ := gb_some h
    exact v_ireth h R1 hb dX11_line_13
set_option maxRecDepth 4000 in
theorem tl_X11_fault_29  {X : CX} {r : Int32} {fin : St} (C : Cx X "LitWindowsModel" cX11_fault 1 10 239) (R1 : RtI X cX11_fault .int r fin)  : ∀ (n : Nat)  (s : St), l_X11_fault_29  n  s = some (r, fin) → V X s 29 [(0, .ref (wA (xw X) 74))] [] := by
  intro n
  induction n with
  | zero => intro  s h; exact none_no h
  | succ n hr29 =>
    intro  s h
    have h : b_X11_fault_29  (l_X11_fault_29  n)  s = some (r, fin) := h
    refine v_aload_n 0 C dX11_fault_29 rfl ?_
    refine g_74_3 C wf_RX11_112 dX11_fault_30 ?_
    refine v_if_eq 48 C dX11_fault_33 (by decide) (fun c => ?_) (fun c => ?_)
    · have h := if_t h c
      refine v_aload_n 0 C dX11_fault_48 rfl ?_
      refine g_74_6 C wf_RX11_168 dX11_fault_49 ?_
      refine v_if_ne 62 C dX11_fault_52 (by decide) (fun c => ?_) (fun c => ?_)
      · have h := if_f h c
        refine v_iconst C dX11_fault_62 ic_m1 ?_
        exact v_ireth h R1 rfl dX11_fault_63
      · have h := if_t h c
        refine v_aload_n 0 C dX11_fault_55 rfl ?_
        refine g_74_4 C wf_RX11_105 dX11_fault_56 ?_
        refine v_goto 63 C dX11_fault_59 (by decide) ?_
        exact v_ireth h R1 rfl dX11_fault_63
    · have h := if_f h c
      refine v_aload_n 0 C dX11_fault_36 rfl ?_
      obtain ⟨r_37, s_37, e_37, h⟩ := bd_some h
      refine v_callVi [] C (t_X11_line e_37) mw_X11_line (at_74 _ _) rfl wm_RX11_209 ⟨by decide, by decide⟩ rfl (Nat.le_of_ble_eq_true rfl) rfl dX11_fault_37 ?_
      refine v_if_ne 29 C dX11_fault_40 (by decide) (fun c => ?_) (fun c => ?_)
      · have h := if_f h c
        exact hr29  _ h
      · have h := if_t h c
        refine v_aload_n 0 C dX11_fault_43 rfl ?_
        refine g_74_4 C wf_RX11_105 dX11_fault_44 ?_
        exact v_ireth h R1 rfl dX11_fault_47
set_option maxRecDepth 4000 in
theorem t_X11_fault { s fin : _} {r : Int32} (h : f_X11_fault  s = some (r, fin)) : Ct yX11_fault cX11_fault 1 (some .int) 10 239 (fun w => [.ref (wA w 74)]) s (some (.int r)) fin := by
  refine Ct.ofI (by decide +kernel) (fun w => Nat.le_of_ble_eq_true rfl) (fun X C R1 => ?_)
  show V X s 0 [(0, .ref (wA (xw X) 74))] []
  have C : Cx X "LitWindowsModel" cX11_fault 1 10 239 := C
  unfold f_X11_fault at h
  refine v_aload_n 0 C dX11_fault_0 rfl ?_
  refine v_iconst C dX11_fault_1 ic_0 ?_
  refine p_74_6 C wf_RX11_168 dX11_fault_2 ?_
  refine v_aload_n 0 C dX11_fault_5 rfl ?_
  refine v_iconst C dX11_fault_6 ic_0 ?_
  refine p_74_9 C wf_RX11_181 dX11_fault_7 ?_
  refine v_aload_n 0 C dX11_fault_10 rfl ?_
  refine v_iconst C dX11_fault_11 ic_0 ?_
  refine p_74_13 C wf_RX11_191 dX11_fault_12 ?_
  refine v_aload_n 0 C dX11_fault_15 rfl ?_
  refine v_iconst C dX11_fault_16 ic_0 ?_
  refine p_74_16 C wf_RX11_194 dX11_fault_17 ?_
  refine v_aload_n 0 C dX11_fault_20 rfl ?_
  refine v_iconst C dX11_fault_21 ic_0 ?_
  refine p_74_2 C wf_RX11_102 dX11_fault_22 ?_
  refine v_aload_n 0 C dX11_fault_25 rfl ?_
  obtain ⟨r_26, s_26, e_26, h⟩ := bd_some h
  refine v_callVv [] C (t_X11_next e_26) mw_X11_next (at_74 _ _) rfl wm_RX11_165 ⟨by decide, by decide⟩ rfl (Nat.le_of_ble_eq_true rfl) rfl dX11_fault_26 ?_
  exact tl_X11_fault_29 C R1  FU  _ h
set_option maxRecDepth 4000 in
theorem t_X3_clear_p { s fin : _} (h : f_X3_clear_p  s = some ((), fin)) : Ct yX3_clear cX3_clear 1 none 0 0 (fun w => [.ref (wA w 8)]) s none fin := by
  refine Ct.ofV (by decide +kernel) (fun w => Nat.le_of_ble_eq_true rfl) (fun X C R1 => ?_)
  show V X s 0 [(0, .ref (wA (xw X) 8))] []
  have C : Cx X "LitWindows$Plant" cX3_clear 1 0 0 := C
  unfold f_X3_clear_p at h
  refine v_aload_n 0 C dX3_clear_0 rfl ?_
  refine v_iconst C dX3_clear_1 ic_0 ?_
  refine p_8_0 C wf_RX3_40 dX3_clear_2 ?_
  refine v_aload_n 0 C dX3_clear_5 rfl ?_
  refine v_iconst C dX3_clear_6 ic_0 ?_
  refine p_8_1 C wf_RX3_44 dX3_clear_7 ?_
  refine v_aload_n 0 C dX3_clear_10 rfl ?_
  refine v_iconst C dX3_clear_11 ic_0 ?_
  refine p_8_2 C wf_RX3_47 dX3_clear_12 ?_
  refine v_aload_n 0 C dX3_clear_15 rfl ?_
  refine v_iconst C dX3_clear_16 ic_0 ?_
  refine p_8_3 C wf_RX3_50 dX3_clear_17 ?_
  exact v_vreth h R1 dX3_clear_20
set_option maxRecDepth 4000 in
theorem t_X3_addRule_p {x1 x2 x3 s fin : _} (h : f_X3_addRule_p x1 x2 x3 s = some ((), fin)) : Ct yX3_addRule cX3_addRule 4 none 0 0 (fun w => [.ref (wA w 8), .int x1, .int x2, .int x3]) s none fin := by
  refine Ct.ofV (by decide +kernel) (fun w => Nat.le_of_ble_eq_true rfl) (fun X C R1 => ?_)
  show V X s 0 [(0, .ref (wA (xw X) 8)), (1, .int x1), (2, .int x2), (3, .int x3)] []
  have C : Cx X "LitWindows$Plant" cX3_addRule 4 0 0 := C
  refine v_aload_n 0 C dX3_addRule_0 rfl ?_
  refine g_8_3 C wf_RX3_50 dX3_addRule_1 ?_
  refine v_bipush C dX3_addRule_4 bp_8 ?_
  refine v_icmp_ge 49 C dX3_addRule_6 (by decide) (fun c => ?_) (fun c => ?_)
  · have h := if_t h c
    exact v_vreth h R1 dX3_addRule_49
  · have h := if_f h c
    refine v_aload_n 0 C dX3_addRule_9 rfl ?_
    refine g_8_10 C wf_RX3_31 dX3_addRule_10 ?_
    refine v_aload_n 0 C dX3_addRule_13 rfl ?_
    refine g_8_3 C wf_RX3_50 dX3_addRule_14 ?_
    refine v_iload_n 1 C dX3_addRule_17 rfl ?_
    obtain ⟨hi, h⟩ := gi_some h
    refine ast_15 C hi dX3_addRule_18 ?_
    refine v_aload_n 0 C dX3_addRule_19 rfl ?_
    refine g_8_11 C wf_RX3_34 dX3_addRule_20 ?_
    refine v_aload_n 0 C dX3_addRule_23 rfl ?_
    refine g_8_3 C wf_RX3_50 dX3_addRule_24 ?_
    refine v_iload_n 2 C dX3_addRule_27 rfl ?_
    obtain ⟨hi, h⟩ := gi_some h
    refine ast_16 C hi dX3_addRule_28 ?_
    refine v_aload_n 0 C dX3_addRule_29 rfl ?_
    refine g_8_12 C wf_RX3_37 dX3_addRule_30 ?_
    refine v_aload_n 0 C dX3_addRule_33 rfl ?_
    refine g_8_3 C wf_RX3_50 dX3_addRule_34 ?_
    refine v_iload_n 3 C dX3_addRule_37 rfl ?_
    obtain ⟨hi, h⟩ := gi_some h
    refine ast_17 C hi dX3_addRule_38 ?_
    refine v_aload_n 0 C dX3_addRule_39 rfl ?_
    refine v_dupr C dX3_addRule_40 ?_
    refine g_8_3 C wf_RX3_50 dX3_addRule_41 ?_
    refine v_iconst C dX3_addRule_44 ic_1 ?_
    refine v_iadd C dX3_addRule_45 ?_
    refine p_8_3 C wf_RX3_50 dX3_addRule_46 ?_
    exact v_vreth h R1 dX3_addRule_49
set_option maxRecDepth 4000 in
theorem t_X3_addWindow_p {x1 x2 s fin : _} (h : f_X3_addWindow_p x1 x2 s = some ((), fin)) : Ct yX3_addWindow cX3_addWindow 3 none 0 0 (fun w => [.ref (wA w 8), .int x1, .int x2]) s none fin := by
  refine Ct.ofV (by decide +kernel) (fun w => Nat.le_of_ble_eq_true rfl) (fun X C R1 => ?_)
  show V X s 0 [(0, .ref (wA (xw X) 8)), (1, .int x1), (2, .int x2)] []
  have C : Cx X "LitWindows$Plant" cX3_addWindow 3 0 0 := C
  refine v_aload_n 0 C dX3_addWindow_0 rfl ?_
  refine g_8_2 C wf_RX3_47 dX3_addWindow_1 ?_
  refine v_bipush C dX3_addWindow_4 bp_12 ?_
  refine v_icmp_ge 39 C dX3_addWindow_6 (by decide) (fun c => ?_) (fun c => ?_)
  · have h := if_t h c
    exact v_vreth h R1 dX3_addWindow_39
  · have h := if_f h c
    refine v_aload_n 0 C dX3_addWindow_9 rfl ?_
    refine g_8_8 C wf_RX3_25 dX3_addWindow_10 ?_
    refine v_aload_n 0 C dX3_addWindow_13 rfl ?_
    refine g_8_2 C wf_RX3_47 dX3_addWindow_14 ?_
    refine v_iload_n 1 C dX3_addWindow_17 rfl ?_
    obtain ⟨hi, h⟩ := gi_some h
    refine ast_13 C hi dX3_addWindow_18 ?_
    refine v_aload_n 0 C dX3_addWindow_19 rfl ?_
    refine g_8_9 C wf_RX3_28 dX3_addWindow_20 ?_
    refine v_aload_n 0 C dX3_addWindow_23 rfl ?_
    refine g_8_2 C wf_RX3_47 dX3_addWindow_24 ?_
    refine v_iload_n 2 C dX3_addWindow_27 rfl ?_
    obtain ⟨hi, h⟩ := gi_some h
    refine ast_14 C hi dX3_addWindow_28 ?_
    refine v_aload_n 0 C dX3_addWindow_29 rfl ?_
    refine v_dupr C dX3_addWindow_30 ?_
    refine g_8_2 C wf_RX3_47 dX3_addWindow_31 ?_
    refine v_iconst C dX3_addWindow_34 ic_1 ?_
    refine v_iadd C dX3_addWindow_35 ?_
    refine p_8_2 C wf_RX3_47 dX3_addWindow_36 ?_
    exact v_vreth h R1 dX3_addWindow_39
set_option maxRecDepth 4000 in
theorem t_X3_addArc_p {x1 x2 x3 s fin : _} (h : f_X3_addArc_p x1 x2 x3 s = some ((), fin)) : Ct yX3_addArc cX3_addArc 4 none 0 0 (fun w => [.ref (wA w 8), .int x1, .int x2, .int x3]) s none fin := by
  refine Ct.ofV (by decide +kernel) (fun w => Nat.le_of_ble_eq_true rfl) (fun X C R1 => ?_)
  show V X s 0 [(0, .ref (wA (xw X) 8)), (1, .int x1), (2, .int x2), (3, .int x3)] []
  have C : Cx X "LitWindows$Plant" cX3_addArc 4 0 0 := C
  refine v_aload_n 0 C dX3_addArc_0 rfl ?_
  refine g_8_1 C wf_RX3_44 dX3_addArc_1 ?_
  refine v_bipush C dX3_addArc_4 bp_24 ?_
  refine v_icmp_ge 49 C dX3_addArc_6 (by decide) (fun c => ?_) (fun c => ?_)
  · have h := if_t h c
    exact v_vreth h R1 dX3_addArc_49
  · have h := if_f h c
    refine v_aload_n 0 C dX3_addArc_9 rfl ?_
    refine g_8_5 C wf_RX3_15 dX3_addArc_10 ?_
    refine v_aload_n 0 C dX3_addArc_13 rfl ?_
    refine g_8_1 C wf_RX3_44 dX3_addArc_14 ?_
    refine v_iload_n 1 C dX3_addArc_17 rfl ?_
    obtain ⟨hi, h⟩ := gi_some h
    refine ast_10 C hi dX3_addArc_18 ?_
    refine v_aload_n 0 C dX3_addArc_19 rfl ?_
    refine g_8_6 C wf_RX3_19 dX3_addArc_20 ?_
    refine v_aload_n 0 C dX3_addArc_23 rfl ?_
    refine g_8_1 C wf_RX3_44 dX3_addArc_24 ?_
    refine v_iload_n 2 C dX3_addArc_27 rfl ?_
    obtain ⟨hi, h⟩ := gi_some h
    refine ast_11 C hi dX3_addArc_28 ?_
    refine v_aload_n 0 C dX3_addArc_29 rfl ?_
    refine g_8_7 C wf_RX3_22 dX3_addArc_30 ?_
    refine v_aload_n 0 C dX3_addArc_33 rfl ?_
    refine g_8_1 C wf_RX3_44 dX3_addArc_34 ?_
    refine v_iload_n 3 C dX3_addArc_37 rfl ?_
    obtain ⟨hi, h⟩ := gi_some h
    refine ast_12 C hi dX3_addArc_38 ?_
    refine v_aload_n 0 C dX3_addArc_39 rfl ?_
    refine v_dupr C dX3_addArc_40 ?_
    refine g_8_1 C wf_RX3_44 dX3_addArc_41 ?_
    refine v_iconst C dX3_addArc_44 ic_1 ?_
    refine v_iadd C dX3_addArc_45 ?_
    refine p_8_1 C wf_RX3_44 dX3_addArc_46 ?_
    exact v_vreth h R1 dX3_addArc_49
set_option maxRecDepth 4000 in
theorem t_X3_addPoint_p {x1 s fin : _} (h : f_X3_addPoint_p x1 s = some ((), fin)) : Ct yX3_addPoint cX3_addPoint 2 none 0 0 (fun w => [.ref (wA w 8), .int x1]) s none fin := by
  refine Ct.ofV (by decide +kernel) (fun w => Nat.le_of_ble_eq_true rfl) (fun X C R1 => ?_)
  show V X s 0 [(0, .ref (wA (xw X) 8)), (1, .int x1)] []
  have C : Cx X "LitWindows$Plant" cX3_addPoint 2 0 0 := C
  refine v_aload_n 0 C dX3_addPoint_0 rfl ?_
  refine g_8_0 C wf_RX3_40 dX3_addPoint_1 ?_
  refine v_bipush C dX3_addPoint_4 bp_12 ?_
  refine v_icmp_ge 29 C dX3_addPoint_6 (by decide) (fun c => ?_) (fun c => ?_)
  · have h := if_t h c
    exact v_vreth h R1 dX3_addPoint_29
  · have h := if_f h c
    refine v_aload_n 0 C dX3_addPoint_9 rfl ?_
    refine g_8_4 C wf_RX3_9 dX3_addPoint_10 ?_
    refine v_aload_n 0 C dX3_addPoint_13 rfl ?_
    refine g_8_0 C wf_RX3_40 dX3_addPoint_14 ?_
    refine v_iload_n 1 C dX3_addPoint_17 rfl ?_
    obtain ⟨hi, h⟩ := gi_some h
    refine ast_9 C hi dX3_addPoint_18 ?_
    refine v_aload_n 0 C dX3_addPoint_19 rfl ?_
    refine v_dupr C dX3_addPoint_20 ?_
    refine g_8_0 C wf_RX3_40 dX3_addPoint_21 ?_
    refine v_iconst C dX3_addPoint_24 ic_1 ?_
    refine v_iadd C dX3_addPoint_25 ?_
    refine p_8_0 C wf_RX3_40 dX3_addPoint_26 ?_
    exact v_vreth h R1 dX3_addPoint_29
set_option maxRecDepth 4000 in
theorem tl_X3_copyFrom_p_d_102  {X : CX} {fin : St} (C : Cx X "LitWindows$Plant" cX3_copyFrom 3 1 23) (R1 : RtV X cX3_copyFrom fin)  : ∀ (n : Nat) (x2 : Int32) (s : St), l_X3_copyFrom_p_d_102  n x2 s = some ((), fin) → V X s 102 [(0, .ref (wA (xw X) 8)), (1, .ref (wA (xw X) 18)), (2, .int x2)] [] := by
  intro n
  induction n with
  | zero => intro x2 s h; exact none_no h
  | succ n hr102 =>
    intro x2 s h
    have h : b_X3_copyFrom_p_d_102  (l_X3_copyFrom_p_d_102  n) x2 s = some ((), fin) := h
    refine v_iload_n 2 C dX3_copyFrom_102 rfl ?_
    refine v_aload_n 1 C dX3_copyFrom_103 rfl ?_
    refine g_18_3 C wf_RX3_50 dX3_copyFrom_104 ?_
    refine v_icmp_ge 138 C dX3_copyFrom_107 (by decide) (fun c => ?_) (fun c => ?_)
    · have h := if_t h c
      exact v_vreth h R1 dX3_copyFrom_138
    · have h := if_f h c
      refine v_aload_n 0 C dX3_copyFrom_110 rfl ?_
      refine v_aload_n 1 C dX3_copyFrom_111 rfl ?_
      refine g_18_10 C wf_RX3_31 dX3_copyFrom_112 ?_
      refine v_iload_n 2 C dX3_copyFrom_115 rfl ?_
      obtain ⟨hi, h⟩ := gi_some h
      refine ald_25 C hi dX3_copyFrom_116 ?_
      refine v_aload_n 1 C dX3_copyFrom_117 rfl ?_
      refine g_18_11 C wf_RX3_34 dX3_copyFrom_118 ?_
      refine v_iload_n 2 C dX3_copyFrom_121 rfl ?_
      obtain ⟨hi, h⟩ := gi_some h
      refine ald_26 C hi dX3_copyFrom_122 ?_
      refine v_aload_n 1 C dX3_copyFrom_123 rfl ?_
      refine g_18_12 C wf_RX3_37 dX3_copyFrom_124 ?_
      refine v_iload_n 2 C dX3_copyFrom_127 rfl ?_
      obtain ⟨hi, h⟩ := gi_some h
      refine ald_27 C hi dX3_copyFrom_128 ?_
      obtain ⟨r_129, s_129, e_129, h⟩ := bd_some h
      refine v_callVv [] C (t_X3_addRule_p e_129) mw_X3_addRule (at_8 _ _) rfl wm_RX3_68 ⟨by decide, by decide⟩ rfl (Nat.le_of_ble_eq_true rfl) rfl dX3_copyFrom_129 ?_
      refine v_iinc (L1 := [(0, _), (1, _), (2, _)]) 2 [1, 2, 0] C dX3_copyFrom_132 rfl ic_1 (by decide) rfl ?_
      refine v_goto 102 C dX3_copyFrom_135 (by decide) ?_
      exact hr102 _ _ h
set_option maxRecDepth 4000 in
theorem tl_X3_copyFrom_p_d_70  {X : CX} {fin : St} (C : Cx X "LitWindows$Plant" cX3_copyFrom 3 1 23) (R1 : RtV X cX3_copyFrom fin)  : ∀ (n : Nat) (x2 : Int32) (s : St), l_X3_copyFrom_p_d_70  n x2 s = some ((), fin) → V X s 70 [(0, .ref (wA (xw X) 8)), (1, .ref (wA (xw X) 18)), (2, .int x2)] [] := by
  intro n
  induction n with
  | zero => intro x2 s h; exact none_no h
  | succ n hr70 =>
    intro x2 s h
    have h : b_X3_copyFrom_p_d_70  (l_X3_copyFrom_p_d_70  n) x2 s = some ((), fin) := h
    refine v_iload_n 2 C dX3_copyFrom_70 rfl ?_
    refine v_aload_n 1 C dX3_copyFrom_71 rfl ?_
    refine g_18_2 C wf_RX3_47 dX3_copyFrom_72 ?_
    refine v_icmp_ge 100 C dX3_copyFrom_75 (by decide) (fun c => ?_) (fun c => ?_)
    · have h := if_t h c
      refine v_iconst C dX3_copyFrom_100 ic_0 ?_
      refine v_istore_n (L1 := [(0, _), (1, _), (2, _)]) [1, 2, 0] C dX3_copyFrom_101 (by decide) rfl ?_
      exact tl_X3_copyFrom_p_d_102 C R1  FU _ _ h
    · have h := if_f h c
      refine v_aload_n 0 C dX3_copyFrom_78 rfl ?_
      refine v_aload_n 1 C dX3_copyFrom_79 rfl ?_
      refine g_18_8 C wf_RX3_25 dX3_copyFrom_80 ?_
      refine v_iload_n 2 C dX3_copyFrom_83 rfl ?_
      obtain ⟨hi, h⟩ := gi_some h
      refine ald_23 C hi dX3_copyFrom_84 ?_
      refine v_aload_n 1 C dX3_copyFrom_85 rfl ?_
      refine g_18_9 C wf_RX3_28 dX3_copyFrom_86 ?_
      refine v_iload_n 2 C dX3_copyFrom_89 rfl ?_
      obtain ⟨hi, h⟩ := gi_some h
      refine ald_24 C hi dX3_copyFrom_90 ?_
      obtain ⟨r_91, s_91, e_91, h⟩ := bd_some h
      refine v_callVv [] C (t_X3_addWindow_p e_91) mw_X3_addWindow (at_8 _ _) rfl wm_RX3_64 ⟨by decide, by decide⟩ rfl (Nat.le_of_ble_eq_true rfl) rfl dX3_copyFrom_91 ?_
      refine v_iinc (L1 := [(0, _), (1, _), (2, _)]) 2 [1, 2, 0] C dX3_copyFrom_94 rfl ic_1 (by decide) rfl ?_
      refine v_goto 70 C dX3_copyFrom_97 (by decide) ?_
      exact hr70 _ _ h
set_option maxRecDepth 4000 in
theorem tl_X3_copyFrom_p_d_32  {X : CX} {fin : St} (C : Cx X "LitWindows$Plant" cX3_copyFrom 3 1 23) (R1 : RtV X cX3_copyFrom fin)  : ∀ (n : Nat) (x2 : Int32) (s : St), l_X3_copyFrom_p_d_32  n x2 s = some ((), fin) → V X s 32 [(0, .ref (wA (xw X) 8)), (1, .ref (wA (xw X) 18)), (2, .int x2)] [] := by
  intro n
  induction n with
  | zero => intro x2 s h; exact none_no h
  | succ n hr32 =>
    intro x2 s h
    have h : b_X3_copyFrom_p_d_32  (l_X3_copyFrom_p_d_32  n) x2 s = some ((), fin) := h
    refine v_iload_n 2 C dX3_copyFrom_32 rfl ?_
    refine v_aload_n 1 C dX3_copyFrom_33 rfl ?_
    refine g_18_1 C wf_RX3_44 dX3_copyFrom_34 ?_
    refine v_icmp_ge 68 C dX3_copyFrom_37 (by decide) (fun c => ?_) (fun c => ?_)
    · have h := if_t h c
      refine v_iconst C dX3_copyFrom_68 ic_0 ?_
      refine v_istore_n (L1 := [(0, _), (1, _), (2, _)]) [1, 2, 0] C dX3_copyFrom_69 (by decide) rfl ?_
      exact tl_X3_copyFrom_p_d_70 C R1  FU _ _ h
    · have h := if_f h c
      refine v_aload_n 0 C dX3_copyFrom_40 rfl ?_
      refine v_aload_n 1 C dX3_copyFrom_41 rfl ?_
      refine g_18_5 C wf_RX3_15 dX3_copyFrom_42 ?_
      refine v_iload_n 2 C dX3_copyFrom_45 rfl ?_
      obtain ⟨hi, h⟩ := gi_some h
      refine ald_20 C hi dX3_copyFrom_46 ?_
      refine v_aload_n 1 C dX3_copyFrom_47 rfl ?_
      refine g_18_6 C wf_RX3_19 dX3_copyFrom_48 ?_
      refine v_iload_n 2 C dX3_copyFrom_51 rfl ?_
      obtain ⟨hi, h⟩ := gi_some h
      refine ald_21 C hi dX3_copyFrom_52 ?_
      refine v_aload_n 1 C dX3_copyFrom_53 rfl ?_
      refine g_18_7 C wf_RX3_22 dX3_copyFrom_54 ?_
      refine v_iload_n 2 C dX3_copyFrom_57 rfl ?_
      obtain ⟨hi, h⟩ := gi_some h
      refine ald_22 C hi dX3_copyFrom_58 ?_
      obtain ⟨r_59, s_59, e_59, h⟩ := bd_some h
      refine v_callVv [] C (t_X3_addArc_p e_59) mw_X3_addArc (at_8 _ _) rfl wm_RX3_60 ⟨by decide, by decide⟩ rfl (Nat.le_of_ble_eq_true rfl) rfl dX3_copyFrom_59 ?_
      refine v_iinc (L1 := [(0, _), (1, _), (2, _)]) 2 [1, 2, 0] C dX3_copyFrom_62 rfl ic_1 (by decide) rfl ?_
      refine v_goto 32 C dX3_copyFrom_65 (by decide) ?_
      exact hr32 _ _ h
set_option maxRecDepth 4000 in
theorem tl_X3_copyFrom_p_d_6  {X : CX} {fin : St} (C : Cx X "LitWindows$Plant" cX3_copyFrom 3 1 23) (R1 : RtV X cX3_copyFrom fin)  : ∀ (n : Nat) (x2 : Int32) (s : St), l_X3_copyFrom_p_d_6  n x2 s = some ((), fin) → V X s 6 [(0, .ref (wA (xw X) 8)), (1, .ref (wA (xw X) 18)), (2, .int x2)] [] := by
  intro n
  induction n with
  | zero => intro x2 s h; exact none_no h
  | succ n hr6 =>
    intro x2 s h
    have h : b_X3_copyFrom_p_d_6  (l_X3_copyFrom_p_d_6  n) x2 s = some ((), fin) := h
    refine v_iload_n 2 C dX3_copyFrom_6 rfl ?_
    refine v_aload_n 1 C dX3_copyFrom_7 rfl ?_
    refine g_18_0 C wf_RX3_40 dX3_copyFrom_8 ?_
    refine v_icmp_ge 30 C dX3_copyFrom_11 (by decide) (fun c => ?_) (fun c => ?_)
    · have h := if_t h c
      refine v_iconst C dX3_copyFrom_30 ic_0 ?_
      refine v_istore_n (L1 := [(0, _), (1, _), (2, _)]) [1, 2, 0] C dX3_copyFrom_31 (by decide) rfl ?_
      exact tl_X3_copyFrom_p_d_32 C R1  FU _ _ h
    · have h := if_f h c
      refine v_aload_n 0 C dX3_copyFrom_14 rfl ?_
      refine v_aload_n 1 C dX3_copyFrom_15 rfl ?_
      refine g_18_4 C wf_RX3_9 dX3_copyFrom_16 ?_
      refine v_iload_n 2 C dX3_copyFrom_19 rfl ?_
      obtain ⟨hi, h⟩ := gi_some h
      refine ald_19 C hi dX3_copyFrom_20 ?_
      obtain ⟨r_21, s_21, e_21, h⟩ := bd_some h
      refine v_callVv [] C (t_X3_addPoint_p e_21) mw_X3_addPoint (at_8 _ _) rfl wm_RX3_56 ⟨by decide, by decide⟩ rfl (Nat.le_of_ble_eq_true rfl) rfl dX3_copyFrom_21 ?_
      refine v_iinc (L1 := [(0, _), (1, _), (2, _)]) 2 [1, 2, 0] C dX3_copyFrom_24 rfl ic_1 (by decide) rfl ?_
      refine v_goto 6 C dX3_copyFrom_27 (by decide) ?_
      exact hr6 _ _ h
set_option maxRecDepth 4000 in
theorem t_X3_copyFrom_p_d { s fin : _} (h : f_X3_copyFrom_p_d  s = some ((), fin)) : Ct yX3_copyFrom cX3_copyFrom 3 none 1 23 (fun w => [.ref (wA w 8), .ref (wA w 18)]) s none fin := by
  refine Ct.ofV (by decide +kernel) (fun w => Nat.le_of_ble_eq_true rfl) (fun X C R1 => ?_)
  show V X s 0 [(0, .ref (wA (xw X) 8)), (1, .ref (wA (xw X) 18))] []
  have C : Cx X "LitWindows$Plant" cX3_copyFrom 3 1 23 := C
  refine v_aload_n 0 C dX3_copyFrom_0 rfl ?_
  obtain ⟨r_1, s_1, e_1, h⟩ := bd_some h
  refine v_callVv [] C (t_X3_clear_p e_1) mw_X3_clear (at_8 _ _) rfl wm_RX3_53 ⟨by decide, by decide⟩ rfl (Nat.le_of_ble_eq_true rfl) rfl dX3_copyFrom_1 ?_
  refine v_iconst C dX3_copyFrom_4 ic_0 ?_
  refine v_istore_n (L1 := [(0, _), (1, _), (2, _)]) [1, 2, 0] C dX3_copyFrom_5 (by decide) rfl ?_
  exact tl_X3_copyFrom_p_d_6 C R1  FU _ _ h
set_option maxRecDepth 4000 in
theorem tl_J7_fill_53178_33_5  {X : CX} {fin : St} (C : Cx X "java/util/Arrays" cJ7_fill_53178 4 0 0) (R1 : RtV X cJ7_fill_53178 fin)  : ∀ (n : Nat) (x1 : Int32) (x2 : Int32) (x3 : Int32) (s : St), l_J7_fill_53178_33_5  n x1 x2 x3 s = some ((), fin) → V X s 5 [(0, .ref (wA (xw X) 33)), (1, .int x1), (2, .int x2), (3, .int x3)] [] := by
  intro n
  induction n with
  | zero => intro x1 x2 x3 s h; exact none_no h
  | succ n hr5 =>
    intro x1 x2 x3 s h
    have h : b_J7_fill_53178_33_5  (l_J7_fill_53178_33_5  n) x1 x2 x3 s = some ((), fin) := h
    refine v_iload_n 2 C dJ7_fill_53178_5 rfl ?_
    refine v_iload_n 3 C dJ7_fill_53178_6 rfl ?_
    refine v_icmp_ge 20 C dJ7_fill_53178_7 (by decide) (fun c => ?_) (fun c => ?_)
    · have h := if_t h c
      exact v_vreth h R1 dJ7_fill_53178_20
    · have h := if_f h c
      refine v_aload_n 0 C dJ7_fill_53178_10 rfl ?_
      refine v_iload_n 2 C dJ7_fill_53178_11 rfl ?_
      refine v_iload_n 1 C dJ7_fill_53178_12 rfl ?_
      obtain ⟨hi, h⟩ := gi_some h
      refine ast_33 C hi dJ7_fill_53178_13 ?_
      refine v_iinc (L1 := [(0, _), (1, _), (2, _), (3, _)]) 2 [1, 2, 0, 3] C dJ7_fill_53178_14 rfl ic_1 (by decide) rfl ?_
      refine v_goto 5 C dJ7_fill_53178_17 (by decide) ?_
      exact hr5 _ _ _ _ h
set_option maxRecDepth 4000 in
theorem t_J7_fill_53178_33 {x1 s fin : _} (h : f_J7_fill_53178_33 x1 s = some ((), fin)) : Ct yJ7_fill_53178 cJ7_fill_53178 4 none 0 0 (fun w => [.ref (wA w 33), .int x1]) s none fin := by
  refine Ct.ofV (by decide +kernel) (fun w => Nat.le_of_ble_eq_true rfl) (fun X C R1 => ?_)
  show V X s 0 [(0, .ref (wA (xw X) 33)), (1, .int x1)] []
  have C : Cx X "java/util/Arrays" cJ7_fill_53178 4 0 0 := C
  refine v_iconst C dJ7_fill_53178_0 ic_0 ?_
  refine v_istore_n (L1 := [(0, _), (1, _), (2, _)]) [1, 2, 0] C dJ7_fill_53178_1 (by decide) rfl ?_
  refine v_aload_n 0 C dJ7_fill_53178_2 rfl ?_
  refine len_33 C dJ7_fill_53178_3 ?_
  refine v_istore_n (L1 := [(0, _), (1, _), (2, _), (3, _)]) [1, 2, 3, 0] C dJ7_fill_53178_4 (by decide) rfl ?_
  exact tl_J7_fill_53178_33_5 C R1  FU _ _ _ _ h
set_option maxRecDepth 4000 in
theorem t_X2_reset { s fin : _} (h : f_X2_reset  s = some ((), fin)) : Ct yX2_reset cX2_reset 1 none 1 23 (fun w => [.ref (wA w 32)]) s none fin := by
  refine Ct.ofV (by decide +kernel) (fun w => Nat.le_of_ble_eq_true rfl) (fun X C R1 => ?_)
  show V X s 0 [(0, .ref (wA (xw X) 32))] []
  have C : Cx X "LitWindows$Lamps" cX2_reset 1 1 23 := C
  refine v_aload_n 0 C dX2_reset_0 rfl ?_
  refine g_32_2 C wf_RX2_9 dX2_reset_1 ?_
  refine v_iconst C dX2_reset_4 ic_0 ?_
  obtain ⟨r_5, s_5, e_5, h⟩ := bd_some h
  refine v_callSv [] C (t_J7_fill_53178_33 e_5) mw_J7_fill_53178 wm_RX2_26 ⟨by decide, by decide⟩ rfl (Nat.le_of_ble_eq_true rfl) rfl dX2_reset_5 ?_
  refine v_aload_n 0 C dX2_reset_8 rfl ?_
  refine v_iconst C dX2_reset_9 ic_0 ?_
  refine p_32_4 C wf_RX2_32 dX2_reset_10 ?_
  exact v_vreth h R1 dX2_reset_13
set_option maxRecDepth 4000 in
theorem tl_X0_reset_2  {X : CX} {fin : St} (C : Cx X "LitWindows$Crew" cX0_reset 2 0 0) (R1 : RtV X cX0_reset fin)  : ∀ (n : Nat) (x1 : Int32) (s : St), l_X0_reset_2  n x1 s = some ((), fin) → V X s 2 [(0, .ref (wA (xw X) 45)), (1, .int x1)] [] := by
  intro n
  induction n with
  | zero => intro x1 s h; exact none_no h
  | succ n hr2 =>
    intro x1 s h
    have h : b_X0_reset_2  (l_X0_reset_2  n) x1 s = some ((), fin) := h
    refine v_iload_n 1 C dX0_reset_2 rfl ?_
    refine v_bipush C dX0_reset_3 bp_12 ?_
    refine v_icmp_ge 21 C dX0_reset_5 (by decide) (fun c => ?_) (fun c => ?_)
    · have h := if_t h c
      exact v_vreth h R1 dX0_reset_21
    · have h := if_f h c
      refine v_aload_n 0 C dX0_reset_8 rfl ?_
      refine g_45_3 C wf_RX0_9 dX0_reset_9 ?_
      refine v_iload_n 1 C dX0_reset_12 rfl ?_
      refine v_iload_n 1 C dX0_reset_13 rfl ?_
      obtain ⟨hi, h⟩ := gi_some h
      refine ast_46 C hi dX0_reset_14 ?_
      refine v_iinc (L1 := [(0, _), (1, _)]) 1 [1, 0] C dX0_reset_15 rfl ic_1 (by decide) rfl ?_
      refine v_goto 2 C dX0_reset_18 (by decide) ?_
      exact hr2 _ _ h
set_option maxRecDepth 4000 in
theorem t_X0_reset { s fin : _} (h : f_X0_reset  s = some ((), fin)) : Ct yX0_reset cX0_reset 2 none 0 0 (fun w => [.ref (wA w 45)]) s none fin := by
  refine Ct.ofV (by decide +kernel) (fun w => Nat.le_of_ble_eq_true rfl) (fun X C R1 => ?_)
  show V X s 0 [(0, .ref (wA (xw X) 45))] []
  have C : Cx X "LitWindows$Crew" cX0_reset 2 0 0 := C
  refine v_iconst C dX0_reset_0 ic_0 ?_
  refine v_istore_n (L1 := [(0, _), (1, _)]) [1, 0] C dX0_reset_1 (by decide) rfl ?_
  exact tl_X0_reset_2 C R1  FU _ _ h
set_option maxRecDepth 4000 in
theorem t_X10_plant { s fin : _} {r : Int32} (h : f_X10_plant  s = some (r, fin)) : Ct yX10_plant cX10_plant 1 (some .int) 9 218 (fun w => [.ref (wA w 0)]) s (some (.int r)) fin := by
  refine Ct.ofI (by decide +kernel) (fun w => Nat.le_of_ble_eq_true rfl) (fun X C R1 => ?_)
  show V X s 0 [(0, .ref (wA (xw X) 0))] []
  have C : Cx X "LitWindows" cX10_plant 1 9 218 := C
  refine v_aload_n 0 C dX10_plant_0 rfl ?_
  refine g_0_1 C wf_RX10_21 dX10_plant_1 ?_
  refine v_aload_n 0 C dX10_plant_4 rfl ?_
  refine g_0_3 C wf_RX10_32 dX10_plant_5 ?_
  obtain ⟨r_8, s_8, e_8, h⟩ := bd_some h
  refine v_callVi [] C (t_X4_read_d e_8) mw_X4_read (at_3 _ _) rfl wm_RX10_99 ⟨by decide, by decide⟩ rfl (Nat.le_of_ble_eq_true rfl) rfl dX10_plant_8 ?_
  refine v_iconst C dX10_plant_11 ic_m1 ?_
  refine v_icmp_eq 17 C dX10_plant_12 (by decide) (fun c => ?_) (fun c => ?_)
  · have h := if_t h c
    refine v_aload_n 0 C dX10_plant_17 rfl ?_
    refine g_0_2 C wf_RX10_28 dX10_plant_18 ?_
    refine v_aload_n 0 C dX10_plant_21 rfl ?_
    refine g_0_3 C wf_RX10_32 dX10_plant_22 ?_
    obtain ⟨r_25, s_25, e_25, h⟩ := bd_some h
    refine v_callVv [] C (t_X3_copyFrom_p_d e_25) mw_X3_copyFrom (at_8 _ _) rfl wm_RX10_103 ⟨by decide, by decide⟩ rfl (Nat.le_of_ble_eq_true rfl) rfl dX10_plant_25 ?_
    refine v_aload_n 0 C dX10_plant_28 rfl ?_
    refine g_0_5 C wf_RX10_49 dX10_plant_29 ?_
    obtain ⟨r_32, s_32, e_32, h⟩ := bd_some h
    refine v_callVv [] C (t_X2_reset e_32) mw_X2_reset (at_32 _ _) rfl wm_RX10_106 ⟨by decide, by decide⟩ rfl (Nat.le_of_ble_eq_true rfl) rfl dX10_plant_32 ?_
    refine v_aload_n 0 C dX10_plant_35 rfl ?_
    refine g_0_9 C wf_RX10_83 dX10_plant_36 ?_
    obtain ⟨r_39, s_39, e_39, h⟩ := bd_some h
    refine v_callVv [] C (t_X0_reset e_39) mw_X0_reset (at_45 _ _) rfl wm_RX10_109 ⟨by decide, by decide⟩ rfl (Nat.le_of_ble_eq_true rfl) rfl dX10_plant_39 ?_
    refine v_aload_n 0 C dX10_plant_42 rfl ?_
    refine g_0_6 C wf_RX10_56 dX10_plant_43 ?_
    refine v_iconst C dX10_plant_46 ic_0 ?_
    refine p_35_2 C wf_RX10_110 dX10_plant_47 ?_
    refine v_aload_n 0 C dX10_plant_50 rfl ?_
    refine g_0_0 C wf_RX10_10 dX10_plant_51 ?_
    refine v_iconst C dX10_plant_54 ic_0 ?_
    refine p_1_1 C wf_RX10_95 dX10_plant_55 ?_
    refine v_aload_n 0 C dX10_plant_58 rfl ?_
    refine g_0_2 C wf_RX10_28 dX10_plant_59 ?_
    refine g_8_0 C wf_RX10_113 dX10_plant_62 ?_
    exact v_ireth h R1 rfl dX10_plant_65
  · have h := if_f h c
    refine v_iconst C dX10_plant_15 ic_m1 ?_
    exact v_ireth h R1 rfl dX10_plant_16
set_option maxRecDepth 4000 in
theorem tl_X11_plant_198  {X : CX} {r : Int32} {fin : St} (C : Cx X "LitWindowsModel" cX11_plant 2 11 259) (R1 : RtI X cX11_plant .int r fin)  : ∀ (n : Nat) (x1 : Int32) (s : St), l_X11_plant_198  n x1 s = some (r, fin) → V X s 198 [(0, .ref (wA (xw X) 74)), (1, .int x1)] [] := by
  intro n
  induction n with
  | zero => intro x1 s h; exact none_no h
  | succ n hr198 =>
    intro x1 s h
    have h : b_X11_plant_198  (l_X11_plant_198  n) x1 s = some (r, fin) := h
    refine v_iload_n 1 C dX11_plant_198 rfl ?_
    refine v_bipush C dX11_plant_199 bp_8 ?_
    refine v_icmp_ge 217 C dX11_plant_201 (by decide) (fun c => ?_) (fun c => ?_)
    · have h := if_t h c
      refine v_aload_n 0 C dX11_plant_217 rfl ?_
      refine v_iconst C dX11_plant_218 ic_0 ?_
      refine p_74_32 C wf_RX11_227 dX11_plant_219 ?_
      refine v_aload_n 0 C dX11_plant_222 rfl ?_
      refine v_iconst C dX11_plant_223 ic_0 ?_
      refine p_74_1 C wf_RX11_95 dX11_plant_224 ?_
      refine v_aload_n 0 C dX11_plant_227 rfl ?_
      refine g_74_18 C wf_RX11_215 dX11_plant_228 ?_
      exact v_ireth h R1 rfl dX11_plant_231
    · have h := if_f h c
      refine v_aload_n 0 C dX11_plant_204 rfl ?_
      refine g_74_31 C wf_RX11_67 dX11_plant_205 ?_
      refine v_iload_n 1 C dX11_plant_208 rfl ?_
      refine v_iconst C dX11_plant_209 ic_0 ?_
      obtain ⟨hi, h⟩ := gi_some h
      refine ast_93 C hi dX11_plant_210 ?_
      refine v_iinc (L1 := [(0, _), (1, _)]) 1 [1, 0] C dX11_plant_211 rfl ic_1 (by decide) rfl ?_
      refine v_goto 198 C dX11_plant_214 (by decide) ?_
      exact hr198 _ _ h
set_option maxRecDepth 4000 in
theorem tl_X11_plant_172  {X : CX} {r : Int32} {fin : St} (C : Cx X "LitWindowsModel" cX11_plant 2 11 259) (R1 : RtI X cX11_plant .int r fin)  : ∀ (n : Nat) (x1 : Int32) (s : St), l_X11_plant_172  n x1 s = some (r, fin) → V X s 172 [(0, .ref (wA (xw X) 74)), (1, .int x1)] [] := by
  intro n
  induction n with
  | zero => intro x1 s h; exact none_no h
  | succ n hr172 =>
    intro x1 s h
    have h : b_X11_plant_172  (l_X11_plant_172  n) x1 s = some (r, fin) := h
    refine v_iload_n 1 C dX11_plant_172 rfl ?_
    refine v_bipush C dX11_plant_173 bp_24 ?_
    refine v_icmp_ge 196 C dX11_plant_175 (by decide) (fun c => ?_) (fun c => ?_)
    · have h := if_t h c
      refine v_iconst C dX11_plant_196 ic_0 ?_
      refine v_istore_n (L1 := [(0, _), (1, _)]) [1, 0] C dX11_plant_197 (by decide) rfl ?_
      exact tl_X11_plant_198 C R1  FU _ _ h
    · have h := if_f h c
      refine v_aload_n 0 C dX11_plant_178 rfl ?_
      refine g_74_30 C wf_RX11_64 dX11_plant_179 ?_
      refine v_iload_n 1 C dX11_plant_182 rfl ?_
      refine v_aload_n 0 C dX11_plant_183 rfl ?_
      refine g_74_17 C wf_RX11_37 dX11_plant_184 ?_
      refine v_iload_n 1 C dX11_plant_187 rfl ?_
      obtain ⟨hi, h⟩ := gi_some h
      refine ald_83 C hi dX11_plant_188 ?_
      obtain ⟨hi, h⟩ := gi_some h
      refine ast_92 C hi dX11_plant_189 ?_
      refine v_iinc (L1 := [(0, _), (1, _)]) 1 [1, 0] C dX11_plant_190 rfl ic_1 (by decide) rfl ?_
      refine v_goto 172 C dX11_plant_193 (by decide) ?_
      exact hr172 _ _ h
set_option maxRecDepth 4000 in
theorem tl_X11_plant_120  {X : CX} {r : Int32} {fin : St} (C : Cx X "LitWindowsModel" cX11_plant 2 11 259) (R1 : RtI X cX11_plant .int r fin)  : ∀ (n : Nat) (x1 : Int32) (s : St), l_X11_plant_120  n x1 s = some (r, fin) → V X s 120 [(0, .ref (wA (xw X) 74)), (1, .int x1)] [] := by
  intro n
  induction n with
  | zero => intro x1 s h; exact none_no h
  | succ n hr120 =>
    intro x1 s h
    have h : b_X11_plant_120  (l_X11_plant_120  n) x1 s = some (r, fin) := h
    refine v_iload_n 1 C dX11_plant_120 rfl ?_
    refine v_bipush C dX11_plant_121 bp_12 ?_
    refine v_icmp_ge 170 C dX11_plant_123 (by decide) (fun c => ?_) (fun c => ?_)
    · have h := if_t h c
      refine v_iconst C dX11_plant_170 ic_0 ?_
      refine v_istore_n (L1 := [(0, _), (1, _)]) [1, 0] C dX11_plant_171 (by decide) rfl ?_
      exact tl_X11_plant_172 C R1  FU _ _ h
    · have h := if_f h c
      refine v_aload_n 0 C dX11_plant_126 rfl ?_
      refine g_74_25 C wf_RX11_52 dX11_plant_127 ?_
      refine v_iload_n 1 C dX11_plant_130 rfl ?_
      refine v_aload_n 0 C dX11_plant_131 rfl ?_
      refine g_74_14 C wf_RX11_31 dX11_plant_132 ?_
      refine v_iload_n 1 C dX11_plant_135 rfl ?_
      obtain ⟨hi, h⟩ := gi_some h
      refine ald_81 C hi dX11_plant_136 ?_
      obtain ⟨hi, h⟩ := gi_some h
      refine ast_88 C hi dX11_plant_137 ?_
      refine v_aload_n 0 C dX11_plant_138 rfl ?_
      refine g_74_26 C wf_RX11_55 dX11_plant_139 ?_
      refine v_iload_n 1 C dX11_plant_142 rfl ?_
      refine v_aload_n 0 C dX11_plant_143 rfl ?_
      refine g_74_15 C wf_RX11_34 dX11_plant_144 ?_
      refine v_iload_n 1 C dX11_plant_147 rfl ?_
      obtain ⟨hi, h⟩ := gi_some h
      refine ald_82 C hi dX11_plant_148 ?_
      obtain ⟨hi, h⟩ := gi_some h
      refine ast_89 C hi dX11_plant_149 ?_
      refine v_aload_n 0 C dX11_plant_150 rfl ?_
      refine g_74_27 C wf_RX11_58 dX11_plant_151 ?_
      refine v_iload_n 1 C dX11_plant_154 rfl ?_
      refine v_iconst C dX11_plant_155 ic_0 ?_
      obtain ⟨hi, h⟩ := gi_some h
      refine ast_90 C hi dX11_plant_156 ?_
      refine v_aload_n 0 C dX11_plant_157 rfl ?_
      refine g_74_28 C wf_RX11_61 dX11_plant_158 ?_
      refine v_iload_n 1 C dX11_plant_161 rfl ?_
      refine v_iload_n 1 C dX11_plant_162 rfl ?_
      obtain ⟨hi, h⟩ := gi_some h
      refine ast_91 C hi dX11_plant_163 ?_
      refine v_iinc (L1 := [(0, _), (1, _)]) 1 [1, 0] C dX11_plant_164 rfl ic_1 (by decide) rfl ?_
      refine v_goto 120 C dX11_plant_167 (by decide) ?_
      exact hr120 _ _ h
set_option maxRecDepth 4000 in
theorem tl_X11_plant_70  {X : CX} {r : Int32} {fin : St} (C : Cx X "LitWindowsModel" cX11_plant 2 11 259) (R1 : RtI X cX11_plant .int r fin)  : ∀ (n : Nat) (x1 : Int32) (s : St), l_X11_plant_70  n x1 s = some (r, fin) → V X s 70 [(0, .ref (wA (xw X) 74)), (1, .int x1)] [] := by
  intro n
  induction n with
  | zero => intro x1 s h; exact none_no h
  | succ n hr70 =>
    intro x1 s h
    have h : b_X11_plant_70  (l_X11_plant_70  n) x1 s = some (r, fin) := h
    refine v_iload_n 1 C dX11_plant_70 rfl ?_
    refine v_bipush C dX11_plant_71 bp_24 ?_
    refine v_icmp_ge 118 C dX11_plant_73 (by decide) (fun c => ?_) (fun c => ?_)
    · have h := if_t h c
      refine v_iconst C dX11_plant_118 ic_0 ?_
      refine v_istore_n (L1 := [(0, _), (1, _)]) [1, 0] C dX11_plant_119 (by decide) rfl ?_
      exact tl_X11_plant_120 C R1  FU _ _ h
    · have h := if_f h c
      refine v_aload_n 0 C dX11_plant_76 rfl ?_
      refine g_74_21 C wf_RX11_43 dX11_plant_77 ?_
      refine v_iload_n 1 C dX11_plant_80 rfl ?_
      refine v_aload_n 0 C dX11_plant_81 rfl ?_
      refine g_74_10 C wf_RX11_21 dX11_plant_82 ?_
      refine v_iload_n 1 C dX11_plant_85 rfl ?_
      obtain ⟨hi, h⟩ := gi_some h
      refine ald_78 C hi dX11_plant_86 ?_
      obtain ⟨hi, h⟩ := gi_some h
      refine ast_85 C hi dX11_plant_87 ?_
      refine v_aload_n 0 C dX11_plant_88 rfl ?_
      refine g_74_22 C wf_RX11_46 dX11_plant_89 ?_
      refine v_iload_n 1 C dX11_plant_92 rfl ?_
      refine v_aload_n 0 C dX11_plant_93 rfl ?_
      refine g_74_11 C wf_RX11_25 dX11_plant_94 ?_
      refine v_iload_n 1 C dX11_plant_97 rfl ?_
      obtain ⟨hi, h⟩ := gi_some h
      refine ald_79 C hi dX11_plant_98 ?_
      obtain ⟨hi, h⟩ := gi_some h
      refine ast_86 C hi dX11_plant_99 ?_
      refine v_aload_n 0 C dX11_plant_100 rfl ?_
      refine g_74_23 C wf_RX11_49 dX11_plant_101 ?_
      refine v_iload_n 1 C dX11_plant_104 rfl ?_
      refine v_aload_n 0 C dX11_plant_105 rfl ?_
      refine g_74_12 C wf_RX11_28 dX11_plant_106 ?_
      refine v_iload_n 1 C dX11_plant_109 rfl ?_
      obtain ⟨hi, h⟩ := gi_some h
      refine ald_80 C hi dX11_plant_110 ?_
      obtain ⟨hi, h⟩ := gi_some h
      refine ast_87 C hi dX11_plant_111 ?_
      refine v_iinc (L1 := [(0, _), (1, _)]) 1 [1, 0] C dX11_plant_112 rfl ic_1 (by decide) rfl ?_
      refine v_goto 70 C dX11_plant_115 (by decide) ?_
      exact hr70 _ _ h
set_option maxRecDepth 4000 in
theorem tl_X11_plant_44  {X : CX} {r : Int32} {fin : St} (C : Cx X "LitWindowsModel" cX11_plant 2 11 259) (R1 : RtI X cX11_plant .int r fin)  : ∀ (n : Nat) (x1 : Int32) (s : St), l_X11_plant_44  n x1 s = some (r, fin) → V X s 44 [(0, .ref (wA (xw X) 74)), (1, .int x1)] [] := by
  intro n
  induction n with
  | zero => intro x1 s h; exact none_no h
  | succ n hr44 =>
    intro x1 s h
    have h : b_X11_plant_44  (l_X11_plant_44  n) x1 s = some (r, fin) := h
    refine v_iload_n 1 C dX11_plant_44 rfl ?_
    refine v_bipush C dX11_plant_45 bp_12 ?_
    refine v_icmp_ge 68 C dX11_plant_47 (by decide) (fun c => ?_) (fun c => ?_)
    · have h := if_t h c
      refine v_iconst C dX11_plant_68 ic_0 ?_
      refine v_istore_n (L1 := [(0, _), (1, _)]) [1, 0] C dX11_plant_69 (by decide) rfl ?_
      exact tl_X11_plant_70 C R1  FU _ _ h
    · have h := if_f h c
      refine v_aload_n 0 C dX11_plant_50 rfl ?_
      refine g_74_19 C wf_RX11_40 dX11_plant_51 ?_
      refine v_iload_n 1 C dX11_plant_54 rfl ?_
      refine v_aload_n 0 C dX11_plant_55 rfl ?_
      refine g_74_8 C wf_RX11_17 dX11_plant_56 ?_
      refine v_iload_n 1 C dX11_plant_59 rfl ?_
      obtain ⟨hi, h⟩ := gi_some h
      refine ald_77 C hi dX11_plant_60 ?_
      obtain ⟨hi, h⟩ := gi_some h
      refine ast_84 C hi dX11_plant_61 ?_
      refine v_iinc (L1 := [(0, _), (1, _)]) 1 [1, 0] C dX11_plant_62 rfl ic_1 (by decide) rfl ?_
      refine v_goto 44 C dX11_plant_65 (by decide) ?_
      exact hr44 _ _ h
set_option maxRecDepth 4000 in
theorem t_X11_plant { s fin : _} {r : Int32} (h : f_X11_plant  s = some (r, fin)) : Ct yX11_plant cX11_plant 2 (some .int) 11 259 (fun w => [.ref (wA w 74)]) s (some (.int r)) fin := by
  refine Ct.ofI (by decide +kernel) (fun w => Nat.le_of_ble_eq_true rfl) (fun X C R1 => ?_)
  show V X s 0 [(0, .ref (wA (xw X) 74))] []
  have C : Cx X "LitWindowsModel" cX11_plant 2 11 259 := C
  refine v_aload_n 0 C dX11_plant_0 rfl ?_
  obtain ⟨r_1, s_1, e_1, h⟩ := bd_some h
  refine v_callVi [] C (t_X11_fault e_1) mw_X11_fault (at_74 _ _) rfl wm_RX11_212 ⟨by decide, by decide⟩ rfl (Nat.le_of_ble_eq_true rfl) rfl dX11_plant_1 ?_
  refine v_iconst C dX11_plant_4 ic_m1 ?_
  refine v_icmp_eq 10 C dX11_plant_5 (by decide) (fun c => ?_) (fun c => ?_)
  · have h := if_t h c
    refine v_aload_n 0 C dX11_plant_10 rfl ?_
    refine v_aload_n 0 C dX11_plant_11 rfl ?_
    refine g_74_6 C wf_RX11_168 dX11_plant_12 ?_
    refine p_74_18 C wf_RX11_215 dX11_plant_15 ?_
    refine v_aload_n 0 C dX11_plant_18 rfl ?_
    refine v_aload_n 0 C dX11_plant_19 rfl ?_
    refine g_74_9 C wf_RX11_181 dX11_plant_20 ?_
    refine p_74_20 C wf_RX11_218 dX11_plant_23 ?_
    refine v_aload_n 0 C dX11_plant_26 rfl ?_
    refine v_aload_n 0 C dX11_plant_27 rfl ?_
    refine g_74_13 C wf_RX11_191 dX11_plant_28 ?_
    refine p_74_24 C wf_RX11_221 dX11_plant_31 ?_
    refine v_aload_n 0 C dX11_plant_34 rfl ?_
    refine v_aload_n 0 C dX11_plant_35 rfl ?_
    refine g_74_16 C wf_RX11_194 dX11_plant_36 ?_
    refine p_74_29 C wf_RX11_224 dX11_plant_39 ?_
    refine v_iconst C dX11_plant_42 ic_0 ?_
    refine v_istore_n (L1 := [(0, _), (1, _)]) [1, 0] C dX11_plant_43 (by decide) rfl ?_
    exact tl_X11_plant_44 C R1  FU _ _ h
  · have h := if_f h c
    refine v_iconst C dX11_plant_8 ic_m1 ?_
    exact v_ireth h R1 rfl dX11_plant_9
set_option maxRecDepth 4000 in
theorem t_X10_isWindow {x1 s fin : _} {r : Int32} (h : f_X10_isWindow x1 s = some (r, fin)) : Ct yX10_isWindow cX10_isWindow 2 (some .boolean) 0 0 (fun w => [.ref (wA w 0), .int x1]) s (some (.int r)) fin := by
  refine Ct.ofI (by decide +kernel) (fun w => Nat.le_of_ble_eq_true rfl) (fun X C R1 => ?_)
  show V X s 0 [(0, .ref (wA (xw X) 0)), (1, .int x1)] []
  have C : Cx X "LitWindows" cX10_isWindow 2 0 0 := C
  refine v_iload_n 1 C dX10_isWindow_0 rfl ?_
  refine v_if_lt 19 C dX10_isWindow_1 (by decide) (fun c => ?_) (fun c => ?_)
  · have h := if_t h c
    refine v_iconst C dX10_isWindow_19 ic_0 ?_
    exact v_ireth h R1 rfl dX10_isWindow_20
  · have h := if_f h c
    refine v_iload_n 1 C dX10_isWindow_4 rfl ?_
    refine v_aload_n 0 C dX10_isWindow_5 rfl ?_
    refine g_0_2 C wf_RX10_28 dX10_isWindow_6 ?_
    refine g_8_2 C wf_RX10_273 dX10_isWindow_9 ?_
    refine v_icmp_ge 19 C dX10_isWindow_12 (by decide) (fun c => ?_) (fun c => ?_)
    · have h := if_t h c
      refine v_iconst C dX10_isWindow_19 ic_0 ?_
      exact v_ireth h R1 rfl dX10_isWindow_20
    · have h := if_f h c
      refine v_iconst C dX10_isWindow_15 ic_1 ?_
      refine v_goto 20 C dX10_isWindow_16 (by decide) ?_
      exact v_ireth h R1 rfl dX10_isWindow_20
set_option maxRecDepth 4000 in
theorem t_X10_stick {x1 x2 s fin : _} {r : Int32} (h : f_X10_stick x1 x2 s = some (r, fin)) : Ct yX10_stick cX10_stick 3 (some .boolean) 1 21 (fun w => [.ref (wA w 0), .int x1, .int x2]) s (some (.int r)) fin := by
  refine Ct.ofI (by decide +kernel) (fun w => Nat.le_of_ble_eq_true rfl) (fun X C R1 => ?_)
  show V X s 0 [(0, .ref (wA (xw X) 0)), (1, .int x1), (2, .int x2)] []
  have C : Cx X "LitWindows" cX10_stick 3 1 21 := C
  refine v_aload_n 0 C dX10_stick_0 rfl ?_
  refine v_iload_n 1 C dX10_stick_1 rfl ?_
  obtain ⟨r_2, s_2, e_2, h⟩ := bd_some h
  refine v_callVi [] C (t_X10_isWindow e_2) mw_X10_isWindow (at_0 _ _) rfl wm_RX10_116 ⟨by decide, by decide⟩ rfl (Nat.le_of_ble_eq_true rfl) rfl dX10_stick_2 ?_
  refine v_if_eq 17 C dX10_stick_5 (by decide) (fun c => ?_) (fun c => ?_)
  · have h := if_t h c
    refine v_iconst C dX10_stick_17 ic_0 ?_
    exact v_ireth h R1 rfl dX10_stick_18
  · have h := if_f h c
    refine v_iload_n 2 C dX10_stick_8 rfl ?_
    refine v_if_lt 17 C dX10_stick_9 (by decide) (fun c => ?_) (fun c => ?_)
    · have h := if_t h c
      refine v_iconst C dX10_stick_17 ic_0 ?_
      exact v_ireth h R1 rfl dX10_stick_18
    · have h := if_f h c
      refine v_iload_n 2 C dX10_stick_12 rfl ?_
      refine v_iconst C dX10_stick_13 ic_2 ?_
      refine v_icmp_le 19 C dX10_stick_14 (by decide) (fun c => ?_) (fun c => ?_)
      · have h := if_t h c
        refine v_aload_n 0 C dX10_stick_19 rfl ?_
        refine g_0_5 C wf_RX10_49 dX10_stick_20 ?_
        refine g_32_2 C wf_RX10_119 dX10_stick_23 ?_
        refine v_iload_n 1 C dX10_stick_26 rfl ?_
        refine v_iload_n 2 C dX10_stick_27 rfl ?_
        obtain ⟨hi, h⟩ := gi_some h
        refine ast_33 C hi dX10_stick_28 ?_
        refine v_iconst C dX10_stick_29 ic_1 ?_
        exact v_ireth h R1 rfl dX10_stick_30
      · have h := if_f h c
        refine v_iconst C dX10_stick_17 ic_0 ?_
        exact v_ireth h R1 rfl dX10_stick_18
set_option maxRecDepth 4000 in
theorem t_X11_isWindow {x1 s fin : _} {r : Int32} (h : f_X11_isWindow x1 s = some (r, fin)) : Ct yX11_isWindow cX11_isWindow 2 (some .boolean) 1 22 (fun w => [.ref (wA w 74), .int x1]) s (some (.int r)) fin := by
  refine Ct.ofI (by decide +kernel) (fun w => Nat.le_of_ble_eq_true rfl) (fun X C R1 => ?_)
  show V X s 0 [(0, .ref (wA (xw X) 74)), (1, .int x1)] []
  have C : Cx X "LitWindowsModel" cX11_isWindow 2 1 22 := C
  refine v_iload_n 1 C dX11_isWindow_0 rfl ?_
  refine v_iconst C dX11_isWindow_1 ic_0 ?_
  refine v_aload_n 0 C dX11_isWindow_2 rfl ?_
  refine g_74_24 C wf_RX11_221 dX11_isWindow_3 ?_
  refine v_iconst C dX11_isWindow_6 ic_1 ?_
  refine v_isub C dX11_isWindow_7 ?_
  obtain ⟨r_8, s_8, e_8, h⟩ := bd_some h
  refine v_callSi [] C (t_X11_in e_8) mw_X11_in wm_RX11_98 ⟨by decide, by decide⟩ rfl (Nat.le_of_ble_eq_true rfl) rfl dX11_isWindow_8 ?_
  obtain ⟨hb, h⟩ := gb_some h
  exact v_ireth h R1 hb dX11_isWindow_11
set_option maxRecDepth 4000 in
theorem t_X11_stick {x1 x2 s fin : _} {r : Int32} (h : f_X11_stick x1 x2 s = some (r, fin)) : Ct yX11_stick cX11_stick 3 (some .boolean) 2 43 (fun w => [.ref (wA w 74), .int x1, .int x2]) s (some (.int r)) fin := by
  refine Ct.ofI (by decide +kernel) (fun w => Nat.le_of_ble_eq_true rfl) (fun X C R1 => ?_)
  show V X s 0 [(0, .ref (wA (xw X) 74)), (1, .int x1), (2, .int x2)] []
  have C : Cx X "LitWindowsModel" cX11_stick 3 2 43 := C
  refine v_aload_n 0 C dX11_stick_0 rfl ?_
  refine v_iload_n 1 C dX11_stick_1 rfl ?_
  obtain ⟨r_2, s_2, e_2, h⟩ := bd_some h
  refine v_callVi [] C (t_X11_isWindow e_2) mw_X11_isWindow (at_74 _ _) rfl wm_RX11_230 ⟨by decide, by decide⟩ rfl (Nat.le_of_ble_eq_true rfl) rfl dX11_stick_2 ?_
  refine v_if_eq 17 C dX11_stick_5 (by decide) (fun c => ?_) (fun c => ?_)
  · have h := if_t h c
    refine v_iconst C dX11_stick_17 ic_0 ?_
    exact v_ireth h R1 rfl dX11_stick_18
  · have h := if_f h c
    refine v_iload_n 2 C dX11_stick_8 rfl ?_
    refine v_iconst C dX11_stick_9 ic_0 ?_
    refine v_iconst C dX11_stick_10 ic_2 ?_
    obtain ⟨r_11, s_11, e_11, h⟩ := bd_some h
    refine v_callSi [] C (t_X11_in e_11) mw_X11_in wm_RX11_98 ⟨by decide, by decide⟩ rfl (Nat.le_of_ble_eq_true rfl) rfl dX11_stick_11 ?_
    refine v_if_ne 19 C dX11_stick_14 (by decide) (fun c => ?_) (fun c => ?_)
    · have h := if_f h c
      refine v_aload_n 0 C dX11_stick_19 rfl ?_
      refine g_74_27 C wf_RX11_58 dX11_stick_20 ?_
      refine v_iload_n 1 C dX11_stick_23 rfl ?_
      refine v_iload_n 2 C dX11_stick_24 rfl ?_
      obtain ⟨hi, h⟩ := gi_some h
      refine ast_90 C hi dX11_stick_25 ?_
      refine v_iconst C dX11_stick_26 ic_1 ?_
      exact v_ireth h R1 rfl dX11_stick_27
    · have h := if_t h c
      refine v_iconst C dX11_stick_17 ic_0 ?_
      exact v_ireth h R1 rfl dX11_stick_18
set_option maxRecDepth 4000 in
theorem tl_X0_placeOf_2  {X : CX} {r : Int32} {fin : St} (C : Cx X "LitWindows$Crew" cX0_placeOf 3 0 0) (R1 : RtI X cX0_placeOf .int r fin)  : ∀ (n : Nat) (x1 : Int32) (x2 : Int32) (s : St), l_X0_placeOf_2  n x1 x2 s = some (r, fin) → V X s 2 [(0, .ref (wA (xw X) 45)), (1, .int x1), (2, .int x2)] [] := by
  intro n
  induction n with
  | zero => intro x1 x2 s h; exact none_no h
  | succ n hr2 =>
    intro x1 x2 s h
    have h : b_X0_placeOf_2  (l_X0_placeOf_2  n) x1 x2 s = some (r, fin) := h
    refine v_iload_n 2 C dX0_placeOf_2 rfl ?_
    refine v_aload_n 0 C dX0_placeOf_3 rfl ?_
    refine g_45_0 C wf_RX0_26 dX0_placeOf_4 ?_
    refine g_8_2 C wf_RX0_38 dX0_placeOf_7 ?_
    refine v_icmp_ge 31 C dX0_placeOf_10 (by decide) (fun c => ?_) (fun c => ?_)
    · have h := if_t h c
      refine v_iconst C dX0_placeOf_31 ic_m1 ?_
      exact v_ireth h R1 rfl dX0_placeOf_32
    · have h := if_f h c
      refine v_aload_n 0 C dX0_placeOf_13 rfl ?_
      refine g_45_3 C wf_RX0_9 dX0_placeOf_14 ?_
      refine v_iload_n 2 C dX0_placeOf_17 rfl ?_
      obtain ⟨hi, h⟩ := gi_some h
      refine ald_46 C hi dX0_placeOf_18 ?_
      refine v_iload_n 1 C dX0_placeOf_19 rfl ?_
      refine v_icmp_ne 25 C dX0_placeOf_20 (by decide) (fun c => ?_) (fun c => ?_)
      · have h := if_f h c
        refine v_iinc (L1 := [(0, _), (1, _), (2, _)]) 2 [1, 2, 0] C dX0_placeOf_25 rfl ic_1 (by decide) rfl ?_
        refine v_goto 2 C dX0_placeOf_28 (by decide) ?_
        exact hr2 _ _ _ h
      · have h := if_t h c
        refine v_iload_n 2 C dX0_placeOf_23 rfl ?_
        exact v_ireth h R1 rfl dX0_placeOf_24
set_option maxRecDepth 4000 in
theorem t_X0_placeOf {x1 s fin : _} {r : Int32} (h : f_X0_placeOf x1 s = some (r, fin)) : Ct yX0_placeOf cX0_placeOf 3 (some .int) 0 0 (fun w => [.ref (wA w 45), .int x1]) s (some (.int r)) fin := by
  refine Ct.ofI (by decide +kernel) (fun w => Nat.le_of_ble_eq_true rfl) (fun X C R1 => ?_)
  show V X s 0 [(0, .ref (wA (xw X) 45)), (1, .int x1)] []
  have C : Cx X "LitWindows$Crew" cX0_placeOf 3 0 0 := C
  refine v_iconst C dX0_placeOf_0 ic_0 ?_
  refine v_istore_n (L1 := [(0, _), (1, _), (2, _)]) [1, 2, 0] C dX0_placeOf_1 (by decide) rfl ?_
  exact tl_X0_placeOf_2 C R1  FU _ _ _ h
set_option maxRecDepth 4000 in
theorem t_X10_window {x1 x2 s fin : _} {r : Int32} (h : f_X10_window x1 x2 s = some (r, fin)) : Ct yX10_window cX10_window 3 (some .int) 1 22 (fun w => [.ref (wA w 0), .int x1, .int x2]) s (some (.int r)) fin := by
  refine Ct.ofI (by decide +kernel) (fun w => Nat.le_of_ble_eq_true rfl) (fun X C R1 => ?_)
  show V X s 0 [(0, .ref (wA (xw X) 0)), (1, .int x1), (2, .int x2)] []
  have C : Cx X "LitWindows" cX10_window 3 1 22 := C
  refine v_aload_n 0 C dX10_window_0 rfl ?_
  refine v_iload_n 1 C dX10_window_1 rfl ?_
  obtain ⟨r_2, s_2, e_2, h⟩ := bd_some h
  refine v_callVi [] C (t_X10_isWindow e_2) mw_X10_isWindow (at_0 _ _) rfl wm_RX10_116 ⟨by decide, by decide⟩ rfl (Nat.le_of_ble_eq_true rfl) rfl dX10_window_2 ?_
  refine v_if_ne 10 C dX10_window_5 (by decide) (fun c => ?_) (fun c => ?_)
  · have h := if_f h c
    refine v_iload_n 2 C dX10_window_10 rfl ?_
    by_cases c0 : x2 = 0
    · have h := if_t h c0
      refine v_tswI 40 C dX10_window_11 (by rw [c0]; decide) (by rw [c0]; decide) (by rw [c0]; rfl) (by decide) ?_
      refine v_aload_n 0 C dX10_window_40 rfl ?_
      refine g_0_2 C wf_RX10_28 dX10_window_41 ?_
      refine g_8_8 C wf_RX10_123 dX10_window_44 ?_
      refine v_iload_n 1 C dX10_window_47 rfl ?_
      obtain ⟨hi, h⟩ := gi_some h
      refine ald_13 C hi dX10_window_48 ?_
      exact v_ireth h R1 rfl dX10_window_49
    have h := if_f h c0
    by_cases c1 : x2 = 1
    · have h := if_t h c1
      refine v_tswI 50 C dX10_window_11 (by rw [c1]; decide) (by rw [c1]; decide) (by rw [c1]; rfl) (by decide) ?_
      refine v_aload_n 0 C dX10_window_50 rfl ?_
      refine g_0_2 C wf_RX10_28 dX10_window_51 ?_
      refine g_8_9 C wf_RX10_126 dX10_window_54 ?_
      refine v_iload_n 1 C dX10_window_57 rfl ?_
      obtain ⟨hi, h⟩ := gi_some h
      refine ald_14 C hi dX10_window_58 ?_
      exact v_ireth h R1 rfl dX10_window_59
    have h := if_f h c1
    by_cases c2 : x2 = 2
    · have h := if_t h c2
      refine v_tswI 60 C dX10_window_11 (by rw [c2]; decide) (by rw [c2]; decide) (by rw [c2]; rfl) (by decide) ?_
      refine v_aload_n 0 C dX10_window_60 rfl ?_
      refine g_0_5 C wf_RX10_49 dX10_window_61 ?_
      refine g_32_2 C wf_RX10_119 dX10_window_64 ?_
      refine v_iload_n 1 C dX10_window_67 rfl ?_
      obtain ⟨hi, h⟩ := gi_some h
      refine ald_33 C hi dX10_window_68 ?_
      exact v_ireth h R1 rfl dX10_window_69
    have h := if_f h c2
    by_cases c3 : x2 = 3
    · have h := if_t h c3
      refine v_tswI 70 C dX10_window_11 (by rw [c3]; decide) (by rw [c3]; decide) (by rw [c3]; rfl) (by decide) ?_
      refine v_aload_n 0 C dX10_window_70 rfl ?_
      refine g_0_9 C wf_RX10_83 dX10_window_71 ?_
      refine v_iload_n 1 C dX10_window_74 rfl ?_
      obtain ⟨r_75, s_75, e_75, h⟩ := bd_some h
      refine v_callVi [] C (t_X0_placeOf e_75) mw_X0_placeOf (at_45 _ _) rfl wm_RX10_129 ⟨by decide, by decide⟩ rfl (Nat.le_of_ble_eq_true rfl) rfl dX10_window_75 ?_
      exact v_ireth h R1 rfl dX10_window_78
    have h := if_f h c3
    have q0 := lv_neT c0 (show (0 : Int32).toInt = 0 by decide)
    have q1 := lv_neT c1 (show (1 : Int32).toInt = 1 by decide)
    have q2 := lv_neT c2 (show (2 : Int32).toInt = 2 by decide)
    have q3 := lv_neT c3 (show (3 : Int32).toInt = 3 by decide)
    refine v_tswO 79 C dX10_window_11 (by omega) (by decide) ?_
    refine v_iconst C dX10_window_79 ic_m1 ?_
    exact v_ireth h R1 rfl dX10_window_80
  · have h := if_t h c
    refine v_iconst C dX10_window_8 ic_m1 ?_
    exact v_ireth h R1 rfl dX10_window_9
set_option maxRecDepth 4000 in
theorem t_X11_window {x1 x2 s fin : _} {r : Int32} (h : f_X11_window x1 x2 s = some (r, fin)) : Ct yX11_window cX11_window 3 (some .int) 2 43 (fun w => [.ref (wA w 74), .int x1, .int x2]) s (some (.int r)) fin := by
  refine Ct.ofI (by decide +kernel) (fun w => Nat.le_of_ble_eq_true rfl) (fun X C R1 => ?_)
  show V X s 0 [(0, .ref (wA (xw X) 74)), (1, .int x1), (2, .int x2)] []
  have C : Cx X "LitWindowsModel" cX11_window 3 2 43 := C
  refine v_aload_n 0 C dX11_window_0 rfl ?_
  refine v_iload_n 1 C dX11_window_1 rfl ?_
  obtain ⟨r_2, s_2, e_2, h⟩ := bd_some h
  refine v_callVi [] C (t_X11_isWindow e_2) mw_X11_isWindow (at_74 _ _) rfl wm_RX11_230 ⟨by decide, by decide⟩ rfl (Nat.le_of_ble_eq_true rfl) rfl dX11_window_2 ?_
  refine v_if_ne 10 C dX11_window_5 (by decide) (fun c => ?_) (fun c => ?_)
  · have h := if_f h c
    refine v_iload_n 2 C dX11_window_10 rfl ?_
    refine v_if_ne 23 C dX11_window_11 (by decide) (fun c => ?_) (fun c => ?_)
    · have h := if_f h c
      refine v_iload_n 2 C dX11_window_23 rfl ?_
      refine v_iconst C dX11_window_24 ic_1 ?_
      refine v_icmp_ne 37 C dX11_window_25 (by decide) (fun c => ?_) (fun c => ?_)
      · have h := if_f h c
        refine v_iload_n 2 C dX11_window_37 rfl ?_
        refine v_iconst C dX11_window_38 ic_2 ?_
        refine v_icmp_ne 51 C dX11_window_39 (by decide) (fun c => ?_) (fun c => ?_)
        · have h := if_f h c
          refine v_iload_n 2 C dX11_window_51 rfl ?_
          refine v_iconst C dX11_window_52 ic_3 ?_
          refine v_icmp_ne 65 C dX11_window_53 (by decide) (fun c => ?_) (fun c => ?_)
          · have h := if_f h c
            refine v_iconst C dX11_window_65 ic_m1 ?_
            exact v_ireth h R1 rfl dX11_window_66
          · have h := if_t h c
            refine v_aload_n 0 C dX11_window_56 rfl ?_
            refine g_74_28 C wf_RX11_61 dX11_window_57 ?_
            refine v_iload_n 1 C dX11_window_60 rfl ?_
            obtain ⟨hi, h⟩ := gi_some h
            refine ald_91 C hi dX11_window_61 ?_
            refine v_goto 66 C dX11_window_62 (by decide) ?_
            exact v_ireth h R1 rfl dX11_window_66
        · have h := if_t h c
          refine v_aload_n 0 C dX11_window_42 rfl ?_
          refine g_74_27 C wf_RX11_58 dX11_window_43 ?_
          refine v_iload_n 1 C dX11_window_46 rfl ?_
          obtain ⟨hi, h⟩ := gi_some h
          refine ald_90 C hi dX11_window_47 ?_
          refine v_goto 66 C dX11_window_48 (by decide) ?_
          exact v_ireth h R1 rfl dX11_window_66
      · have h := if_t h c
        refine v_aload_n 0 C dX11_window_28 rfl ?_
        refine g_74_26 C wf_RX11_55 dX11_window_29 ?_
        refine v_iload_n 1 C dX11_window_32 rfl ?_
        obtain ⟨hi, h⟩ := gi_some h
        refine ald_89 C hi dX11_window_33 ?_
        refine v_goto 66 C dX11_window_34 (by decide) ?_
        exact v_ireth h R1 rfl dX11_window_66
    · have h := if_t h c
      refine v_aload_n 0 C dX11_window_14 rfl ?_
      refine g_74_25 C wf_RX11_52 dX11_window_15 ?_
      refine v_iload_n 1 C dX11_window_18 rfl ?_
      obtain ⟨hi, h⟩ := gi_some h
      refine ald_88 C hi dX11_window_19 ?_
      refine v_goto 66 C dX11_window_20 (by decide) ?_
      exact v_ireth h R1 rfl dX11_window_66
  · have h := if_t h c
    refine v_iconst C dX11_window_8 ic_m1 ?_
    exact v_ireth h R1 rfl dX11_window_9
set_option maxRecDepth 4000 in
theorem t_X10_hasPlant { s fin : _} {r : Int32} (h : f_X10_hasPlant  s = some (r, fin)) : Ct yX10_hasPlant cX10_hasPlant 1 (some .boolean) 0 0 (fun w => [.ref (wA w 0)]) s (some (.int r)) fin := by
  refine Ct.ofI (by decide +kernel) (fun w => Nat.le_of_ble_eq_true rfl) (fun X C R1 => ?_)
  show V X s 0 [(0, .ref (wA (xw X) 0))] []
  have C : Cx X "LitWindows" cX10_hasPlant 1 0 0 := C
  refine v_aload_n 0 C dX10_hasPlant_0 rfl ?_
  refine g_0_2 C wf_RX10_28 dX10_hasPlant_1 ?_
  refine g_8_0 C wf_RX10_113 dX10_hasPlant_4 ?_
  refine v_if_le 14 C dX10_hasPlant_7 (by decide) (fun c => ?_) (fun c => ?_)
  · have h := if_t h c
    refine v_iconst C dX10_hasPlant_14 ic_0 ?_
    exact v_ireth h R1 rfl dX10_hasPlant_15
  · have h := if_f h c
    refine v_iconst C dX10_hasPlant_10 ic_1 ?_
    refine v_goto 15 C dX10_hasPlant_11 (by decide) ?_
    exact v_ireth h R1 rfl dX10_hasPlant_15
set_option maxRecDepth 4000 in
theorem t_X10_isHeap {x1 s fin : _} {r : Int32} (h : f_X10_isHeap x1 s = some (r, fin)) : Ct yX10_isHeap cX10_isHeap 2 (some .boolean) 1 20 (fun w => [.ref (wA w 0), .int x1]) s (some (.int r)) fin := by
  refine Ct.ofI (by decide +kernel) (fun w => Nat.le_of_ble_eq_true rfl) (fun X C R1 => ?_)
  show V X s 0 [(0, .ref (wA (xw X) 0)), (1, .int x1)] []
  have C : Cx X "LitWindows" cX10_isHeap 2 1 20 := C
  refine v_aload_n 0 C dX10_isHeap_0 rfl ?_
  obtain ⟨r_1, s_1, e_1, h⟩ := bd_some h
  refine v_callVi [] C (t_X10_hasPlant e_1) mw_X10_hasPlant (at_0 _ _) rfl wm_RX10_181 ⟨by decide, by decide⟩ rfl (Nat.le_of_ble_eq_true rfl) rfl dX10_isHeap_1 ?_
  refine v_if_eq 28 C dX10_isHeap_4 (by decide) (fun c => ?_) (fun c => ?_)
  · have h := if_t h c
    refine v_iconst C dX10_isHeap_28 ic_0 ?_
    exact v_ireth h R1 rfl dX10_isHeap_29
  · have h := if_f h c
    refine v_iload_n 1 C dX10_isHeap_7 rfl ?_
    refine v_if_lt 28 C dX10_isHeap_8 (by decide) (fun c => ?_) (fun c => ?_)
    · have h := if_t h c
      refine v_iconst C dX10_isHeap_28 ic_0 ?_
      exact v_ireth h R1 rfl dX10_isHeap_29
    · have h := if_f h c
      refine v_iload_n 1 C dX10_isHeap_11 rfl ?_
      refine v_iconst C dX10_isHeap_12 ic_1 ?_
      refine v_aload_n 0 C dX10_isHeap_13 rfl ?_
      refine g_0_2 C wf_RX10_28 dX10_isHeap_14 ?_
      refine g_8_0 C wf_RX10_113 dX10_isHeap_17 ?_
      refine v_ishl C dX10_isHeap_20 ?_
      refine v_icmp_ge 28 C dX10_isHeap_21 (by decide) (fun c => ?_) (fun c => ?_)
      · have h := if_t h c
        refine v_iconst C dX10_isHeap_28 ic_0 ?_
        exact v_ireth h R1 rfl dX10_isHeap_29
      · have h := if_f h c
        refine v_iconst C dX10_isHeap_24 ic_1 ?_
        refine v_goto 29 C dX10_isHeap_25 (by decide) ?_
        exact v_ireth h R1 rfl dX10_isHeap_29
set_option maxRecDepth 4000 in
theorem t_X10_isPoint {x1 s fin : _} {r : Int32} (h : f_X10_isPoint x1 s = some (r, fin)) : Ct yX10_isPoint cX10_isPoint 2 (some .boolean) 0 0 (fun w => [.ref (wA w 0), .int x1]) s (some (.int r)) fin := by
  refine Ct.ofI (by decide +kernel) (fun w => Nat.le_of_ble_eq_true rfl) (fun X C R1 => ?_)
  show V X s 0 [(0, .ref (wA (xw X) 0)), (1, .int x1)] []
  have C : Cx X "LitWindows" cX10_isPoint 2 0 0 := C
  refine v_iload_n 1 C dX10_isPoint_0 rfl ?_
  refine v_if_lt 19 C dX10_isPoint_1 (by decide) (fun c => ?_) (fun c => ?_)
  · have h := if_t h c
    refine v_iconst C dX10_isPoint_19 ic_0 ?_
    exact v_ireth h R1 rfl dX10_isPoint_20
  · have h := if_f h c
    refine v_iload_n 1 C dX10_isPoint_4 rfl ?_
    refine v_aload_n 0 C dX10_isPoint_5 rfl ?_
    refine g_0_2 C wf_RX10_28 dX10_isPoint_6 ?_
    refine g_8_0 C wf_RX10_113 dX10_isPoint_9 ?_
    refine v_icmp_ge 19 C dX10_isPoint_12 (by decide) (fun c => ?_) (fun c => ?_)
    · have h := if_t h c
      refine v_iconst C dX10_isPoint_19 ic_0 ?_
      exact v_ireth h R1 rfl dX10_isPoint_20
    · have h := if_f h c
      refine v_iconst C dX10_isPoint_15 ic_1 ?_
      refine v_goto 20 C dX10_isPoint_16 (by decide) ?_
      exact v_ireth h R1 rfl dX10_isPoint_20
set_option maxRecDepth 4000 in
theorem tl_J7_fill_53178_30_5  {X : CX} {fin : St} (C : Cx X "java/util/Arrays" cJ7_fill_53178 4 0 0) (R1 : RtV X cJ7_fill_53178 fin)  : ∀ (n : Nat) (x1 : Int32) (x2 : Int32) (x3 : Int32) (s : St), l_J7_fill_53178_30_5  n x1 x2 x3 s = some ((), fin) → V X s 5 [(0, .ref (wA (xw X) 30)), (1, .int x1), (2, .int x2), (3, .int x3)] [] := by
  intro n
  induction n with
  | zero => intro x1 x2 x3 s h; exact none_no h
  | succ n hr5 =>
    intro x1 x2 x3 s h
    have h : b_J7_fill_53178_30_5  (l_J7_fill_53178_30_5  n) x1 x2 x3 s = some ((), fin) := h
    refine v_iload_n 2 C dJ7_fill_53178_5 rfl ?_
    refine v_iload_n 3 C dJ7_fill_53178_6 rfl ?_
    refine v_icmp_ge 20 C dJ7_fill_53178_7 (by decide) (fun c => ?_) (fun c => ?_)
    · have h := if_t h c
      exact v_vreth h R1 dJ7_fill_53178_20
    · have h := if_f h c
      refine v_aload_n 0 C dJ7_fill_53178_10 rfl ?_
      refine v_iload_n 2 C dJ7_fill_53178_11 rfl ?_
      refine v_iload_n 1 C dJ7_fill_53178_12 rfl ?_
      obtain ⟨hi, h⟩ := gi_some h
      refine ast_30 C hi dJ7_fill_53178_13 ?_
      refine v_iinc (L1 := [(0, _), (1, _), (2, _), (3, _)]) 2 [1, 2, 0, 3] C dJ7_fill_53178_14 rfl ic_1 (by decide) rfl ?_
      refine v_goto 5 C dJ7_fill_53178_17 (by decide) ?_
      exact hr5 _ _ _ _ h
set_option maxRecDepth 4000 in
theorem t_J7_fill_53178_30 {x1 s fin : _} (h : f_J7_fill_53178_30 x1 s = some ((), fin)) : Ct yJ7_fill_53178 cJ7_fill_53178 4 none 0 0 (fun w => [.ref (wA w 30), .int x1]) s none fin := by
  refine Ct.ofV (by decide +kernel) (fun w => Nat.le_of_ble_eq_true rfl) (fun X C R1 => ?_)
  show V X s 0 [(0, .ref (wA (xw X) 30)), (1, .int x1)] []
  have C : Cx X "java/util/Arrays" cJ7_fill_53178 4 0 0 := C
  refine v_iconst C dJ7_fill_53178_0 ic_0 ?_
  refine v_istore_n (L1 := [(0, _), (1, _), (2, _)]) [1, 2, 0] C dJ7_fill_53178_1 (by decide) rfl ?_
  refine v_aload_n 0 C dJ7_fill_53178_2 rfl ?_
  refine len_30 C dJ7_fill_53178_3 ?_
  refine v_istore_n (L1 := [(0, _), (1, _), (2, _), (3, _)]) [1, 2, 3, 0] C dJ7_fill_53178_4 (by decide) rfl ?_
  exact tl_J7_fill_53178_30_5 C R1  FU _ _ _ _ h
set_option maxRecDepth 4000 in
theorem tl_J7_fill_53178_31_5  {X : CX} {fin : St} (C : Cx X "java/util/Arrays" cJ7_fill_53178 4 0 0) (R1 : RtV X cJ7_fill_53178 fin)  : ∀ (n : Nat) (x1 : Int32) (x2 : Int32) (x3 : Int32) (s : St), l_J7_fill_53178_31_5  n x1 x2 x3 s = some ((), fin) → V X s 5 [(0, .ref (wA (xw X) 31)), (1, .int x1), (2, .int x2), (3, .int x3)] [] := by
  intro n
  induction n with
  | zero => intro x1 x2 x3 s h; exact none_no h
  | succ n hr5 =>
    intro x1 x2 x3 s h
    have h : b_J7_fill_53178_31_5  (l_J7_fill_53178_31_5  n) x1 x2 x3 s = some ((), fin) := h
    refine v_iload_n 2 C dJ7_fill_53178_5 rfl ?_
    refine v_iload_n 3 C dJ7_fill_53178_6 rfl ?_
    refine v_icmp_ge 20 C dJ7_fill_53178_7 (by decide) (fun c => ?_) (fun c => ?_)
    · have h := if_t h c
      exact v_vreth h R1 dJ7_fill_53178_20
    · have h := if_f h c
      refine v_aload_n 0 C dJ7_fill_53178_10 rfl ?_
      refine v_iload_n 2 C dJ7_fill_53178_11 rfl ?_
      refine v_iload_n 1 C dJ7_fill_53178_12 rfl ?_
      obtain ⟨hi, h⟩ := gi_some h
      refine ast_31 C hi dJ7_fill_53178_13 ?_
      refine v_iinc (L1 := [(0, _), (1, _), (2, _), (3, _)]) 2 [1, 2, 0, 3] C dJ7_fill_53178_14 rfl ic_1 (by decide) rfl ?_
      refine v_goto 5 C dJ7_fill_53178_17 (by decide) ?_
      exact hr5 _ _ _ _ h
set_option maxRecDepth 4000 in
theorem t_J7_fill_53178_31 {x1 s fin : _} (h : f_J7_fill_53178_31 x1 s = some ((), fin)) : Ct yJ7_fill_53178 cJ7_fill_53178 4 none 0 0 (fun w => [.ref (wA w 31), .int x1]) s none fin := by
  refine Ct.ofV (by decide +kernel) (fun w => Nat.le_of_ble_eq_true rfl) (fun X C R1 => ?_)
  show V X s 0 [(0, .ref (wA (xw X) 31)), (1, .int x1)] []
  have C : Cx X "java/util/Arrays" cJ7_fill_53178 4 0 0 := C
  refine v_iconst C dJ7_fill_53178_0 ic_0 ?_
  refine v_istore_n (L1 := [(0, _), (1, _), (2, _)]) [1, 2, 0] C dJ7_fill_53178_1 (by decide) rfl ?_
  refine v_aload_n 0 C dJ7_fill_53178_2 rfl ?_
  refine len_31 C dJ7_fill_53178_3 ?_
  refine v_istore_n (L1 := [(0, _), (1, _), (2, _), (3, _)]) [1, 2, 3, 0] C dJ7_fill_53178_4 (by decide) rfl ?_
  exact tl_J7_fill_53178_31_5 C R1  FU _ _ _ _ h
set_option maxRecDepth 4000 in
theorem tl_X7_gather_19  {X : CX} {fin : St} (C : Cx X "LitWindows$Spread" cX7_gather 4 1 32) (R1 : RtV X cX7_gather fin)  : ∀ (n : Nat) (x1 : Int32) (s : St), l_X7_gather_19  n x1 s = some ((), fin) → V X s 19 [(0, .ref (wA (xw X) 28)), (1, .int x1)] [] := by
  intro n
  induction n with
  | zero => intro x1 s h; exact none_no h
  | succ n hr19 =>
    intro x1 s h
    have h : b_X7_gather_19  (l_X7_gather_19  n) x1 s = some ((), fin) := h
    refine v_iload_n 1 C dX7_gather_19 rfl ?_
    refine v_aload_n 0 C dX7_gather_20 rfl ?_
    refine g_28_0 C wf_RX7_21 dX7_gather_21 ?_
    refine g_8_1 C wf_RX7_49 dX7_gather_24 ?_
    refine v_icmp_ge 108 C dX7_gather_27 (by decide) (fun c => ?_) (fun c => ?_)
    · have h := if_t h c
      exact v_vreth h R1 dX7_gather_108
    · have h := if_f h c
      refine v_aload_n 0 C dX7_gather_30 rfl ?_
      refine g_28_0 C wf_RX7_21 dX7_gather_31 ?_
      refine g_8_6 C wf_RX7_52 dX7_gather_34 ?_
      refine v_iload_n 1 C dX7_gather_37 rfl ?_
      obtain ⟨hi, h⟩ := gi_some h
      refine ald_11 C hi dX7_gather_38 ?_
      refine v_istore_n (L1 := [(0, _), (1, _), (2, _)]) [1, 2, 0] C dX7_gather_39 (by decide) rfl ?_
      refine v_aload_n 0 C dX7_gather_40 rfl ?_
      refine g_28_1 C wf_RX7_9 dX7_gather_41 ?_
      refine v_aload_n 0 C dX7_gather_44 rfl ?_
      refine g_28_0 C wf_RX7_21 dX7_gather_45 ?_
      refine g_8_5 C wf_RX7_55 dX7_gather_48 ?_
      refine v_iload_n 1 C dX7_gather_51 rfl ?_
      obtain ⟨hi, h⟩ := gi_some h
      refine ald_10 C hi dX7_gather_52 ?_
      obtain ⟨hi, h⟩ := gi_some h
      refine ald_29 C hi dX7_gather_53 ?_
      refine v_aload_n 0 C dX7_gather_54 rfl ?_
      refine g_28_0 C wf_RX7_21 dX7_gather_55 ?_
      refine g_8_7 C wf_RX7_58 dX7_gather_58 ?_
      refine v_iload_n 1 C dX7_gather_61 rfl ?_
      obtain ⟨hi, h⟩ := gi_some h
      refine ald_12 C hi dX7_gather_62 ?_
      refine v_iadd C dX7_gather_63 ?_
      refine v_ldc C wc_RX7_35 dX7_gather_64 ?_
      refine v_jmin C wm_RX7_61 (by decide) (Nat.le_of_ble_eq_true rfl) dX7_gather_66 ?_
      refine v_istore_n (L1 := [(0, _), (1, _), (2, _), (3, _)]) [1, 2, 3, 0] C dX7_gather_69 (by decide) rfl ?_
      refine v_aload_n 0 C dX7_gather_70 rfl ?_
      refine g_28_2 C wf_RX7_15 dX7_gather_71 ?_
      refine v_iload_n 2 C dX7_gather_74 rfl ?_
      refine v_aload_n 0 C dX7_gather_75 rfl ?_
      refine g_28_2 C wf_RX7_15 dX7_gather_76 ?_
      refine v_iload_n 2 C dX7_gather_79 rfl ?_
      obtain ⟨hi, h⟩ := gi_some h
      refine ald_30 C hi dX7_gather_80 ?_
      refine v_iload_n 3 C dX7_gather_81 rfl ?_
      refine v_jmin C wm_RX7_61 (by decide) (Nat.le_of_ble_eq_true rfl) dX7_gather_82 ?_
      obtain ⟨hi, h⟩ := gi_some h
      refine ast_30 C hi dX7_gather_85 ?_
      refine v_aload_n 0 C dX7_gather_86 rfl ?_
      refine g_28_3 C wf_RX7_18 dX7_gather_87 ?_
      refine v_iload_n 2 C dX7_gather_90 rfl ?_
      refine v_aload_n 0 C dX7_gather_91 rfl ?_
      refine g_28_3 C wf_RX7_18 dX7_gather_92 ?_
      refine v_iload_n 2 C dX7_gather_95 rfl ?_
      obtain ⟨hi, h⟩ := gi_some h
      refine ald_31 C hi dX7_gather_96 ?_
      refine v_iload_n 3 C dX7_gather_97 rfl ?_
      refine v_jmax C wm_RX7_67 (by decide) (Nat.le_of_ble_eq_true rfl) dX7_gather_98 ?_
      obtain ⟨hi, h⟩ := gi_some h
      refine ast_31 C hi dX7_gather_101 ?_
      refine v_iinc (L1 := [(0, _), (1, _), (2, _), (3, _)]) 1 [1, 0, 2, 3] C dX7_gather_102 rfl ic_1 (by decide) rfl ?_
      refine v_goto 19 C dX7_gather_105 (by decide) ?_
      refine v_sub [0, 1] (L1 := [(0, _), (1, _)]) rfl ?_
      exact hr19 _ _ h
set_option maxRecDepth 4000 in
theorem t_X7_gather { s fin : _} (h : f_X7_gather  s = some ((), fin)) : Ct yX7_gather cX7_gather 4 none 1 32 (fun w => [.ref (wA w 28)]) s none fin := by
  refine Ct.ofV (by decide +kernel) (fun w => Nat.le_of_ble_eq_true rfl) (fun X C R1 => ?_)
  show V X s 0 [(0, .ref (wA (xw X) 28))] []
  have C : Cx X "LitWindows$Spread" cX7_gather 4 1 32 := C
  refine v_aload_n 0 C dX7_gather_0 rfl ?_
  refine g_28_2 C wf_RX7_15 dX7_gather_1 ?_
  refine v_ldc C wc_RX7_35 dX7_gather_4 ?_
  obtain ⟨r_6, s_6, e_6, h⟩ := bd_some h
  refine v_callSv [] C (t_J7_fill_53178_30 e_6) mw_J7_fill_53178 wm_RX7_43 ⟨by decide, by decide⟩ rfl (Nat.le_of_ble_eq_true rfl) rfl dX7_gather_6 ?_
  refine v_aload_n 0 C dX7_gather_9 rfl ?_
  refine g_28_3 C wf_RX7_18 dX7_gather_10 ?_
  refine v_iconst C dX7_gather_13 ic_m1 ?_
  obtain ⟨r_14, s_14, e_14, h⟩ := bd_some h
  refine v_callSv [] C (t_J7_fill_53178_31 e_14) mw_J7_fill_53178 wm_RX7_43 ⟨by decide, by decide⟩ rfl (Nat.le_of_ble_eq_true rfl) rfl dX7_gather_14 ?_
  refine v_iconst C dX7_gather_17 ic_0 ?_
  refine v_istore_n (L1 := [(0, _), (1, _)]) [1, 0] C dX7_gather_18 (by decide) rfl ?_
  exact tl_X7_gather_19 C R1  FU _ _ h
set_option maxRecDepth 4000 in
theorem tj_X7_settle_62 {rec4 : Int32 → Int32 → St → Option (Int32 × St)} {X : CX} {r : Int32} {fin : St} (C : Cx X "LitWindows$Spread" cX7_settle 5 0 0) (R1 : RtI X cX7_settle .boolean r fin) (hr4 : ∀ (x1 : Int32) (x2 : Int32) (s : St), rec4 x1 x2 s = some (r, fin) → V X s 4 [(0, .ref (wA (xw X) 28)), (1, .int x1), (2, .int x2)] []) {x1 x2 t0 s : _} (h : j_X7_settle_62 rec4 x1 x2 t0 s = some (r, fin)) : V X s 62 [(0, .ref (wA (xw X) 28)), (1, .int x1), (2, .int x2)] [.int t0] := by
  refine v_istore (L1 := [(0, _), (1, _), (2, _), (4, _)]) [1, 2, 3, 0] C dX7_settle_62 (by decide) rfl ?_
  refine v_iload 3 C dX7_settle_64 rfl ?_
  refine v_aload_n 0 C dX7_settle_66 rfl ?_
  refine g_28_1 C wf_RX7_9 dX7_settle_67 ?_
  refine v_iload_n 2 C dX7_settle_70 rfl ?_
  obtain ⟨hi, h⟩ := gi_some h
  refine ald_29 C hi dX7_settle_71 ?_
  refine v_icmp_ge 85 C dX7_settle_72 (by decide) (fun c => ?_) (fun c => ?_)
  · have h := if_t h c
    refine v_iinc (L1 := [(0, _), (1, _), (2, _), (4, _)]) 2 [1, 2, 0, 3] C dX7_settle_85 rfl ic_1 (by decide) rfl ?_
    refine v_goto 4 C dX7_settle_88 (by decide) ?_
    refine v_sub [0, 1, 2] (L1 := [(0, _), (1, _), (2, _)]) rfl ?_
    exact hr4 _ _ _ h
  · have h := if_f h c
    refine v_aload_n 0 C dX7_settle_75 rfl ?_
    refine g_28_1 C wf_RX7_9 dX7_settle_76 ?_
    refine v_iload_n 2 C dX7_settle_79 rfl ?_
    refine v_iload 3 C dX7_settle_80 rfl ?_
    obtain ⟨hi, h⟩ := gi_some h
    refine ast_29 C hi dX7_settle_82 ?_
    refine v_iconst C dX7_settle_83 ic_1 ?_
    refine v_istore_n (L1 := [(0, _), (1, _), (2, _), (4, _)]) [1, 0, 2, 3] C dX7_settle_84 (by decide) rfl ?_
    refine v_iinc (L1 := [(0, _), (1, _), (2, _), (4, _)]) 2 [1, 2, 0, 3] C dX7_settle_85 rfl ic_1 (by decide) rfl ?_
    refine v_goto 4 C dX7_settle_88 (by decide) ?_
    refine v_sub [0, 1, 2] (L1 := [(0, _), (1, _), (2, _)]) rfl ?_
    exact hr4 _ _ _ h
set_option maxRecDepth 4000 in
theorem tj_X7_settle_42 {rec4 : Int32 → Int32 → St → Option (Int32 × St)} {X : CX} {r : Int32} {fin : St} (C : Cx X "LitWindows$Spread" cX7_settle 5 0 0) (R1 : RtI X cX7_settle .boolean r fin) (hr4 : ∀ (x1 : Int32) (x2 : Int32) (s : St), rec4 x1 x2 s = some (r, fin) → V X s 4 [(0, .ref (wA (xw X) 28)), (1, .int x1), (2, .int x2)] []) {x1 x2 t0 s : _} (h : j_X7_settle_42 rec4 x1 x2 t0 s = some (r, fin)) : V X s 42 [(0, .ref (wA (xw X) 28)), (1, .int x1), (2, .int x2)] [.int t0] := by
  refine v_istore_n (L1 := [(0, _), (1, _), (2, _), (3, _)]) [1, 2, 3, 0] C dX7_settle_42 (by decide) rfl ?_
  refine v_iload_n 3 C dX7_settle_43 rfl ?_
  refine v_if_eq 56 C dX7_settle_44 (by decide) (fun c => ?_) (fun c => ?_)
  · have h := if_t h c
    refine v_aload_n 0 C dX7_settle_56 rfl ?_
    refine g_28_2 C wf_RX7_15 dX7_settle_57 ?_
    refine v_iload_n 2 C dX7_settle_60 rfl ?_
    obtain ⟨hi, h⟩ := gi_some h
    refine ald_30 C hi dX7_settle_61 ?_
    refine v_sub [0, 1, 2] (L1 := [(0, _), (1, _), (2, _)]) rfl ?_
    exact tj_X7_settle_62 C R1 hr4 h
  · have h := if_f h c
    refine v_aload_n 0 C dX7_settle_47 rfl ?_
    refine g_28_3 C wf_RX7_18 dX7_settle_48 ?_
    refine v_iload_n 2 C dX7_settle_51 rfl ?_
    obtain ⟨hi, h⟩ := gi_some h
    refine ald_31 C hi dX7_settle_52 ?_
    refine v_goto 62 C dX7_settle_53 (by decide) ?_
    refine v_sub [0, 1, 2] (L1 := [(0, _), (1, _), (2, _)]) rfl ?_
    exact tj_X7_settle_62 C R1 hr4 h
set_option maxRecDepth 4000 in
theorem tl_X7_settle_4  {X : CX} {r : Int32} {fin : St} (C : Cx X "LitWindows$Spread" cX7_settle 5 0 0) (R1 : RtI X cX7_settle .boolean r fin)  : ∀ (n : Nat) (x1 : Int32) (x2 : Int32) (s : St), l_X7_settle_4  n x1 x2 s = some (r, fin) → V X s 4 [(0, .ref (wA (xw X) 28)), (1, .int x1), (2, .int x2)] [] := by
  intro n
  induction n with
  | zero => intro x1 x2 s h; exact none_no h
  | succ n hr4 =>
    intro x1 x2 s h
    have h : b_X7_settle_4  (l_X7_settle_4  n) x1 x2 s = some (r, fin) := h
    refine v_iload_n 2 C dX7_settle_4 rfl ?_
    refine v_aload_n 0 C dX7_settle_5 rfl ?_
    refine g_28_0 C wf_RX7_21 dX7_settle_6 ?_
    refine g_8_0 C wf_RX7_25 dX7_settle_9 ?_
    refine v_icmp_ge 91 C dX7_settle_12 (by decide) (fun c => ?_) (fun c => ?_)
    · have h := if_t h c
      refine v_iload_n 1 C dX7_settle_91 rfl ?_
      obtain ⟨hb, h⟩ := gb_some h
      exact v_ireth h R1 hb dX7_settle_92
    · have h := if_f h c
      refine v_aload_n 0 C dX7_settle_15 rfl ?_
      refine g_28_0 C wf_RX7_21 dX7_settle_16 ?_
      refine g_8_4 C wf_RX7_70 dX7_settle_19 ?_
      refine v_iload_n 2 C dX7_settle_22 rfl ?_
      obtain ⟨hi, h⟩ := gi_some h
      refine ald_9 C hi dX7_settle_23 ?_
      refine v_if_eq 41 C dX7_settle_24 (by decide) (fun c => ?_) (fun c => ?_)
      · have h := if_t h c
        refine v_iconst C dX7_settle_41 ic_0 ?_
        exact tj_X7_settle_42 C R1 hr4 h
      · have h := if_f h c
        refine v_aload_n 0 C dX7_settle_27 rfl ?_
        refine g_28_3 C wf_RX7_18 dX7_settle_28 ?_
        refine v_iload_n 2 C dX7_settle_31 rfl ?_
        obtain ⟨hi, h⟩ := gi_some h
        refine ald_31 C hi dX7_settle_32 ?_
        refine v_iconst C dX7_settle_33 ic_m1 ?_
        refine v_icmp_eq 41 C dX7_settle_34 (by decide) (fun c => ?_) (fun c => ?_)
        · have h := if_t h c
          refine v_iconst C dX7_settle_41 ic_0 ?_
          exact tj_X7_settle_42 C R1 hr4 h
        · have h := if_f h c
          refine v_iconst C dX7_settle_37 ic_1 ?_
          refine v_goto 42 C dX7_settle_38 (by decide) ?_
          exact tj_X7_settle_42 C R1 hr4 h
set_option maxRecDepth 4000 in
theorem t_X7_settle { s fin : _} {r : Int32} (h : f_X7_settle  s = some (r, fin)) : Ct yX7_settle cX7_settle 5 (some .boolean) 0 0 (fun w => [.ref (wA w 28)]) s (some (.int r)) fin := by
  refine Ct.ofI (by decide +kernel) (fun w => Nat.le_of_ble_eq_true rfl) (fun X C R1 => ?_)
  show V X s 0 [(0, .ref (wA (xw X) 28))] []
  have C : Cx X "LitWindows$Spread" cX7_settle 5 0 0 := C
  refine v_iconst C dX7_settle_0 ic_0 ?_
  refine v_istore_n (L1 := [(0, _), (1, _)]) [1, 0] C dX7_settle_1 (by decide) rfl ?_
  refine v_iconst C dX7_settle_2 ic_0 ?_
  refine v_istore_n (L1 := [(0, _), (1, _), (2, _)]) [1, 2, 0] C dX7_settle_3 (by decide) rfl ?_
  exact tl_X7_settle_4 C R1  FU _ _ _ h
