set_option maxRecDepth 4000 in
theorem tj_X11_log_31  {X : CX} {r : Int32} {fin : St} (C : Cx X "LitWindowsModel" cX11_log 3 2 43) (R1 : RtI X cX11_log .int r fin)  {x1 x2 t0 t1 s : _} (h : j_X11_log_31  x1 x2 t0 t1 s = some (r, fin)) : V X s 31 [(0, .ref (wA (xw X) 74)), (1, .int x1), (2, .int x2)] [.int t1, .int t0] := by
  refine v_sipush C dX11_log_31 sp_999 ?_
  obtain ⟨r_34, s_34, e_34, h⟩ := bd_some h
  refine v_callSi [] C (t_X11_in e_34) mw_X11_in wm_RX11_98 ⟨by decide, by decide⟩ rfl (Nat.le_of_ble_eq_true rfl) rfl dX11_log_34 ?_
  refine v_if_eq 49 C dX11_log_37 (by decide) (fun c => ?_) (fun c => ?_)
  · have h := if_t h c
    refine v_iconst C dX11_log_49 ic_m1 ?_
    exact v_ireth h R1 rfl dX11_log_50
  · have h := if_f h c
    refine v_aload_n 0 C dX11_log_40 rfl ?_
    refine g_74_32 C wf_RX11_227 dX11_log_41 ?_
    refine v_bipush C dX11_log_44 bp_60 ?_
    refine v_icmp_ne 51 C dX11_log_46 (by decide) (fun c => ?_) (fun c => ?_)
    · have h := if_f h c
      refine v_aload_n 0 C dX11_log_51 rfl ?_
      refine g_74_33 C wf_RX11_70 dX11_log_52 ?_
      refine v_aload_n 0 C dX11_log_55 rfl ?_
      refine g_74_32 C wf_RX11_227 dX11_log_56 ?_
      refine v_iload_n 1 C dX11_log_59 rfl ?_
      obtain ⟨hi, h⟩ := gi_some h
      refine ast_94 C hi dX11_log_60 ?_
      refine v_aload_n 0 C dX11_log_61 rfl ?_
      refine g_74_34 C wf_RX11_73 dX11_log_62 ?_
      refine v_aload_n 0 C dX11_log_65 rfl ?_
      refine g_74_32 C wf_RX11_227 dX11_log_66 ?_
      refine v_iload_n 2 C dX11_log_69 rfl ?_
      obtain ⟨hi, h⟩ := gi_some h
      refine ast_95 C hi dX11_log_70 ?_
      refine v_aload_n 0 C dX11_log_71 rfl ?_
      refine v_dupr C dX11_log_72 ?_
      refine g_74_32 C wf_RX11_227 dX11_log_73 ?_
      refine v_iconst C dX11_log_76 ic_1 ?_
      refine v_iadd C dX11_log_77 ?_
      refine p_74_32 C wf_RX11_227 dX11_log_78 ?_
      refine v_aload_n 0 C dX11_log_81 rfl ?_
      refine g_74_32 C wf_RX11_227 dX11_log_82 ?_
      exact v_ireth h R1 rfl dX11_log_85
    · have h := if_t h c
      refine v_iconst C dX11_log_49 ic_m1 ?_
      exact v_ireth h R1 rfl dX11_log_50
set_option maxRecDepth 4000 in
theorem t_X11_log {x1 x2 s fin : _} {r : Int32} (h : f_X11_log x1 x2 s = some (r, fin)) : Ct yX11_log cX11_log 3 (some .int) 2 43 (fun w => [.ref (wA w 74), .int x1, .int x2]) s (some (.int r)) fin := by
  refine Ct.ofI (by decide +kernel) (fun w => Nat.le_of_ble_eq_true rfl) (fun X C R1 => ?_)
  show V X s 0 [(0, .ref (wA (xw X) 74)), (1, .int x1), (2, .int x2)] []
  have C : Cx X "LitWindowsModel" cX11_log 3 2 43 := C
  refine v_aload_n 0 C dX11_log_0 rfl ?_
  refine v_iload_n 1 C dX11_log_1 rfl ?_
  obtain ⟨r_2, s_2, e_2, h⟩ := bd_some h
  refine v_callVi [] C (t_X11_isWindow e_2) mw_X11_isWindow (at_74 _ _) rfl wm_RX11_230 ⟨by decide, by decide⟩ rfl (Nat.le_of_ble_eq_true rfl) rfl dX11_log_2 ?_
  refine v_if_eq 49 C dX11_log_5 (by decide) (fun c => ?_) (fun c => ?_)
  · have h := if_t h c
    refine v_iconst C dX11_log_49 ic_m1 ?_
    exact v_ireth h R1 rfl dX11_log_50
  · have h := if_f h c
    refine v_iload_n 2 C dX11_log_8 rfl ?_
    refine v_aload_n 0 C dX11_log_9 rfl ?_
    refine g_74_32 C wf_RX11_227 dX11_log_10 ?_
    refine v_if_ne 20 C dX11_log_13 (by decide) (fun c => ?_) (fun c => ?_)
    · have h := if_f h c
      refine v_aload_n 0 C dX11_log_20 rfl ?_
      refine g_74_34 C wf_RX11_73 dX11_log_21 ?_
      refine v_aload_n 0 C dX11_log_24 rfl ?_
      refine g_74_32 C wf_RX11_227 dX11_log_25 ?_
      refine v_iconst C dX11_log_28 ic_1 ?_
      refine v_isub C dX11_log_29 ?_
      obtain ⟨hi, h⟩ := gi_some h
      refine ald_95 C hi dX11_log_30 ?_
      exact tj_X11_log_31 C R1  h
    · have h := if_t h c
      refine v_iconst C dX11_log_16 ic_0 ?_
      refine v_goto 31 C dX11_log_17 (by decide) ?_
      exact tj_X11_log_31 C R1  h
set_option maxRecDepth 4000 in
theorem t_X10_erase { s fin : _} {r : Int32} (h : f_X10_erase  s = some (r, fin)) : Ct yX10_erase cX10_erase 2 (some .int) 0 0 (fun w => [.ref (wA w 0)]) s (some (.int r)) fin := by
  refine Ct.ofI (by decide +kernel) (fun w => Nat.le_of_ble_eq_true rfl) (fun X C R1 => ?_)
  show V X s 0 [(0, .ref (wA (xw X) 0))] []
  have C : Cx X "LitWindows" cX10_erase 2 0 0 := C
  unfold f_X10_erase at h
  refine v_aload_n 0 C dX10_erase_0 rfl ?_
  refine g_0_6 C wf_RX10_56 dX10_erase_1 ?_
  refine g_35_2 C wf_RX10_110 dX10_erase_4 ?_
  refine v_istore_n (L1 := [(0, _), (1, _)]) [1, 0] C dX10_erase_7 (by decide) rfl ?_
  refine v_aload_n 0 C dX10_erase_8 rfl ?_
  refine g_0_6 C wf_RX10_56 dX10_erase_9 ?_
  refine v_iconst C dX10_erase_12 ic_0 ?_
  refine p_35_2 C wf_RX10_110 dX10_erase_13 ?_
  refine v_iload_n 1 C dX10_erase_16 rfl ?_
  exact v_ireth h R1 rfl dX10_erase_17
set_option maxRecDepth 4000 in
theorem t_X11_erase { s fin : _} {r : Int32} (h : f_X11_erase  s = some (r, fin)) : Ct yX11_erase cX11_erase 2 (some .int) 0 0 (fun w => [.ref (wA w 74)]) s (some (.int r)) fin := by
  refine Ct.ofI (by decide +kernel) (fun w => Nat.le_of_ble_eq_true rfl) (fun X C R1 => ?_)
  show V X s 0 [(0, .ref (wA (xw X) 74))] []
  have C : Cx X "LitWindowsModel" cX11_erase 2 0 0 := C
  unfold f_X11_erase at h
  refine v_aload_n 0 C dX11_erase_0 rfl ?_
  refine g_74_32 C wf_RX11_227 dX11_erase_1 ?_
  refine v_istore_n (L1 := [(0, _), (1, _)]) [1, 0] C dX11_erase_4 (by decide) rfl ?_
  refine v_aload_n 0 C dX11_erase_5 rfl ?_
  refine v_iconst C dX11_erase_6 ic_0 ?_
  refine p_74_32 C wf_RX11_227 dX11_erase_7 ?_
  refine v_iload_n 1 C dX11_erase_10 rfl ?_
  exact v_ireth h R1 rfl dX11_erase_11
set_option maxRecDepth 4000 in
theorem tl_X5_rowAhead_4  {X : CX} {r : Int32} {fin : St} (C : Cx X "LitWindows$Rows" cX5_rowAhead 3 0 0) (R1 : RtI X cX5_rowAhead .int r fin)  : ∀ (n : Nat) (x1 : Int32) (x2 : Int32) (s : St), l_X5_rowAhead_4  n x1 x2 s = some (r, fin) → V X s 4 [(0, .ref (wA (xw X) 35)), (1, .int x1), (2, .int x2)] [] := by
  intro n
  induction n with
  | zero => intro x1 x2 s h; exact none_no h
  | succ n hr4 =>
    intro x1 x2 s h
    have h : b_X5_rowAhead_4  (l_X5_rowAhead_4  n) x1 x2 s = some (r, fin) := h
    refine v_iload_n 2 C dX5_rowAhead_4 rfl ?_
    refine v_if_lt 31 C dX5_rowAhead_5 (by decide) (fun c => ?_) (fun c => ?_)
    · have h := if_t h c
      refine v_iconst C dX5_rowAhead_31 ic_m1 ?_
      exact v_ireth h R1 rfl dX5_rowAhead_32
    · have h := if_f h c
      refine v_aload_n 0 C dX5_rowAhead_8 rfl ?_
      refine g_35_0 C wf_RX5_9 dX5_rowAhead_9 ?_
      refine v_iload_n 2 C dX5_rowAhead_12 rfl ?_
      obtain ⟨hi, h⟩ := gi_some h
      refine ald_36 C hi dX5_rowAhead_13 ?_
      refine v_aload_n 0 C dX5_rowAhead_14 rfl ?_
      refine g_35_0 C wf_RX5_9 dX5_rowAhead_15 ?_
      refine v_iload_n 1 C dX5_rowAhead_18 rfl ?_
      obtain ⟨hi, h⟩ := gi_some h
      refine ald_36 C hi dX5_rowAhead_19 ?_
      refine v_icmp_ne 25 C dX5_rowAhead_20 (by decide) (fun c => ?_) (fun c => ?_)
      · have h := if_f h c
        refine v_iinc (L1 := [(0, _), (1, _), (2, _)]) 2 [1, 2, 0] C dX5_rowAhead_25 rfl ic_m1 (by decide) rfl ?_
        refine v_goto 4 C dX5_rowAhead_28 (by decide) ?_
        exact hr4 _ _ _ h
      · have h := if_t h c
        refine v_iload_n 2 C dX5_rowAhead_23 rfl ?_
        exact v_ireth h R1 rfl dX5_rowAhead_24
set_option maxRecDepth 4000 in
theorem t_X5_rowAhead {x1 s fin : _} {r : Int32} (h : f_X5_rowAhead x1 s = some (r, fin)) : Ct yX5_rowAhead cX5_rowAhead 3 (some .int) 0 0 (fun w => [.ref (wA w 35), .int x1]) s (some (.int r)) fin := by
  refine Ct.ofI (by decide +kernel) (fun w => Nat.le_of_ble_eq_true rfl) (fun X C R1 => ?_)
  show V X s 0 [(0, .ref (wA (xw X) 35)), (1, .int x1)] []
  have C : Cx X "LitWindows$Rows" cX5_rowAhead 3 0 0 := C
  unfold f_X5_rowAhead at h
  refine v_iload_n 1 C dX5_rowAhead_0 rfl ?_
  refine v_iconst C dX5_rowAhead_1 ic_1 ?_
  refine v_isub C dX5_rowAhead_2 ?_
  refine v_istore_n (L1 := [(0, _), (1, _), (2, _)]) [1, 2, 0] C dX5_rowAhead_3 (by decide) rfl ?_
  exact tl_X5_rowAhead_4 C R1  FU _ _ _ h
set_option maxRecDepth 4000 in
theorem tl_X5_countApart_4  {X : CX} {r : Int32} {fin : St} (C : Cx X "LitWindows$Rows" cX5_countApart 5 1 22) (R1 : RtI X cX5_countApart .int r fin)  : ∀ (n : Nat) (x1 : Int32) (x2 : Int32) (x3 : Int32) (s : St), l_X5_countApart_4  n x1 x2 x3 s = some (r, fin) → V X s 4 [(0, .ref (wA (xw X) 35)), (1, .int x1), (2, .int x2), (3, .int x3)] [] := by
  intro n
  induction n with
  | zero => intro x1 x2 x3 s h; exact none_no h
  | succ n hr4 =>
    intro x1 x2 x3 s h
    have h : b_X5_countApart_4  (l_X5_countApart_4  n) x1 x2 x3 s = some (r, fin) := h
    refine v_iload_n 3 C dX5_countApart_4 rfl ?_
    refine v_aload_n 0 C dX5_countApart_5 rfl ?_
    refine g_35_2 C wf_RX5_18 dX5_countApart_6 ?_
    refine v_icmp_ge 52 C dX5_countApart_9 (by decide) (fun c => ?_) (fun c => ?_)
    · have h := if_t h c
      refine v_iload_n 2 C dX5_countApart_52 rfl ?_
      exact v_ireth h R1 rfl dX5_countApart_53
    · have h := if_f h c
      refine v_aload_n 0 C dX5_countApart_12 rfl ?_
      refine v_iload_n 3 C dX5_countApart_13 rfl ?_
      obtain ⟨r_14, s_14, e_14, h⟩ := bd_some h
      refine v_callVi [] C (t_X5_rowAhead e_14) mw_X5_rowAhead (at_35 _ _) rfl wm_RX5_22 ⟨by decide, by decide⟩ rfl (Nat.le_of_ble_eq_true rfl) rfl dX5_countApart_14 ?_
      refine v_istore (L1 := [(0, _), (1, _), (2, _), (3, _), (4, _)]) [1, 2, 3, 4, 0] C dX5_countApart_17 (by decide) rfl ?_
      refine v_iload 4 C dX5_countApart_19 rfl ?_
      refine v_iconst C dX5_countApart_21 ic_m1 ?_
      refine v_icmp_eq 43 C dX5_countApart_22 (by decide) (fun c => ?_) (fun c => ?_)
      · have h := if_t h c
        refine v_iinc (L1 := [(0, _), (1, _), (2, _), (3, _), (4, _)]) 2 [1, 2, 0, 3, 4] C dX5_countApart_43 rfl ic_1 (by decide) rfl ?_
        refine v_iinc (L1 := [(0, _), (1, _), (2, _), (3, _), (4, _)]) 3 [1, 2, 3, 0, 4] C dX5_countApart_46 rfl ic_1 (by decide) rfl ?_
        refine v_goto 4 C dX5_countApart_49 (by decide) ?_
        refine v_sub [0, 1, 2, 3] (L1 := [(0, _), (1, _), (2, _), (3, _)]) rfl ?_
        exact hr4 _ _ _ _ h
      · have h := if_f h c
        refine v_aload_n 0 C dX5_countApart_25 rfl ?_
        refine g_35_1 C wf_RX5_15 dX5_countApart_26 ?_
        refine v_iload_n 3 C dX5_countApart_29 rfl ?_
        obtain ⟨hi, h⟩ := gi_some h
        refine ald_37 C hi dX5_countApart_30 ?_
        refine v_aload_n 0 C dX5_countApart_31 rfl ?_
        refine g_35_1 C wf_RX5_15 dX5_countApart_32 ?_
        refine v_iload 4 C dX5_countApart_35 rfl ?_
        obtain ⟨hi, h⟩ := gi_some h
        refine ald_37 C hi dX5_countApart_37 ?_
        refine v_isub C dX5_countApart_38 ?_
        refine v_iload_n 1 C dX5_countApart_39 rfl ?_
        refine v_icmp_lt 46 C dX5_countApart_40 (by decide) (fun c => ?_) (fun c => ?_)
        · have h := if_t h c
          refine v_iinc (L1 := [(0, _), (1, _), (2, _), (3, _), (4, _)]) 3 [1, 2, 3, 0, 4] C dX5_countApart_46 rfl ic_1 (by decide) rfl ?_
          refine v_goto 4 C dX5_countApart_49 (by decide) ?_
          refine v_sub [0, 1, 2, 3] (L1 := [(0, _), (1, _), (2, _), (3, _)]) rfl ?_
          exact hr4 _ _ _ _ h
        · have h := if_f h c
          refine v_iinc (L1 := [(0, _), (1, _), (2, _), (3, _), (4, _)]) 2 [1, 2, 0, 3, 4] C dX5_countApart_43 rfl ic_1 (by decide) rfl ?_
          refine v_iinc (L1 := [(0, _), (1, _), (2, _), (3, _), (4, _)]) 3 [1, 2, 3, 0, 4] C dX5_countApart_46 rfl ic_1 (by decide) rfl ?_
          refine v_goto 4 C dX5_countApart_49 (by decide) ?_
          refine v_sub [0, 1, 2, 3] (L1 := [(0, _), (1, _), (2, _), (3, _)]) rfl ?_
          exact hr4 _ _ _ _ h
set_option maxRecDepth 4000 in
theorem t_X5_countApart {x1 s fin : _} {r : Int32} (h : f_X5_countApart x1 s = some (r, fin)) : Ct yX5_countApart cX5_countApart 5 (some .int) 1 22 (fun w => [.ref (wA w 35), .int x1]) s (some (.int r)) fin := by
  refine Ct.ofI (by decide +kernel) (fun w => Nat.le_of_ble_eq_true rfl) (fun X C R1 => ?_)
  show V X s 0 [(0, .ref (wA (xw X) 35)), (1, .int x1)] []
  have C : Cx X "LitWindows$Rows" cX5_countApart 5 1 22 := C
  refine v_iconst C dX5_countApart_0 ic_0 ?_
  refine v_istore_n (L1 := [(0, _), (1, _), (2, _)]) [1, 2, 0] C dX5_countApart_1 (by decide) rfl ?_
  refine v_iconst C dX5_countApart_2 ic_0 ?_
  refine v_istore_n (L1 := [(0, _), (1, _), (2, _), (3, _)]) [1, 2, 3, 0] C dX5_countApart_3 (by decide) rfl ?_
  exact tl_X5_countApart_4 C R1  FU _ _ _ _ h
set_option maxRecDepth 4000 in
theorem t_X10_joined {x1 s fin : _} {r : Int32} (h : f_X10_joined x1 s = some (r, fin)) : Ct yX10_joined cX10_joined 2 (some .int) 2 46 (fun w => [.ref (wA w 0), .int x1]) s (some (.int r)) fin := by
  refine Ct.ofI (by decide +kernel) (fun w => Nat.le_of_ble_eq_true rfl) (fun X C R1 => ?_)
  show V X s 0 [(0, .ref (wA (xw X) 0)), (1, .int x1)] []
  have C : Cx X "LitWindows" cX10_joined 2 2 46 := C
  refine v_iload_n 1 C dX10_joined_0 rfl ?_
  refine v_if_lt 10 C dX10_joined_1 (by decide) (fun c => ?_) (fun c => ?_)
  · have h := if_t h c
    refine v_iconst C dX10_joined_10 ic_m1 ?_
    exact v_ireth h R1 rfl dX10_joined_11
  · have h := if_f h c
    refine v_iload_n 1 C dX10_joined_4 rfl ?_
    refine v_bipush C dX10_joined_5 bp_60 ?_
    refine v_icmp_le 12 C dX10_joined_7 (by decide) (fun c => ?_) (fun c => ?_)
    · have h := if_t h c
      refine v_aload_n 0 C dX10_joined_12 rfl ?_
      refine g_0_6 C wf_RX10_56 dX10_joined_13 ?_
      refine v_iload_n 1 C dX10_joined_16 rfl ?_
      obtain ⟨r_17, s_17, e_17, h⟩ := bd_some h
      refine v_callVi [] C (t_X5_countApart e_17) mw_X5_countApart (at_35 _ _) rfl wm_RX10_175 ⟨by decide, by decide⟩ rfl (Nat.le_of_ble_eq_true rfl) rfl dX10_joined_17 ?_
      exact v_ireth h R1 rfl dX10_joined_20
    · have h := if_f h c
      refine v_iconst C dX10_joined_10 ic_m1 ?_
      exact v_ireth h R1 rfl dX10_joined_11
set_option maxRecDepth 4000 in
theorem tj_X11_joined_56 {rec16 : Int32 → Int32 → Int32 → St → Option (Int32 × St)} {X : CX} {r : Int32} {fin : St} (C : Cx X "LitWindowsModel" cX11_joined 5 1 22) (R1 : RtI X cX11_joined .int r fin) (hr16 : ∀ (x1 : Int32) (x2 : Int32) (x3 : Int32) (s : St), rec16 x1 x2 x3 s = some (r, fin) → V X s 16 [(0, .ref (wA (xw X) 74)), (1, .int x1), (2, .int x2), (3, .int x3)] []) {x1 x2 x3 x4 s : _} (h : j_X11_joined_56 rec16 x1 x2 x3 x4 s = some (r, fin)) : V X s 56 [(0, .ref (wA (xw X) 74)), (1, .int x1), (2, .int x2), (3, .int x3), (4, .int x4)] [] := by
  refine v_iload_n 2 C dX11_joined_56 rfl ?_
  refine v_iload 4 C dX11_joined_57 rfl ?_
  refine v_if_lt 84 C dX11_joined_59 (by decide) (fun c => ?_) (fun c => ?_)
  · have h := if_t h c
    refine v_iconst C dX11_joined_84 ic_1 ?_
    refine v_iadd C dX11_joined_85 ?_
    refine v_istore_n (L1 := [(0, _), (1, _), (2, _), (3, _), (4, _)]) [1, 2, 0, 3, 4] C dX11_joined_86 (by decide) rfl ?_
    refine v_iinc (L1 := [(0, _), (1, _), (2, _), (3, _), (4, _)]) 3 [1, 2, 3, 0, 4] C dX11_joined_87 rfl ic_1 (by decide) rfl ?_
    refine v_goto 16 C dX11_joined_90 (by decide) ?_
    refine v_sub [0, 1, 2, 3] (L1 := [(0, _), (1, _), (2, _), (3, _)]) rfl ?_
    exact hr16 _ _ _ _ h
  · have h := if_f h c
    refine v_aload_n 0 C dX11_joined_62 rfl ?_
    refine g_74_34 C wf_RX11_73 dX11_joined_63 ?_
    refine v_iload_n 3 C dX11_joined_66 rfl ?_
    obtain ⟨hi, h⟩ := gi_some h
    refine ald_95 C hi dX11_joined_67 ?_
    refine v_aload_n 0 C dX11_joined_68 rfl ?_
    refine g_74_34 C wf_RX11_73 dX11_joined_69 ?_
    refine v_iload 4 C dX11_joined_72 rfl ?_
    obtain ⟨hi, h⟩ := gi_some h
    refine ald_95 C hi dX11_joined_74 ?_
    refine v_isub C dX11_joined_75 ?_
    refine v_iload_n 1 C dX11_joined_76 rfl ?_
    refine v_icmp_ge 84 C dX11_joined_77 (by decide) (fun c => ?_) (fun c => ?_)
    · have h := if_t h c
      refine v_iconst C dX11_joined_84 ic_1 ?_
      refine v_iadd C dX11_joined_85 ?_
      refine v_istore_n (L1 := [(0, _), (1, _), (2, _), (3, _), (4, _)]) [1, 2, 0, 3, 4] C dX11_joined_86 (by decide) rfl ?_
      refine v_iinc (L1 := [(0, _), (1, _), (2, _), (3, _), (4, _)]) 3 [1, 2, 3, 0, 4] C dX11_joined_87 rfl ic_1 (by decide) rfl ?_
      refine v_goto 16 C dX11_joined_90 (by decide) ?_
      refine v_sub [0, 1, 2, 3] (L1 := [(0, _), (1, _), (2, _), (3, _)]) rfl ?_
      exact hr16 _ _ _ _ h
    · have h := if_f h c
      refine v_iconst C dX11_joined_80 ic_0 ?_
      refine v_goto 85 C dX11_joined_81 (by decide) ?_
      refine v_iadd C dX11_joined_85 ?_
      refine v_istore_n (L1 := [(0, _), (1, _), (2, _), (3, _), (4, _)]) [1, 2, 0, 3, 4] C dX11_joined_86 (by decide) rfl ?_
      refine v_iinc (L1 := [(0, _), (1, _), (2, _), (3, _), (4, _)]) 3 [1, 2, 3, 0, 4] C dX11_joined_87 rfl ic_1 (by decide) rfl ?_
      refine v_goto 16 C dX11_joined_90 (by decide) ?_
      refine v_sub [0, 1, 2, 3] (L1 := [(0, _), (1, _), (2, _), (3, _)]) rfl ?_
      exact hr16 _ _ _ _ h
set_option maxRecDepth 4000 in
theorem tl_X11_joined_29 {rec16 : Int32 → Int32 → Int32 → St → Option (Int32 × St)} {X : CX} {r : Int32} {fin : St} (C : Cx X "LitWindowsModel" cX11_joined 5 1 22) (R1 : RtI X cX11_joined .int r fin) (hr16 : ∀ (x1 : Int32) (x2 : Int32) (x3 : Int32) (s : St), rec16 x1 x2 x3 s = some (r, fin) → V X s 16 [(0, .ref (wA (xw X) 74)), (1, .int x1), (2, .int x2), (3, .int x3)] []) : ∀ (n : Nat) (x1 : Int32) (x2 : Int32) (x3 : Int32) (x4 : Int32) (s : St), l_X11_joined_29 rec16 n x1 x2 x3 x4 s = some (r, fin) → V X s 29 [(0, .ref (wA (xw X) 74)), (1, .int x1), (2, .int x2), (3, .int x3), (4, .int x4)] [] := by
  intro n
  induction n with
  | zero => intro x1 x2 x3 x4 s h; exact none_no h
  | succ n hr29 =>
    intro x1 x2 x3 x4 s h
    have h : b_X11_joined_29 rec16 (l_X11_joined_29 rec16 n) x1 x2 x3 x4 s = some (r, fin) := h
    refine v_iload 4 C dX11_joined_29 rfl ?_
    refine v_if_lt 56 C dX11_joined_31 (by decide) (fun c => ?_) (fun c => ?_)
    · have h := if_t h c
      exact tj_X11_joined_56 C R1 hr16 h
    · have h := if_f h c
      refine v_aload_n 0 C dX11_joined_34 rfl ?_
      refine g_74_33 C wf_RX11_70 dX11_joined_35 ?_
      refine v_iload 4 C dX11_joined_38 rfl ?_
      obtain ⟨hi, h⟩ := gi_some h
      refine ald_94 C hi dX11_joined_40 ?_
      refine v_aload_n 0 C dX11_joined_41 rfl ?_
      refine g_74_33 C wf_RX11_70 dX11_joined_42 ?_
      refine v_iload_n 3 C dX11_joined_45 rfl ?_
      obtain ⟨hi, h⟩ := gi_some h
      refine ald_94 C hi dX11_joined_46 ?_
      refine v_icmp_eq 56 C dX11_joined_47 (by decide) (fun c => ?_) (fun c => ?_)
      · have h := if_t h c
        exact tj_X11_joined_56 C R1 hr16 h
      · have h := if_f h c
        refine v_iinc (L1 := [(0, _), (1, _), (2, _), (3, _), (4, _)]) 4 [1, 2, 3, 4, 0] C dX11_joined_50 rfl ic_m1 (by decide) rfl ?_
        refine v_goto 29 C dX11_joined_53 (by decide) ?_
        exact hr29 _ _ _ _ _ h
set_option maxRecDepth 4000 in
theorem tl_X11_joined_16  {X : CX} {r : Int32} {fin : St} (C : Cx X "LitWindowsModel" cX11_joined 5 1 22) (R1 : RtI X cX11_joined .int r fin)  : ∀ (n : Nat) (x1 : Int32) (x2 : Int32) (x3 : Int32) (s : St), l_X11_joined_16  n x1 x2 x3 s = some (r, fin) → V X s 16 [(0, .ref (wA (xw X) 74)), (1, .int x1), (2, .int x2), (3, .int x3)] [] := by
  intro n
  induction n with
  | zero => intro x1 x2 x3 s h; exact none_no h
  | succ n hr16 =>
    intro x1 x2 x3 s h
    have h : b_X11_joined_16  (l_X11_joined_16  n) x1 x2 x3 s = some (r, fin) := h
    refine v_iload_n 3 C dX11_joined_16 rfl ?_
    refine v_aload_n 0 C dX11_joined_17 rfl ?_
    refine g_74_32 C wf_RX11_227 dX11_joined_18 ?_
    refine v_icmp_ge 93 C dX11_joined_21 (by decide) (fun c => ?_) (fun c => ?_)
    · have h := if_t h c
      refine v_iload_n 2 C dX11_joined_93 rfl ?_
      exact v_ireth h R1 rfl dX11_joined_94
    · have h := if_f h c
      refine v_iload_n 3 C dX11_joined_24 rfl ?_
      refine v_iconst C dX11_joined_25 ic_1 ?_
      refine v_isub C dX11_joined_26 ?_
      refine v_istore (L1 := [(0, _), (1, _), (2, _), (3, _), (4, _)]) [1, 2, 3, 4, 0] C dX11_joined_27 (by decide) rfl ?_
      exact tl_X11_joined_29 C R1 hr16 FU _ _ _ _ _ h
set_option maxRecDepth 4000 in
theorem t_X11_joined {x1 s fin : _} {r : Int32} (h : f_X11_joined x1 s = some (r, fin)) : Ct yX11_joined cX11_joined 5 (some .int) 1 22 (fun w => [.ref (wA w 74), .int x1]) s (some (.int r)) fin := by
  refine Ct.ofI (by decide +kernel) (fun w => Nat.le_of_ble_eq_true rfl) (fun X C R1 => ?_)
  show V X s 0 [(0, .ref (wA (xw X) 74)), (1, .int x1)] []
  have C : Cx X "LitWindowsModel" cX11_joined 5 1 22 := C
  refine v_iload_n 1 C dX11_joined_0 rfl ?_
  refine v_iconst C dX11_joined_1 ic_0 ?_
  refine v_bipush C dX11_joined_2 bp_60 ?_
  obtain ⟨r_4, s_4, e_4, h⟩ := bd_some h
  refine v_callSi [] C (t_X11_in e_4) mw_X11_in wm_RX11_98 ⟨by decide, by decide⟩ rfl (Nat.le_of_ble_eq_true rfl) rfl dX11_joined_4 ?_
  refine v_if_ne 12 C dX11_joined_7 (by decide) (fun c => ?_) (fun c => ?_)
  · have h := if_f h c
    refine v_iconst C dX11_joined_12 ic_0 ?_
    refine v_istore_n (L1 := [(0, _), (1, _), (2, _)]) [1, 2, 0] C dX11_joined_13 (by decide) rfl ?_
    refine v_iconst C dX11_joined_14 ic_0 ?_
    refine v_istore_n (L1 := [(0, _), (1, _), (2, _), (3, _)]) [1, 2, 3, 0] C dX11_joined_15 (by decide) rfl ?_
    exact tl_X11_joined_16 C R1  FU _ _ _ _ h
  · have h := if_t h c
    refine v_iconst C dX11_joined_10 ic_m1 ?_
    exact v_ireth h R1 rfl dX11_joined_11
set_option maxRecDepth 4000 in
theorem t_X10_off {x1 s fin : _} {r : Int32} (h : f_X10_off x1 s = some (r, fin)) : Ct yX10_off cX10_off 2 (some .boolean) 0 0 (fun w => [.ref (wA w 0), .int x1]) s (some (.int r)) fin := by
  refine Ct.ofI (by decide +kernel) (fun w => Nat.le_of_ble_eq_true rfl) (fun X C R1 => ?_)
  show V X s 0 [(0, .ref (wA (xw X) 0)), (1, .int x1)] []
  have C : Cx X "LitWindows" cX10_off 2 0 0 := C
  refine v_iload_n 1 C dX10_off_0 rfl ?_
  refine v_if_lt 10 C dX10_off_1 (by decide) (fun c => ?_) (fun c => ?_)
  · have h := if_t h c
    refine v_iconst C dX10_off_10 ic_0 ?_
    exact v_ireth h R1 rfl dX10_off_11
  · have h := if_f h c
    refine v_iload_n 1 C dX10_off_4 rfl ?_
    refine v_bipush C dX10_off_5 bp_20 ?_
    refine v_icmp_le 12 C dX10_off_7 (by decide) (fun c => ?_) (fun c => ?_)
    · have h := if_t h c
      refine v_aload_n 0 C dX10_off_12 rfl ?_
      refine g_0_7 C wf_RX10_65 dX10_off_13 ?_
      refine v_iload_n 1 C dX10_off_16 rfl ?_
      refine p_38_6 C wf_RX10_178 dX10_off_17 ?_
      refine v_iconst C dX10_off_20 ic_1 ?_
      exact v_ireth h R1 rfl dX10_off_21
    · have h := if_f h c
      refine v_iconst C dX10_off_10 ic_0 ?_
      exact v_ireth h R1 rfl dX10_off_11
set_option maxRecDepth 4000 in
theorem t_X11_off {x1 s fin : _} {r : Int32} (h : f_X11_off x1 s = some (r, fin)) : Ct yX11_off cX11_off 2 (some .boolean) 1 22 (fun w => [.ref (wA w 74), .int x1]) s (some (.int r)) fin := by
  refine Ct.ofI (by decide +kernel) (fun w => Nat.le_of_ble_eq_true rfl) (fun X C R1 => ?_)
  show V X s 0 [(0, .ref (wA (xw X) 74)), (1, .int x1)] []
  have C : Cx X "LitWindowsModel" cX11_off 2 1 22 := C
  refine v_iload_n 1 C dX11_off_0 rfl ?_
  refine v_iconst C dX11_off_1 ic_0 ?_
  refine v_bipush C dX11_off_2 bp_20 ?_
  obtain ⟨r_4, s_4, e_4, h⟩ := bd_some h
  refine v_callSi [] C (t_X11_in e_4) mw_X11_in wm_RX11_98 ⟨by decide, by decide⟩ rfl (Nat.le_of_ble_eq_true rfl) rfl dX11_off_4 ?_
  refine v_if_ne 12 C dX11_off_7 (by decide) (fun c => ?_) (fun c => ?_)
  · have h := if_f h c
    refine v_aload_n 0 C dX11_off_12 rfl ?_
    refine v_iload_n 1 C dX11_off_13 rfl ?_
    refine p_74_35 C wf_RX11_255 dX11_off_14 ?_
    refine v_iconst C dX11_off_17 ic_1 ?_
    exact v_ireth h R1 rfl dX11_off_18
  · have h := if_t h c
    refine v_iconst C dX11_off_10 ic_0 ?_
    exact v_ireth h R1 rfl dX11_off_11
set_option maxRecDepth 4000 in
theorem tl_J7_fill_53178_39_5  {X : CX} {fin : St} (C : Cx X "java/util/Arrays" cJ7_fill_53178 4 0 0) (R1 : RtV X cJ7_fill_53178 fin)  : ∀ (n : Nat) (x1 : Int32) (x2 : Int32) (x3 : Int32) (s : St), l_J7_fill_53178_39_5  n x1 x2 x3 s = some ((), fin) → V X s 5 [(0, .ref (wA (xw X) 39)), (1, .int x1), (2, .int x2), (3, .int x3)] [] := by
  intro n
  induction n with
  | zero => intro x1 x2 x3 s h; exact none_no h
  | succ n hr5 =>
    intro x1 x2 x3 s h
    have h : b_J7_fill_53178_39_5  (l_J7_fill_53178_39_5  n) x1 x2 x3 s = some ((), fin) := h
    refine v_iload_n 2 C dJ7_fill_53178_5 rfl ?_
    refine v_iload_n 3 C dJ7_fill_53178_6 rfl ?_
    refine v_icmp_ge 20 C dJ7_fill_53178_7 (by decide) (fun c => ?_) (fun c => ?_)
    · have h := if_t h c
      exact v_vreth h R1 dJ7_fill_53178_20
    · have h := if_f h c
      refine v_aload_n 0 C dJ7_fill_53178_10 rfl ?_
      refine v_iload_n 2 C dJ7_fill_53178_11 rfl ?_
      refine v_iload_n 1 C dJ7_fill_53178_12 rfl ?_
      obtain ⟨hi, h⟩ := gi_some h
      refine ast_39 C hi dJ7_fill_53178_13 ?_
      refine v_iinc (L1 := [(0, _), (1, _), (2, _), (3, _)]) 2 [1, 2, 0, 3] C dJ7_fill_53178_14 rfl ic_1 (by decide) rfl ?_
      refine v_goto 5 C dJ7_fill_53178_17 (by decide) ?_
      exact hr5 _ _ _ _ h
set_option maxRecDepth 4000 in
theorem t_J7_fill_53178_39 {x1 s fin : _} (h : f_J7_fill_53178_39 x1 s = some ((), fin)) : Ct yJ7_fill_53178 cJ7_fill_53178 4 none 0 0 (fun w => [.ref (wA w 39), .int x1]) s none fin := by
  refine Ct.ofV (by decide +kernel) (fun w => Nat.le_of_ble_eq_true rfl) (fun X C R1 => ?_)
  show V X s 0 [(0, .ref (wA (xw X) 39)), (1, .int x1)] []
  have C : Cx X "java/util/Arrays" cJ7_fill_53178 4 0 0 := C
  refine v_iconst C dJ7_fill_53178_0 ic_0 ?_
  refine v_istore_n (L1 := [(0, _), (1, _), (2, _)]) [1, 2, 0] C dJ7_fill_53178_1 (by decide) rfl ?_
  refine v_aload_n 0 C dJ7_fill_53178_2 rfl ?_
  refine len_39 C dJ7_fill_53178_3 ?_
  refine v_istore_n (L1 := [(0, _), (1, _), (2, _), (3, _)]) [1, 2, 3, 0] C dJ7_fill_53178_4 (by decide) rfl ?_
  exact tl_J7_fill_53178_39_5 C R1  FU _ _ _ _ h
set_option maxRecDepth 4000 in
theorem tj_X1_loadRows_56 {rec15 : Int32 → Int32 → Int32 → St → Option (Unit × St)} {X : CX} {fin : St} (C : Cx X "LitWindows$Finder" cX1_loadRows 5 1 23) (R1 : RtV X cX1_loadRows fin) (hr15 : ∀ (x1 : Int32) (x2 : Int32) (x3 : Int32) (s : St), rec15 x1 x2 x3 s = some ((), fin) → V X s 15 [(0, .ref (wA (xw X) 38)), (1, .int x1), (2, .int x2), (3, .int x3)] []) {x1 x2 x3 x4 t1 s : _} (h : j_X1_loadRows_56 rec15 x1 x2 x3 x4 t1 s = some ((), fin)) : V X s 56 [(0, .ref (wA (xw X) 38)), (1, .int x1), (2, .int x2), (3, .int x3), (4, .int x4)] [.int t1, .ref (wA (xw X) 38)] := by
  unfold j_X1_loadRows_56 at h
  refine p_38_7 C wf_RX1_56 dX1_loadRows_56 ?_
  refine v_aload_n 0 C dX1_loadRows_59 rfl ?_
  refine g_38_3 C wf_RX1_9 dX1_loadRows_60 ?_
  refine v_iload 4 C dX1_loadRows_63 rfl ?_
  obtain ⟨hi, h⟩ := gi_some h
  refine ald_39 C hi dX1_loadRows_65 ?_
  refine v_iconst C dX1_loadRows_66 ic_m1 ?_
  refine v_icmp_ne 81 C dX1_loadRows_67 (by decide) (fun c => ?_) (fun c => ?_)
  · have h := if_f h c
    refine v_iinc (L1 := [(0, _), (1, _), (2, _), (3, _), (4, _)]) 3 [1, 2, 3, 0, 4] C dX1_loadRows_81 rfl ic_1 (by decide) rfl ?_
    refine v_goto 15 C dX1_loadRows_84 (by decide) ?_
    refine v_sub [0, 1, 2, 3] (L1 := [(0, _), (1, _), (2, _), (3, _)]) rfl ?_
    exact hr15 _ _ _ _ h
  · have h := if_t h c
    refine v_aload_n 0 C dX1_loadRows_70 rfl ?_
    refine g_38_3 C wf_RX1_9 dX1_loadRows_71 ?_
    refine v_iload 4 C dX1_loadRows_74 rfl ?_
    refine v_aload_n 0 C dX1_loadRows_76 rfl ?_
    refine g_38_7 C wf_RX1_56 dX1_loadRows_77 ?_
    obtain ⟨hi, h⟩ := gi_some h
    refine ast_39 C hi dX1_loadRows_80 ?_
    refine v_iinc (L1 := [(0, _), (1, _), (2, _), (3, _), (4, _)]) 3 [1, 2, 3, 0, 4] C dX1_loadRows_81 rfl ic_1 (by decide) rfl ?_
    refine v_goto 15 C dX1_loadRows_84 (by decide) ?_
    refine v_sub [0, 1, 2, 3] (L1 := [(0, _), (1, _), (2, _), (3, _)]) rfl ?_
    exact hr15 _ _ _ _ h
set_option maxRecDepth 4000 in
theorem tl_X1_loadRows_15  {X : CX} {fin : St} (C : Cx X "LitWindows$Finder" cX1_loadRows 5 1 23) (R1 : RtV X cX1_loadRows fin)  : ∀ (n : Nat) (x1 : Int32) (x2 : Int32) (x3 : Int32) (s : St), l_X1_loadRows_15  n x1 x2 x3 s = some ((), fin) → V X s 15 [(0, .ref (wA (xw X) 38)), (1, .int x1), (2, .int x2), (3, .int x3)] [] := by
  intro n
  induction n with
  | zero => intro x1 x2 x3 s h; exact none_no h
  | succ n hr15 =>
    intro x1 x2 x3 s h
    have h : b_X1_loadRows_15  (l_X1_loadRows_15  n) x1 x2 x3 s = some ((), fin) := h
    refine v_iload_n 3 C dX1_loadRows_15 rfl ?_
    refine v_aload_n 0 C dX1_loadRows_16 rfl ?_
    refine g_38_2 C wf_RX1_29 dX1_loadRows_17 ?_
    refine g_35_2 C wf_RX1_59 dX1_loadRows_20 ?_
    refine v_icmp_ge 87 C dX1_loadRows_23 (by decide) (fun c => ?_) (fun c => ?_)
    · have h := if_t h c
      exact v_vreth h R1 dX1_loadRows_87
    · have h := if_f h c
      refine v_aload_n 0 C dX1_loadRows_26 rfl ?_
      refine g_38_2 C wf_RX1_29 dX1_loadRows_27 ?_
      refine g_35_0 C wf_RX1_64 dX1_loadRows_30 ?_
      refine v_iload_n 3 C dX1_loadRows_33 rfl ?_
      obtain ⟨hi, h⟩ := gi_some h
      refine ald_36 C hi dX1_loadRows_34 ?_
      refine v_istore (L1 := [(0, _), (1, _), (2, _), (3, _), (4, _)]) [1, 2, 3, 4, 0] C dX1_loadRows_35 (by decide) rfl ?_
      refine v_aload_n 0 C dX1_loadRows_37 rfl ?_
      refine v_iload_n 3 C dX1_loadRows_38 rfl ?_
      refine v_iload_n 1 C dX1_loadRows_39 rfl ?_
      refine v_icmp_ne 47 C dX1_loadRows_40 (by decide) (fun c => ?_) (fun c => ?_)
      · have h := if_f h c
        refine v_aload_n 0 C dX1_loadRows_47 rfl ?_
        refine g_38_2 C wf_RX1_29 dX1_loadRows_48 ?_
        refine g_35_1 C wf_RX1_67 dX1_loadRows_51 ?_
        refine v_iload_n 3 C dX1_loadRows_54 rfl ?_
        obtain ⟨hi, h⟩ := gi_some h
        refine ald_37 C hi dX1_loadRows_55 ?_
        exact tj_X1_loadRows_56 C R1 hr15 h
      · have h := if_t h c
        refine v_iload_n 2 C dX1_loadRows_43 rfl ?_
        refine v_goto 56 C dX1_loadRows_44 (by decide) ?_
        exact tj_X1_loadRows_56 C R1 hr15 h
set_option maxRecDepth 4000 in
theorem t_X1_loadRows {x1 x2 s fin : _} (h : f_X1_loadRows x1 x2 s = some ((), fin)) : Ct yX1_loadRows cX1_loadRows 5 none 1 23 (fun w => [.ref (wA w 38), .int x1, .int x2]) s none fin := by
  refine Ct.ofV (by decide +kernel) (fun w => Nat.le_of_ble_eq_true rfl) (fun X C R1 => ?_)
  show V X s 0 [(0, .ref (wA (xw X) 38)), (1, .int x1), (2, .int x2)] []
  have C : Cx X "LitWindows$Finder" cX1_loadRows 5 1 23 := C
  refine v_aload_n 0 C dX1_loadRows_0 rfl ?_
  refine g_38_3 C wf_RX1_9 dX1_loadRows_1 ?_
  refine v_iconst C dX1_loadRows_4 ic_m1 ?_
  obtain ⟨r_5, s_5, e_5, h⟩ := bd_some h
  refine v_callSv [] C (t_J7_fill_53178_39 e_5) mw_J7_fill_53178 wm_RX1_50 ⟨by decide, by decide⟩ rfl (Nat.le_of_ble_eq_true rfl) rfl dX1_loadRows_5 ?_
  refine v_aload_n 0 C dX1_loadRows_8 rfl ?_
  refine v_iconst C dX1_loadRows_9 ic_0 ?_
  refine p_38_7 C wf_RX1_56 dX1_loadRows_10 ?_
  refine v_iconst C dX1_loadRows_13 ic_0 ?_
  refine v_istore_n (L1 := [(0, _), (1, _), (2, _), (3, _)]) [1, 2, 3, 0] C dX1_loadRows_14 (by decide) rfl ?_
  exact tl_X1_loadRows_15 C R1  FU _ _ _ _ h
set_option maxRecDepth 4000 in
theorem tl_X1_wrongAt_4  {X : CX} {r : Int32} {fin : St} (C : Cx X "LitWindows$Finder" cX1_wrongAt 4 0 0) (R1 : RtI X cX1_wrongAt .int r fin)  : ∀ (n : Nat) (x1 : Int32) (x2 : Int32) (x3 : Int32) (s : St), l_X1_wrongAt_4  n x1 x2 x3 s = some (r, fin) → V X s 4 [(0, .ref (wA (xw X) 38)), (1, .int x1), (2, .int x2), (3, .int x3)] [] := by
  intro n
  induction n with
  | zero => intro x1 x2 x3 s h; exact none_no h
  | succ n hr4 =>
    intro x1 x2 x3 s h
    have h : b_X1_wrongAt_4  (l_X1_wrongAt_4  n) x1 x2 x3 s = some (r, fin) := h
    refine v_iload_n 3 C dX1_wrongAt_4 rfl ?_
    refine v_aload_n 0 C dX1_wrongAt_5 rfl ?_
    refine g_38_0 C wf_RX1_21 dX1_wrongAt_6 ?_
    refine g_8_2 C wf_RX1_76 dX1_wrongAt_9 ?_
    refine v_icmp_ge 47 C dX1_wrongAt_12 (by decide) (fun c => ?_) (fun c => ?_)
    · have h := if_t h c
      refine v_iload_n 2 C dX1_wrongAt_47 rfl ?_
      exact v_ireth h R1 rfl dX1_wrongAt_48
    · have h := if_f h c
      refine v_iload_n 1 C dX1_wrongAt_15 rfl ?_
      refine v_aload_n 0 C dX1_wrongAt_16 rfl ?_
      refine g_38_4 C wf_RX1_15 dX1_wrongAt_17 ?_
      refine v_iload_n 3 C dX1_wrongAt_20 rfl ?_
      obtain ⟨hi, h⟩ := gi_some h
      refine ald_40 C hi dX1_wrongAt_21 ?_
      refine v_icmp_lt 35 C dX1_wrongAt_22 (by decide) (fun c => ?_) (fun c => ?_)
      · have h := if_t h c
        refine v_iload_n 2 C dX1_wrongAt_35 rfl ?_
        refine v_iconst C dX1_wrongAt_36 ic_1 ?_
        refine v_iload_n 3 C dX1_wrongAt_37 rfl ?_
        refine v_ishl C dX1_wrongAt_38 ?_
        refine v_ior C dX1_wrongAt_39 ?_
        refine v_istore_n (L1 := [(0, _), (1, _), (2, _), (3, _)]) [1, 2, 0, 3] C dX1_wrongAt_40 (by decide) rfl ?_
        refine v_iinc (L1 := [(0, _), (1, _), (2, _), (3, _)]) 3 [1, 2, 3, 0] C dX1_wrongAt_41 rfl ic_1 (by decide) rfl ?_
        refine v_goto 4 C dX1_wrongAt_44 (by decide) ?_
        exact hr4 _ _ _ _ h
      · have h := if_f h c
        refine v_iload_n 1 C dX1_wrongAt_25 rfl ?_
        refine v_aload_n 0 C dX1_wrongAt_26 rfl ?_
        refine g_38_5 C wf_RX1_18 dX1_wrongAt_27 ?_
        refine v_iload_n 3 C dX1_wrongAt_30 rfl ?_
        obtain ⟨hi, h⟩ := gi_some h
        refine ald_41 C hi dX1_wrongAt_31 ?_
        refine v_icmp_le 41 C dX1_wrongAt_32 (by decide) (fun c => ?_) (fun c => ?_)
        · have h := if_t h c
          refine v_iinc (L1 := [(0, _), (1, _), (2, _), (3, _)]) 3 [1, 2, 3, 0] C dX1_wrongAt_41 rfl ic_1 (by decide) rfl ?_
          refine v_goto 4 C dX1_wrongAt_44 (by decide) ?_
          exact hr4 _ _ _ _ h
        · have h := if_f h c
          refine v_iload_n 2 C dX1_wrongAt_35 rfl ?_
          refine v_iconst C dX1_wrongAt_36 ic_1 ?_
          refine v_iload_n 3 C dX1_wrongAt_37 rfl ?_
          refine v_ishl C dX1_wrongAt_38 ?_
          refine v_ior C dX1_wrongAt_39 ?_
          refine v_istore_n (L1 := [(0, _), (1, _), (2, _), (3, _)]) [1, 2, 0, 3] C dX1_wrongAt_40 (by decide) rfl ?_
          refine v_iinc (L1 := [(0, _), (1, _), (2, _), (3, _)]) 3 [1, 2, 3, 0] C dX1_wrongAt_41 rfl ic_1 (by decide) rfl ?_
          refine v_goto 4 C dX1_wrongAt_44 (by decide) ?_
          exact hr4 _ _ _ _ h
set_option maxRecDepth 4000 in
theorem t_X1_wrongAt {x1 s fin : _} {r : Int32} (h : f_X1_wrongAt x1 s = some (r, fin)) : Ct yX1_wrongAt cX1_wrongAt 4 (some .int) 0 0 (fun w => [.ref (wA w 38), .int x1]) s (some (.int r)) fin := by
  refine Ct.ofI (by decide +kernel) (fun w => Nat.le_of_ble_eq_true rfl) (fun X C R1 => ?_)
  show V X s 0 [(0, .ref (wA (xw X) 38)), (1, .int x1)] []
  have C : Cx X "LitWindows$Finder" cX1_wrongAt 4 0 0 := C
  refine v_iconst C dX1_wrongAt_0 ic_0 ?_
  refine v_istore_n (L1 := [(0, _), (1, _), (2, _)]) [1, 2, 0] C dX1_wrongAt_1 (by decide) rfl ?_
  refine v_iconst C dX1_wrongAt_2 ic_0 ?_
  refine v_istore_n (L1 := [(0, _), (1, _), (2, _), (3, _)]) [1, 2, 3, 0] C dX1_wrongAt_3 (by decide) rfl ?_
  exact tl_X1_wrongAt_4 C R1  FU _ _ _ _ h
set_option maxRecDepth 4000 in
theorem t_J6_bitCount_0f7a4 {x0 s fin : _} {r : Int32} (h : f_J6_bitCount_0f7a4 x0 s = some (r, fin)) : Ct yJ6_bitCount_0f7a4 cJ6_bitCount_0f7a4 1 (some .int) 0 0 (fun w => [.int x0]) s (some (.int r)) fin := by
  refine Ct.ofI (by decide +kernel) (fun w => Nat.le_of_ble_eq_true rfl) (fun X C R1 => ?_)
  show V X s 0 [(0, .int x0)] []
  have C : Cx X "java/lang/Integer" cJ6_bitCount_0f7a4 1 0 0 := C
  unfold f_J6_bitCount_0f7a4 at h
  refine v_iload_n 0 C dJ6_bitCount_0f7a4_0 rfl ?_
  refine v_iload_n 0 C dJ6_bitCount_0f7a4_1 rfl ?_
  refine v_iconst C dJ6_bitCount_0f7a4_2 ic_1 ?_
  refine v_iushr C dJ6_bitCount_0f7a4_3 ?_
  refine v_ldcw C wc_RJ6_265 dJ6_bitCount_0f7a4_4 ?_
  refine v_iand C dJ6_bitCount_0f7a4_7 ?_
  refine v_isub C dJ6_bitCount_0f7a4_8 ?_
  refine v_istore_n (L1 := [(0, _)]) [0] C dJ6_bitCount_0f7a4_9 (by decide) rfl ?_
  refine v_iload_n 0 C dJ6_bitCount_0f7a4_10 rfl ?_
  refine v_ldcw C wc_RJ6_266 dJ6_bitCount_0f7a4_11 ?_
  refine v_iand C dJ6_bitCount_0f7a4_14 ?_
  refine v_iload_n 0 C dJ6_bitCount_0f7a4_15 rfl ?_
  refine v_iconst C dJ6_bitCount_0f7a4_16 ic_2 ?_
  refine v_iushr C dJ6_bitCount_0f7a4_17 ?_
  refine v_ldcw C wc_RJ6_266 dJ6_bitCount_0f7a4_18 ?_
  refine v_iand C dJ6_bitCount_0f7a4_21 ?_
  refine v_iadd C dJ6_bitCount_0f7a4_22 ?_
  refine v_istore_n (L1 := [(0, _)]) [0] C dJ6_bitCount_0f7a4_23 (by decide) rfl ?_
  refine v_iload_n 0 C dJ6_bitCount_0f7a4_24 rfl ?_
  refine v_iload_n 0 C dJ6_bitCount_0f7a4_25 rfl ?_
  refine v_iconst C dJ6_bitCount_0f7a4_26 ic_4 ?_
  refine v_iushr C dJ6_bitCount_0f7a4_27 ?_
  refine v_iadd C dJ6_bitCount_0f7a4_28 ?_
  refine v_ldcw C wc_RJ6_267 dJ6_bitCount_0f7a4_29 ?_
  refine v_iand C dJ6_bitCount_0f7a4_32 ?_
  refine v_istore_n (L1 := [(0, _)]) [0] C dJ6_bitCount_0f7a4_33 (by decide) rfl ?_
  refine v_iload_n 0 C dJ6_bitCount_0f7a4_34 rfl ?_
  refine v_iload_n 0 C dJ6_bitCount_0f7a4_35 rfl ?_
  refine v_bipush C dJ6_bitCount_0f7a4_36 bp_8 ?_
  refine v_iushr C dJ6_bitCount_0f7a4_38 ?_
  refine v_iadd C dJ6_bitCount_0f7a4_39 ?_
  refine v_istore_n (L1 := [(0, _)]) [0] C dJ6_bitCount_0f7a4_40 (by decide) rfl ?_
  refine v_iload_n 0 C dJ6_bitCount_0f7a4_41 rfl ?_
  refine v_iload_n 0 C dJ6_bitCount_0f7a4_42 rfl ?_
  refine v_bipush C dJ6_bitCount_0f7a4_43 bp_16 ?_
  refine v_iushr C dJ6_bitCount_0f7a4_45 ?_
  refine v_iadd C dJ6_bitCount_0f7a4_46 ?_
  refine v_istore_n (L1 := [(0, _)]) [0] C dJ6_bitCount_0f7a4_47 (by decide) rfl ?_
  refine v_iload_n 0 C dJ6_bitCount_0f7a4_48 rfl ?_
  refine v_bipush C dJ6_bitCount_0f7a4_49 bp_63 ?_
  refine v_iand C dJ6_bitCount_0f7a4_51 ?_
  exact v_ireth h R1 rfl dJ6_bitCount_0f7a4_52
set_option maxRecDepth 4000 in
theorem t_X1_tryBegin {x1 s fin : _} (h : f_X1_tryBegin x1 s = some ((), fin)) : Ct yX1_tryBegin cX1_tryBegin 4 none 1 23 (fun w => [.ref (wA w 38), .int x1]) s none fin := by
  refine Ct.ofV (by decide +kernel) (fun w => Nat.le_of_ble_eq_true rfl) (fun X C R1 => ?_)
  show V X s 0 [(0, .ref (wA (xw X) 38)), (1, .int x1)] []
  have C : Cx X "LitWindows$Finder" cX1_tryBegin 4 1 23 := C
  refine v_aload_n 0 C dX1_tryBegin_0 rfl ?_
  refine v_iload_n 1 C dX1_tryBegin_1 rfl ?_
  obtain ⟨r_2, s_2, e_2, h⟩ := bd_some h
  refine v_callVi [] C (t_X1_wrongAt e_2) mw_X1_wrongAt (at_38 _ _) rfl wm_RX1_127 ⟨by decide, by decide⟩ rfl (Nat.le_of_ble_eq_true rfl) rfl dX1_tryBegin_2 ?_
  refine v_istore_n (L1 := [(0, _), (1, _), (2, _)]) [1, 2, 0] C dX1_tryBegin_5 (by decide) rfl ?_
  refine v_iload_n 2 C dX1_tryBegin_6 rfl ?_
  obtain ⟨r_7, s_7, e_7, h⟩ := bd_some h
  refine v_callSi [] C (t_J6_bitCount_0f7a4 e_7) mw_J6_bitCount_0f7a4 wm_RX1_91 ⟨by decide, by decide⟩ rfl (Nat.le_of_ble_eq_true rfl) rfl dX1_tryBegin_7 ?_
  refine v_aload_n 0 C dX1_tryBegin_10 rfl ?_
  refine g_38_9 C wf_RX1_88 dX1_tryBegin_11 ?_
  obtain ⟨r_14, s_14, e_14, h⟩ := bd_some h
  refine v_callSi [_] C (t_J6_bitCount_0f7a4 e_14) mw_J6_bitCount_0f7a4 wm_RX1_91 ⟨by decide, by decide⟩ rfl (Nat.le_of_ble_eq_true rfl) rfl dX1_tryBegin_14 ?_
  refine v_isub C dX1_tryBegin_17 ?_
  refine v_istore_n (L1 := [(0, _), (1, _), (2, _), (3, _)]) [1, 2, 3, 0] C dX1_tryBegin_18 (by decide) rfl ?_
  refine v_iload_n 3 C dX1_tryBegin_19 rfl ?_
  refine v_if_lt 35 C dX1_tryBegin_20 (by decide) (fun c => ?_) (fun c => ?_)
  · have h := if_t h c
    refine v_aload_n 0 C dX1_tryBegin_35 rfl ?_
    refine v_iload_n 1 C dX1_tryBegin_36 rfl ?_
    refine p_38_8 C wf_RX1_114 dX1_tryBegin_37 ?_
    refine v_aload_n 0 C dX1_tryBegin_40 rfl ?_
    refine v_iload_n 2 C dX1_tryBegin_41 rfl ?_
    refine p_38_9 C wf_RX1_88 dX1_tryBegin_42 ?_
    exact v_vreth h R1 dX1_tryBegin_45
  · have h := if_f h c
    refine v_iload_n 3 C dX1_tryBegin_23 rfl ?_
    refine v_if_ne 45 C dX1_tryBegin_24 (by decide) (fun c => ?_) (fun c => ?_)
    · have h := if_f h c
      exact v_vreth h R1 dX1_tryBegin_45
    · have h := if_t h c
      refine v_iload_n 1 C dX1_tryBegin_27 rfl ?_
      refine v_aload_n 0 C dX1_tryBegin_28 rfl ?_
      refine g_38_8 C wf_RX1_114 dX1_tryBegin_29 ?_
      refine v_icmp_ge 45 C dX1_tryBegin_32 (by decide) (fun c => ?_) (fun c => ?_)
      · have h := if_t h c
        exact v_vreth h R1 dX1_tryBegin_45
      · have h := if_f h c
        refine v_aload_n 0 C dX1_tryBegin_35 rfl ?_
        refine v_iload_n 1 C dX1_tryBegin_36 rfl ?_
        refine p_38_8 C wf_RX1_114 dX1_tryBegin_37 ?_
        refine v_aload_n 0 C dX1_tryBegin_40 rfl ?_
        refine v_iload_n 2 C dX1_tryBegin_41 rfl ?_
        refine p_38_9 C wf_RX1_88 dX1_tryBegin_42 ?_
        exact v_vreth h R1 dX1_tryBegin_45
set_option maxRecDepth 4000 in
theorem tl_X1_seekBegin_16  {X : CX} {fin : St} (C : Cx X "LitWindows$Finder" cX1_seekBegin 2 2 46) (R1 : RtV X cX1_seekBegin fin)  : ∀ (n : Nat) (x1 : Int32) (s : St), l_X1_seekBegin_16  n x1 s = some ((), fin) → V X s 16 [(0, .ref (wA (xw X) 38)), (1, .int x1)] [] := by
  intro n
  induction n with
  | zero => intro x1 s h; exact none_no h
  | succ n hr16 =>
    intro x1 s h
    have h : b_X1_seekBegin_16  (l_X1_seekBegin_16  n) x1 s = some ((), fin) := h
    refine v_iload_n 1 C dX1_seekBegin_16 rfl ?_
    refine v_aload_n 0 C dX1_seekBegin_17 rfl ?_
    refine g_38_0 C wf_RX1_21 dX1_seekBegin_18 ?_
    refine g_8_2 C wf_RX1_76 dX1_seekBegin_21 ?_
    refine v_icmp_ge 65 C dX1_seekBegin_24 (by decide) (fun c => ?_) (fun c => ?_)
    · have h := if_t h c
      exact v_vreth h R1 dX1_seekBegin_65
    · have h := if_f h c
      refine v_aload_n 0 C dX1_seekBegin_27 rfl ?_
      refine g_38_4 C wf_RX1_15 dX1_seekBegin_28 ?_
      refine v_iload_n 1 C dX1_seekBegin_31 rfl ?_
      obtain ⟨hi, h⟩ := gi_some h
      refine ald_40 C hi dX1_seekBegin_32 ?_
      refine v_if_le 59 C dX1_seekBegin_33 (by decide) (fun c => ?_) (fun c => ?_)
      · have h := if_t h c
        refine v_iinc (L1 := [(0, _), (1, _)]) 1 [1, 0] C dX1_seekBegin_59 rfl ic_1 (by decide) rfl ?_
        refine v_goto 16 C dX1_seekBegin_62 (by decide) ?_
        exact hr16 _ _ h
      · have h := if_f h c
        refine v_aload_n 0 C dX1_seekBegin_36 rfl ?_
        refine g_38_4 C wf_RX1_15 dX1_seekBegin_37 ?_
        refine v_iload_n 1 C dX1_seekBegin_40 rfl ?_
        obtain ⟨hi, h⟩ := gi_some h
        refine ald_40 C hi dX1_seekBegin_41 ?_
        refine v_aload_n 0 C dX1_seekBegin_42 rfl ?_
        refine g_38_7 C wf_RX1_56 dX1_seekBegin_43 ?_
        refine v_icmp_gt 59 C dX1_seekBegin_46 (by decide) (fun c => ?_) (fun c => ?_)
        · have h := if_t h c
          refine v_iinc (L1 := [(0, _), (1, _)]) 1 [1, 0] C dX1_seekBegin_59 rfl ic_1 (by decide) rfl ?_
          refine v_goto 16 C dX1_seekBegin_62 (by decide) ?_
          exact hr16 _ _ h
        · have h := if_f h c
          refine v_aload_n 0 C dX1_seekBegin_49 rfl ?_
          refine v_aload_n 0 C dX1_seekBegin_50 rfl ?_
          refine g_38_4 C wf_RX1_15 dX1_seekBegin_51 ?_
          refine v_iload_n 1 C dX1_seekBegin_54 rfl ?_
          obtain ⟨hi, h⟩ := gi_some h
          refine ald_40 C hi dX1_seekBegin_55 ?_
          obtain ⟨r_56, s_56, e_56, h⟩ := bd_some h
          refine v_callVv [] C (t_X1_tryBegin e_56) mw_X1_tryBegin (at_38 _ _) rfl wm_RX1_130 ⟨by decide, by decide⟩ rfl (Nat.le_of_ble_eq_true rfl) rfl dX1_seekBegin_56 ?_
          refine v_iinc (L1 := [(0, _), (1, _)]) 1 [1, 0] C dX1_seekBegin_59 rfl ic_1 (by decide) rfl ?_
          refine v_goto 16 C dX1_seekBegin_62 (by decide) ?_
          exact hr16 _ _ h
set_option maxRecDepth 4000 in
theorem t_X1_seekBegin { s fin : _} (h : f_X1_seekBegin  s = some ((), fin)) : Ct yX1_seekBegin cX1_seekBegin 2 none 2 46 (fun w => [.ref (wA w 38)]) s none fin := by
  refine Ct.ofV (by decide +kernel) (fun w => Nat.le_of_ble_eq_true rfl) (fun X C R1 => ?_)
  show V X s 0 [(0, .ref (wA (xw X) 38))] []
  have C : Cx X "LitWindows$Finder" cX1_seekBegin 2 2 46 := C
  unfold f_X1_seekBegin at h
  refine v_aload_n 0 C dX1_seekBegin_0 rfl ?_
  refine v_iconst C dX1_seekBegin_1 ic_0 ?_
  refine p_38_8 C wf_RX1_114 dX1_seekBegin_2 ?_
  refine v_aload_n 0 C dX1_seekBegin_5 rfl ?_
  refine v_aload_n 0 C dX1_seekBegin_6 rfl ?_
  refine v_iconst C dX1_seekBegin_7 ic_0 ?_
  obtain ⟨r_8, s_8, e_8, h⟩ := bd_some h
  refine v_callVi [_] C (t_X1_wrongAt e_8) mw_X1_wrongAt (at_38 _ _) rfl wm_RX1_127 ⟨by decide, by decide⟩ rfl (Nat.le_of_ble_eq_true rfl) rfl dX1_seekBegin_8 ?_
  refine p_38_9 C wf_RX1_88 dX1_seekBegin_11 ?_
  refine v_iconst C dX1_seekBegin_14 ic_0 ?_
  refine v_istore_n (L1 := [(0, _), (1, _)]) [1, 0] C dX1_seekBegin_15 (by decide) rfl ?_
  exact tl_X1_seekBegin_16 C R1  FU _ _ h
set_option maxRecDepth 4000 in
theorem t_X1_takeLeast {x1 x2 s fin : _} (h : f_X1_takeLeast x1 x2 s = some ((), fin)) : Ct yX1_takeLeast cX1_takeLeast 3 none 0 0 (fun w => [.ref (wA w 38), .int x1, .int x2]) s none fin := by
  refine Ct.ofV (by decide +kernel) (fun w => Nat.le_of_ble_eq_true rfl) (fun X C R1 => ?_)
  show V X s 0 [(0, .ref (wA (xw X) 38)), (1, .int x1), (2, .int x2)] []
  have C : Cx X "LitWindows$Finder" cX1_takeLeast 3 0 0 := C
  unfold f_X1_takeLeast at h
  refine v_aload_n 0 C dX1_takeLeast_0 rfl ?_
  refine v_iload_n 2 C dX1_takeLeast_1 rfl ?_
  refine p_38_10 C wf_RX1_38 dX1_takeLeast_2 ?_
  refine v_aload_n 0 C dX1_takeLeast_5 rfl ?_
  refine v_iload_n 1 C dX1_takeLeast_6 rfl ?_
  refine p_38_11 C wf_RX1_111 dX1_takeLeast_7 ?_
  refine v_aload_n 0 C dX1_takeLeast_10 rfl ?_
  refine v_aload_n 0 C dX1_takeLeast_11 rfl ?_
  refine g_38_8 C wf_RX1_114 dX1_takeLeast_12 ?_
  refine p_38_12 C wf_RX1_117 dX1_takeLeast_15 ?_
  refine v_aload_n 0 C dX1_takeLeast_18 rfl ?_
  refine v_aload_n 0 C dX1_takeLeast_19 rfl ?_
  refine g_38_9 C wf_RX1_88 dX1_takeLeast_20 ?_
  refine p_38_13 C wf_RX1_120 dX1_takeLeast_23 ?_
  refine v_aload_n 0 C dX1_takeLeast_26 rfl ?_
  refine v_iconst C dX1_takeLeast_27 ic_1 ?_
  refine p_38_14 C wf_RX1_99 dX1_takeLeast_28 ?_
  refine v_aload_n 0 C dX1_takeLeast_31 rfl ?_
  refine v_iload_n 1 C dX1_takeLeast_32 rfl ?_
  refine p_38_15 C wf_RX1_102 dX1_takeLeast_33 ?_
  refine v_aload_n 0 C dX1_takeLeast_36 rfl ?_
  refine v_iload_n 1 C dX1_takeLeast_37 rfl ?_
  refine p_38_16 C wf_RX1_105 dX1_takeLeast_38 ?_
  refine v_aload_n 0 C dX1_takeLeast_41 rfl ?_
  refine v_aload_n 0 C dX1_takeLeast_42 rfl ?_
  refine g_38_9 C wf_RX1_88 dX1_takeLeast_43 ?_
  refine p_38_17 C wf_RX1_108 dX1_takeLeast_46 ?_
  exact v_vreth h R1 dX1_takeLeast_49
set_option maxRecDepth 4000 in
theorem t_X1_setSpan {x1 x2 s fin : _} (h : f_X1_setSpan x1 x2 s = some ((), fin)) : Ct yX1_setSpan cX1_setSpan 4 none 0 0 (fun w => [.ref (wA w 38), .int x1, .int x2]) s none fin := by
  refine Ct.ofV (by decide +kernel) (fun w => Nat.le_of_ble_eq_true rfl) (fun X C R1 => ?_)
  show V X s 0 [(0, .ref (wA (xw X) 38)), (1, .int x1), (2, .int x2)] []
  have C : Cx X "LitWindows$Finder" cX1_setSpan 4 0 0 := C
  refine v_aload_n 0 C dX1_setSpan_0 rfl ?_
  refine g_38_3 C wf_RX1_9 dX1_setSpan_1 ?_
  refine v_iload_n 1 C dX1_setSpan_4 rfl ?_
  obtain ⟨hi, h⟩ := gi_some h
  refine ald_39 C hi dX1_setSpan_5 ?_
  refine v_istore_n (L1 := [(0, _), (1, _), (2, _), (3, _)]) [1, 2, 3, 0] C dX1_setSpan_6 (by decide) rfl ?_
  refine v_iload_n 3 C dX1_setSpan_7 rfl ?_
  refine v_iconst C dX1_setSpan_8 ic_m1 ?_
  refine v_icmp_ne 48 C dX1_setSpan_9 (by decide) (fun c => ?_) (fun c => ?_)
  · have h := if_f h c
    refine v_iload_n 2 C dX1_setSpan_48 rfl ?_
    refine v_ldc C wc_RX1_37 dX1_setSpan_49 ?_
    refine v_icmp_lt 73 C dX1_setSpan_51 (by decide) (fun c => ?_) (fun c => ?_)
    · have h := if_t h c
      refine v_aload_n 0 C dX1_setSpan_73 rfl ?_
      refine g_38_4 C wf_RX1_15 dX1_setSpan_74 ?_
      refine v_iload_n 1 C dX1_setSpan_77 rfl ?_
      refine v_iload_n 3 C dX1_setSpan_78 rfl ?_
      refine v_iload_n 2 C dX1_setSpan_79 rfl ?_
      refine v_isub C dX1_setSpan_80 ?_
      refine v_aload_n 0 C dX1_setSpan_81 rfl ?_
      refine g_38_6 C wf_RX1_124 dX1_setSpan_82 ?_
      refine v_isub C dX1_setSpan_85 ?_
      obtain ⟨hi, h⟩ := gi_some h
      refine ast_40 C hi dX1_setSpan_86 ?_
      refine v_aload_n 0 C dX1_setSpan_87 rfl ?_
      refine g_38_5 C wf_RX1_18 dX1_setSpan_88 ?_
      refine v_iload_n 1 C dX1_setSpan_91 rfl ?_
      refine v_iload_n 3 C dX1_setSpan_92 rfl ?_
      refine v_iload_n 2 C dX1_setSpan_93 rfl ?_
      refine v_isub C dX1_setSpan_94 ?_
      refine v_aload_n 0 C dX1_setSpan_95 rfl ?_
      refine g_38_6 C wf_RX1_124 dX1_setSpan_96 ?_
      refine v_iadd C dX1_setSpan_99 ?_
      obtain ⟨hi, h⟩ := gi_some h
      refine ast_41 C hi dX1_setSpan_100 ?_
      exact v_vreth h R1 dX1_setSpan_101
    · have h := if_f h c
      refine v_aload_n 0 C dX1_setSpan_54 rfl ?_
      refine g_38_4 C wf_RX1_15 dX1_setSpan_55 ?_
      refine v_iload_n 1 C dX1_setSpan_58 rfl ?_
      refine v_ldc C wc_RX1_37 dX1_setSpan_59 ?_
      obtain ⟨hi, h⟩ := gi_some h
      refine ast_40 C hi dX1_setSpan_61 ?_
      refine v_aload_n 0 C dX1_setSpan_62 rfl ?_
      refine g_38_5 C wf_RX1_18 dX1_setSpan_63 ?_
      refine v_iload_n 1 C dX1_setSpan_66 rfl ?_
      refine v_ldc C wc_RX1_123 dX1_setSpan_67 ?_
      obtain ⟨hi, h⟩ := gi_some h
      refine ast_41 C hi dX1_setSpan_69 ?_
      refine v_goto 101 C dX1_setSpan_70 (by decide) ?_
      exact v_vreth h R1 dX1_setSpan_101
  · have h := if_t h c
    refine v_aload_n 0 C dX1_setSpan_12 rfl ?_
    refine g_38_4 C wf_RX1_15 dX1_setSpan_13 ?_
    refine v_iload_n 1 C dX1_setSpan_16 rfl ?_
    refine v_iload_n 2 C dX1_setSpan_17 rfl ?_
    refine v_ldc C wc_RX1_37 dX1_setSpan_18 ?_
    refine v_icmp_lt 28 C dX1_setSpan_20 (by decide) (fun c => ?_) (fun c => ?_)
    · have h := if_t h c
      refine v_aload_n 0 C dX1_setSpan_28 rfl ?_
      refine g_38_7 C wf_RX1_56 dX1_setSpan_29 ?_
      refine v_iload_n 2 C dX1_setSpan_32 rfl ?_
      refine v_isub C dX1_setSpan_33 ?_
      refine v_iconst C dX1_setSpan_34 ic_1 ?_
      refine v_iadd C dX1_setSpan_35 ?_
      obtain ⟨hi, h⟩ := gi_some h
      refine ast_40 C hi dX1_setSpan_36 ?_
      refine v_aload_n 0 C dX1_setSpan_37 rfl ?_
      refine g_38_5 C wf_RX1_18 dX1_setSpan_38 ?_
      refine v_iload_n 1 C dX1_setSpan_41 rfl ?_
      refine v_ldc C wc_RX1_37 dX1_setSpan_42 ?_
      obtain ⟨hi, h⟩ := gi_some h
      refine ast_41 C hi dX1_setSpan_44 ?_
      refine v_goto 101 C dX1_setSpan_45 (by decide) ?_
      exact v_vreth h R1 dX1_setSpan_101
    · have h := if_f h c
      refine v_ldc C wc_RX1_123 dX1_setSpan_23 ?_
      refine v_goto 36 C dX1_setSpan_25 (by decide) ?_
      obtain ⟨hi, h⟩ := gi_some h
      refine ast_40 C hi dX1_setSpan_36 ?_
      refine v_aload_n 0 C dX1_setSpan_37 rfl ?_
      refine g_38_5 C wf_RX1_18 dX1_setSpan_38 ?_
      refine v_iload_n 1 C dX1_setSpan_41 rfl ?_
      refine v_ldc C wc_RX1_37 dX1_setSpan_42 ?_
      obtain ⟨hi, h⟩ := gi_some h
      refine ast_41 C hi dX1_setSpan_44 ?_
      refine v_goto 101 C dX1_setSpan_45 (by decide) ?_
      exact v_vreth h R1 dX1_setSpan_101
set_option maxRecDepth 4000 in
theorem tl_X1_tryHeap_21  {X : CX} {fin : St} (C : Cx X "LitWindows$Finder" cX1_tryHeap 4 3 78) (R1 : RtV X cX1_tryHeap fin)  : ∀ (n : Nat) (x1 : Int32) (x2 : Int32) (x3 : Int32) (s : St), l_X1_tryHeap_21  n x1 x2 x3 s = some ((), fin) → V X s 21 [(0, .ref (wA (xw X) 38)), (1, .int x1), (2, .int x2), (3, .int x3)] [] := by
  intro n
  induction n with
  | zero => intro x1 x2 x3 s h; exact none_no h
  | succ n hr21 =>
    intro x1 x2 x3 s h
    have h : b_X1_tryHeap_21  (l_X1_tryHeap_21  n) x1 x2 x3 s = some ((), fin) := h
    refine v_iload_n 3 C dX1_tryHeap_21 rfl ?_
    refine v_aload_n 0 C dX1_tryHeap_22 rfl ?_
    refine g_38_0 C wf_RX1_21 dX1_tryHeap_23 ?_
    refine g_8_2 C wf_RX1_76 dX1_tryHeap_26 ?_
    refine v_icmp_ge 51 C dX1_tryHeap_29 (by decide) (fun c => ?_) (fun c => ?_)
    · have h := if_t h c
      refine v_aload_n 0 C dX1_tryHeap_51 rfl ?_
      obtain ⟨r_52, s_52, e_52, h⟩ := bd_some h
      refine v_callVv [] C (t_X1_seekBegin e_52) mw_X1_seekBegin (at_38 _ _) rfl wm_RX1_85 ⟨by decide, by decide⟩ rfl (Nat.le_of_ble_eq_true rfl) rfl dX1_tryHeap_52 ?_
      refine v_iconst C dX1_tryHeap_55 ic_2 ?_
      refine v_iload_n 2 C dX1_tryHeap_56 rfl ?_
      refine v_imul C dX1_tryHeap_57 ?_
      refine v_aload_n 0 C dX1_tryHeap_58 rfl ?_
      refine g_38_9 C wf_RX1_88 dX1_tryHeap_59 ?_
      obtain ⟨r_62, s_62, e_62, h⟩ := bd_some h
      refine v_callSi [_] C (t_J6_bitCount_0f7a4 e_62) mw_J6_bitCount_0f7a4 wm_RX1_91 ⟨by decide, by decide⟩ rfl (Nat.le_of_ble_eq_true rfl) rfl dX1_tryHeap_62 ?_
      refine v_iadd C dX1_tryHeap_65 ?_
      refine v_istore_n (L1 := [(0, _), (1, _), (2, _), (3, _)]) [1, 2, 3, 0] C dX1_tryHeap_66 (by decide) rfl ?_
      refine v_iload_n 3 C dX1_tryHeap_67 rfl ?_
      refine v_aload_n 0 C dX1_tryHeap_68 rfl ?_
      refine g_38_10 C wf_RX1_38 dX1_tryHeap_69 ?_
      refine v_icmp_ge 84 C dX1_tryHeap_72 (by decide) (fun c => ?_) (fun c => ?_)
      · have h := if_t h c
        refine v_iload_n 3 C dX1_tryHeap_84 rfl ?_
        refine v_aload_n 0 C dX1_tryHeap_85 rfl ?_
        refine g_38_10 C wf_RX1_38 dX1_tryHeap_86 ?_
        refine v_icmp_ne 135 C dX1_tryHeap_89 (by decide) (fun c => ?_) (fun c => ?_)
        · have h := if_f h c
          exact v_vreth h R1 dX1_tryHeap_135
        · have h := if_t h c
          refine v_aload_n 0 C dX1_tryHeap_92 rfl ?_
          refine v_dupr C dX1_tryHeap_93 ?_
          refine g_38_14 C wf_RX1_99 dX1_tryHeap_94 ?_
          refine v_iconst C dX1_tryHeap_97 ic_1 ?_
          refine v_iadd C dX1_tryHeap_98 ?_
          refine p_38_14 C wf_RX1_99 dX1_tryHeap_99 ?_
          refine v_aload_n 0 C dX1_tryHeap_102 rfl ?_
          refine v_dupr C dX1_tryHeap_103 ?_
          refine g_38_15 C wf_RX1_102 dX1_tryHeap_104 ?_
          refine v_iload_n 1 C dX1_tryHeap_107 rfl ?_
          refine v_iand C dX1_tryHeap_108 ?_
          refine p_38_15 C wf_RX1_102 dX1_tryHeap_109 ?_
          refine v_aload_n 0 C dX1_tryHeap_112 rfl ?_
          refine v_dupr C dX1_tryHeap_113 ?_
          refine g_38_16 C wf_RX1_105 dX1_tryHeap_114 ?_
          refine v_iload_n 1 C dX1_tryHeap_117 rfl ?_
          refine v_ior C dX1_tryHeap_118 ?_
          refine p_38_16 C wf_RX1_105 dX1_tryHeap_119 ?_
          refine v_aload_n 0 C dX1_tryHeap_122 rfl ?_
          refine v_dupr C dX1_tryHeap_123 ?_
          refine g_38_17 C wf_RX1_108 dX1_tryHeap_124 ?_
          refine v_aload_n 0 C dX1_tryHeap_127 rfl ?_
          refine g_38_9 C wf_RX1_88 dX1_tryHeap_128 ?_
          refine v_iand C dX1_tryHeap_131 ?_
          refine p_38_17 C wf_RX1_108 dX1_tryHeap_132 ?_
          exact v_vreth h R1 dX1_tryHeap_135
      · have h := if_f h c
        refine v_aload_n 0 C dX1_tryHeap_75 rfl ?_
        refine v_iload_n 1 C dX1_tryHeap_76 rfl ?_
        refine v_iload_n 3 C dX1_tryHeap_77 rfl ?_
        obtain ⟨r_78, s_78, e_78, h⟩ := bd_some h
        refine v_callVv [] C (t_X1_takeLeast e_78) mw_X1_takeLeast (at_38 _ _) rfl wm_RX1_96 ⟨by decide, by decide⟩ rfl (Nat.le_of_ble_eq_true rfl) rfl dX1_tryHeap_78 ?_
        refine v_goto 135 C dX1_tryHeap_81 (by decide) ?_
        exact v_vreth h R1 dX1_tryHeap_135
    · have h := if_f h c
      refine v_aload_n 0 C dX1_tryHeap_32 rfl ?_
      refine v_iload_n 3 C dX1_tryHeap_33 rfl ?_
      refine v_aload_n 0 C dX1_tryHeap_34 rfl ?_
      refine g_38_1 C wf_RX1_25 dX1_tryHeap_35 ?_
      refine v_iload_n 3 C dX1_tryHeap_38 rfl ?_
      obtain ⟨r_39, s_39, e_39, h⟩ := bd_some h
      refine v_callVi [_, _] C (t_X7_windowTime e_39) mw_X7_windowTime (at_28 _ _) rfl wm_RX1_78 ⟨by decide, by decide⟩ rfl (Nat.le_of_ble_eq_true rfl) rfl dX1_tryHeap_39 ?_
      obtain ⟨r_42, s_42, e_42, h⟩ := bd_some h
      refine v_callVv [] C (t_X1_setSpan e_42) mw_X1_setSpan (at_38 _ _) rfl wm_RX1_82 ⟨by decide, by decide⟩ rfl (Nat.le_of_ble_eq_true rfl) rfl dX1_tryHeap_42 ?_
      refine v_iinc (L1 := [(0, _), (1, _), (2, _), (3, _)]) 3 [1, 2, 3, 0] C dX1_tryHeap_45 rfl ic_1 (by decide) rfl ?_
      refine v_goto 21 C dX1_tryHeap_48 (by decide) ?_
      exact hr21 _ _ _ _ h
set_option maxRecDepth 4000 in
theorem t_X1_tryHeap {x1 x2 s fin : _} (h : f_X1_tryHeap x1 x2 s = some ((), fin)) : Ct yX1_tryHeap cX1_tryHeap 4 none 3 78 (fun w => [.ref (wA w 38), .int x1, .int x2]) s none fin := by
  refine Ct.ofV (by decide +kernel) (fun w => Nat.le_of_ble_eq_true rfl) (fun X C R1 => ?_)
  show V X s 0 [(0, .ref (wA (xw X) 38)), (1, .int x1), (2, .int x2)] []
  have C : Cx X "LitWindows$Finder" cX1_tryHeap 4 3 78 := C
  refine v_iconst C dX1_tryHeap_0 ic_2 ?_
  refine v_iload_n 2 C dX1_tryHeap_1 rfl ?_
  refine v_imul C dX1_tryHeap_2 ?_
  refine v_aload_n 0 C dX1_tryHeap_3 rfl ?_
  refine g_38_10 C wf_RX1_38 dX1_tryHeap_4 ?_
  refine v_icmp_le 11 C dX1_tryHeap_7 (by decide) (fun c => ?_) (fun c => ?_)
  · have h := if_t h c
    refine v_aload_n 0 C dX1_tryHeap_11 rfl ?_
    refine g_38_1 C wf_RX1_25 dX1_tryHeap_12 ?_
    refine v_iload_n 1 C dX1_tryHeap_15 rfl ?_
    obtain ⟨r_16, s_16, e_16, h⟩ := bd_some h
    refine v_callVv [] C (t_X7_run e_16) mw_X7_run (at_28 _ _) rfl wm_RX1_70 ⟨by decide, by decide⟩ rfl (Nat.le_of_ble_eq_true rfl) rfl dX1_tryHeap_16 ?_
    refine v_iconst C dX1_tryHeap_19 ic_0 ?_
    refine v_istore_n (L1 := [(0, _), (1, _), (2, _), (3, _)]) [1, 2, 3, 0] C dX1_tryHeap_20 (by decide) rfl ?_
    exact tl_X1_tryHeap_21 C R1  FU _ _ _ _ h
  · have h := if_f h c
    exact v_vreth h R1 dX1_tryHeap_10
set_option maxRecDepth 4000 in
theorem tl_X1_search_117 {rec94 : Int32 → St → Option (Unit × St)} {rec108 : Int32 → Int32 → St → Option (Unit × St)} {X : CX} {fin : St} (C : Cx X "LitWindows$Finder" cX1_search 6 4 101) (R1 : RtV X cX1_search fin) (hr94 : ∀ (x3 : Int32) (s : St), rec94 x3 s = some ((), fin) → V X s 94 [(0, .ref (wA (xw X) 38)), (3, .int x3)] []) (hr108 : ∀ (x3 : Int32) (x4 : Int32) (s : St), rec108 x3 x4 s = some ((), fin) → V X s 108 [(0, .ref (wA (xw X) 38)), (3, .int x3), (4, .int x4)] []) : ∀ (n : Nat) (x3 : Int32) (x4 : Int32) (x5 : Int32) (s : St), l_X1_search_117 rec94 rec108 n x3 x4 x5 s = some ((), fin) → V X s 117 [(0, .ref (wA (xw X) 38)), (3, .int x3), (4, .int x4), (5, .int x5)] [] := by
  intro n
  induction n with
  | zero => intro x3 x4 x5 s h; exact none_no h
  | succ n hr117 =>
    intro x3 x4 x5 s h
    have h : b_X1_search_117 rec94 rec108 (l_X1_search_117 rec94 rec108 n) x3 x4 x5 s = some ((), fin) := h
    refine v_iload 3 C dX1_search_117 rfl ?_
    refine v_iload 2 C dX1_search_119 rfl ?_
    refine v_icmp_ge 148 C dX1_search_121 (by decide) (fun c => ?_) (fun c => ?_)
    · have h := if_t h c
      refine v_iinc (L1 := [(0, _), (3, _), (4, _), (5, _)]) 2 [1, 2, 0, 3] C dX1_search_148 rfl ic_1 (by decide) rfl ?_
      refine v_goto 108 C dX1_search_151 (by decide) ?_
      refine v_sub [0, 1, 2] (L1 := [(0, _), (3, _), (4, _)]) rfl ?_
      exact hr108 _ _ _ h
    · have h := if_f h c
      refine v_aload_n 0 C dX1_search_124 rfl ?_
      refine v_iconst C dX1_search_125 ic_1 ?_
      refine v_iload_n 1 C dX1_search_126 rfl ?_
      refine v_ishl C dX1_search_127 ?_
      refine v_iconst C dX1_search_128 ic_1 ?_
      refine v_iload 2 C dX1_search_129 rfl ?_
      refine v_ishl C dX1_search_131 ?_
      refine v_ior C dX1_search_132 ?_
      refine v_iconst C dX1_search_133 ic_1 ?_
      refine v_iload 3 C dX1_search_134 rfl ?_
      refine v_ishl C dX1_search_136 ?_
      refine v_ior C dX1_search_137 ?_
      refine v_iconst C dX1_search_138 ic_3 ?_
      obtain ⟨r_139, s_139, e_139, h⟩ := bd_some h
      refine v_callVv [] C (t_X1_tryHeap e_139) mw_X1_tryHeap (at_38 _ _) rfl wm_RX1_42 ⟨by decide, by decide⟩ rfl (Nat.le_of_ble_eq_true rfl) rfl dX1_search_139 ?_
      refine v_iinc (L1 := [(0, _), (3, _), (4, _), (5, _)]) 3 [1, 2, 3, 0] C dX1_search_142 rfl ic_1 (by decide) rfl ?_
      refine v_goto 117 C dX1_search_145 (by decide) ?_
      exact hr117 _ _ _ _ h
set_option maxRecDepth 4000 in
theorem tl_X1_search_108 {rec94 : Int32 → St → Option (Unit × St)} {X : CX} {fin : St} (C : Cx X "LitWindows$Finder" cX1_search 6 4 101) (R1 : RtV X cX1_search fin) (hr94 : ∀ (x3 : Int32) (s : St), rec94 x3 s = some ((), fin) → V X s 94 [(0, .ref (wA (xw X) 38)), (3, .int x3)] []) : ∀ (n : Nat) (x3 : Int32) (x4 : Int32) (s : St), l_X1_search_108 rec94 n x3 x4 s = some ((), fin) → V X s 108 [(0, .ref (wA (xw X) 38)), (3, .int x3), (4, .int x4)] [] := by
  intro n
  induction n with
  | zero => intro x3 x4 s h; exact none_no h
  | succ n hr108 =>
    intro x3 x4 s h
    have h : b_X1_search_108 rec94 (l_X1_search_108 rec94 n) x3 x4 s = some ((), fin) := h
    refine v_iload 2 C dX1_search_108 rfl ?_
    refine v_iload_n 1 C dX1_search_110 rfl ?_
    refine v_icmp_ge 154 C dX1_search_111 (by decide) (fun c => ?_) (fun c => ?_)
    · have h := if_t h c
      refine v_iinc (L1 := [(0, _), (3, _), (4, _)]) 1 [1, 0, 2] C dX1_search_154 rfl ic_1 (by decide) rfl ?_
      refine v_goto 94 C dX1_search_157 (by decide) ?_
      refine v_sub [0, 1] (L1 := [(0, _), (3, _)]) rfl ?_
      exact hr94 _ _ h
    · have h := if_f h c
      refine v_iconst C dX1_search_114 ic_0 ?_
      refine v_istore (L1 := [(0, _), (3, _), (4, _), (5, _)]) [1, 2, 3, 0] C dX1_search_115 (by decide) rfl ?_
      exact tl_X1_search_117 C R1 hr94 hr108 FU _ _ _ _ h
set_option maxRecDepth 4000 in
theorem tl_X1_search_94  {X : CX} {fin : St} (C : Cx X "LitWindows$Finder" cX1_search 6 4 101) (R1 : RtV X cX1_search fin)  : ∀ (n : Nat) (x3 : Int32) (s : St), l_X1_search_94  n x3 s = some ((), fin) → V X s 94 [(0, .ref (wA (xw X) 38)), (3, .int x3)] [] := by
  intro n
  induction n with
  | zero => intro x3 s h; exact none_no h
  | succ n hr94 =>
    intro x3 s h
    have h : b_X1_search_94  (l_X1_search_94  n) x3 s = some ((), fin) := h
    refine v_iload_n 1 C dX1_search_94 rfl ?_
    refine v_aload_n 0 C dX1_search_95 rfl ?_
    refine g_38_0 C wf_RX1_21 dX1_search_96 ?_
    refine g_8_0 C wf_RX1_45 dX1_search_99 ?_
    refine v_icmp_ge 160 C dX1_search_102 (by decide) (fun c => ?_) (fun c => ?_)
    · have h := if_t h c
      exact v_vreth h R1 dX1_search_160
    · have h := if_f h c
      refine v_iconst C dX1_search_105 ic_0 ?_
      refine v_istore (L1 := [(0, _), (3, _), (4, _)]) [1, 2, 0] C dX1_search_106 (by decide) rfl ?_
      exact tl_X1_search_108 C R1 hr94 FU _ _ _ h
set_option maxRecDepth 4000 in
theorem tl_X1_search_61 {rec47 : Int32 → St → Option (Unit × St)} {X : CX} {fin : St} (C : Cx X "LitWindows$Finder" cX1_search 6 4 101) (R1 : RtV X cX1_search fin) (hr47 : ∀ (x3 : Int32) (s : St), rec47 x3 s = some ((), fin) → V X s 47 [(0, .ref (wA (xw X) 38)), (3, .int x3)] []) : ∀ (n : Nat) (x3 : Int32) (x4 : Int32) (s : St), l_X1_search_61 rec47 n x3 x4 s = some ((), fin) → V X s 61 [(0, .ref (wA (xw X) 38)), (3, .int x3), (4, .int x4)] [] := by
  intro n
  induction n with
  | zero => intro x3 x4 s h; exact none_no h
  | succ n hr61 =>
    intro x3 x4 s h
    have h : b_X1_search_61 rec47 (l_X1_search_61 rec47 n) x3 x4 s = some ((), fin) := h
    refine v_iload 2 C dX1_search_61 rfl ?_
    refine v_iload_n 1 C dX1_search_63 rfl ?_
    refine v_icmp_ge 86 C dX1_search_64 (by decide) (fun c => ?_) (fun c => ?_)
    · have h := if_t h c
      refine v_iinc (L1 := [(0, _), (3, _), (4, _)]) 1 [1, 0, 2] C dX1_search_86 rfl ic_1 (by decide) rfl ?_
      refine v_goto 47 C dX1_search_89 (by decide) ?_
      refine v_sub [0, 1] (L1 := [(0, _), (3, _)]) rfl ?_
      exact hr47 _ _ h
    · have h := if_f h c
      refine v_aload_n 0 C dX1_search_67 rfl ?_
      refine v_iconst C dX1_search_68 ic_1 ?_
      refine v_iload_n 1 C dX1_search_69 rfl ?_
      refine v_ishl C dX1_search_70 ?_
      refine v_iconst C dX1_search_71 ic_1 ?_
      refine v_iload 2 C dX1_search_72 rfl ?_
      refine v_ishl C dX1_search_74 ?_
      refine v_ior C dX1_search_75 ?_
      refine v_iconst C dX1_search_76 ic_2 ?_
      obtain ⟨r_77, s_77, e_77, h⟩ := bd_some h
      refine v_callVv [] C (t_X1_tryHeap e_77) mw_X1_tryHeap (at_38 _ _) rfl wm_RX1_42 ⟨by decide, by decide⟩ rfl (Nat.le_of_ble_eq_true rfl) rfl dX1_search_77 ?_
      refine v_iinc (L1 := [(0, _), (3, _), (4, _)]) 2 [1, 2, 0] C dX1_search_80 rfl ic_1 (by decide) rfl ?_
      refine v_goto 61 C dX1_search_83 (by decide) ?_
      exact hr61 _ _ _ h
set_option maxRecDepth 4000 in
theorem tl_X1_search_47  {X : CX} {fin : St} (C : Cx X "LitWindows$Finder" cX1_search 6 4 101) (R1 : RtV X cX1_search fin)  : ∀ (n : Nat) (x3 : Int32) (s : St), l_X1_search_47  n x3 s = some ((), fin) → V X s 47 [(0, .ref (wA (xw X) 38)), (3, .int x3)] [] := by
  intro n
  induction n with
  | zero => intro x3 s h; exact none_no h
  | succ n hr47 =>
    intro x3 s h
    have h : b_X1_search_47  (l_X1_search_47  n) x3 s = some ((), fin) := h
    refine v_iload_n 1 C dX1_search_47 rfl ?_
    refine v_aload_n 0 C dX1_search_48 rfl ?_
    refine g_38_0 C wf_RX1_21 dX1_search_49 ?_
    refine g_8_0 C wf_RX1_45 dX1_search_52 ?_
    refine v_icmp_ge 92 C dX1_search_55 (by decide) (fun c => ?_) (fun c => ?_)
    · have h := if_t h c
      refine v_iconst C dX1_search_92 ic_0 ?_
      refine v_istore_n (L1 := [(0, _), (3, _)]) [1, 0] C dX1_search_93 (by decide) rfl ?_
      exact tl_X1_search_94 C R1  FU _ _ h
    · have h := if_f h c
      refine v_iconst C dX1_search_58 ic_0 ?_
      refine v_istore (L1 := [(0, _), (3, _), (4, _)]) [1, 2, 0] C dX1_search_59 (by decide) rfl ?_
      exact tl_X1_search_61 C R1 hr47 FU _ _ _ h
set_option maxRecDepth 4000 in
theorem tl_X1_search_20  {X : CX} {fin : St} (C : Cx X "LitWindows$Finder" cX1_search 6 4 101) (R1 : RtV X cX1_search fin)  : ∀ (n : Nat) (x3 : Int32) (s : St), l_X1_search_20  n x3 s = some ((), fin) → V X s 20 [(0, .ref (wA (xw X) 38)), (3, .int x3)] [] := by
  intro n
  induction n with
  | zero => intro x3 s h; exact none_no h
  | succ n hr20 =>
    intro x3 s h
    have h : b_X1_search_20  (l_X1_search_20  n) x3 s = some ((), fin) := h
    refine v_iload_n 1 C dX1_search_20 rfl ?_
    refine v_aload_n 0 C dX1_search_21 rfl ?_
    refine g_38_0 C wf_RX1_21 dX1_search_22 ?_
    refine g_8_0 C wf_RX1_45 dX1_search_25 ?_
    refine v_icmp_ge 45 C dX1_search_28 (by decide) (fun c => ?_) (fun c => ?_)
    · have h := if_t h c
      refine v_iconst C dX1_search_45 ic_0 ?_
      refine v_istore_n (L1 := [(0, _), (3, _)]) [1, 0] C dX1_search_46 (by decide) rfl ?_
      exact tl_X1_search_47 C R1  FU _ _ h
    · have h := if_f h c
      refine v_aload_n 0 C dX1_search_31 rfl ?_
      refine v_iconst C dX1_search_32 ic_1 ?_
      refine v_iload_n 1 C dX1_search_33 rfl ?_
      refine v_ishl C dX1_search_34 ?_
      refine v_iconst C dX1_search_35 ic_1 ?_
      obtain ⟨r_36, s_36, e_36, h⟩ := bd_some h
      refine v_callVv [] C (t_X1_tryHeap e_36) mw_X1_tryHeap (at_38 _ _) rfl wm_RX1_42 ⟨by decide, by decide⟩ rfl (Nat.le_of_ble_eq_true rfl) rfl dX1_search_36 ?_
      refine v_iinc (L1 := [(0, _), (3, _)]) 1 [1, 0] C dX1_search_39 rfl ic_1 (by decide) rfl ?_
      refine v_goto 20 C dX1_search_42 (by decide) ?_
      exact hr20 _ _ h
set_option maxRecDepth 4000 in
theorem t_X1_search {x1 x2 s fin : _} (h : f_X1_search x1 x2 s = some ((), fin)) : Ct yX1_search cX1_search 6 none 4 101 (fun w => [.ref (wA w 38), .int x1, .int x2]) s none fin := by
  refine Ct.ofV (by decide +kernel) (fun w => Nat.le_of_ble_eq_true rfl) (fun X C R1 => ?_)
  show V X s 0 [(0, .ref (wA (xw X) 38)), (1, .int x1), (2, .int x2)] []
  have C : Cx X "LitWindows$Finder" cX1_search 6 4 101 := C
  refine v_aload_n 0 C dX1_search_0 rfl ?_
  refine v_iload_n 1 C dX1_search_1 rfl ?_
  refine v_iload_n 2 C dX1_search_2 rfl ?_
  obtain ⟨r_3, s_3, e_3, h⟩ := bd_some h
  refine v_callVv [] C (t_X1_loadRows e_3) mw_X1_loadRows (at_38 _ _) rfl wm_RX1_33 ⟨by decide, by decide⟩ rfl (Nat.le_of_ble_eq_true rfl) rfl dX1_search_3 ?_
  refine v_aload_n 0 C dX1_search_6 rfl ?_
  refine v_ldc C wc_RX1_37 dX1_search_7 ?_
  refine p_38_10 C wf_RX1_38 dX1_search_9 ?_
  refine v_aload_n 0 C dX1_search_12 rfl ?_
  refine v_iconst C dX1_search_13 ic_0 ?_
  refine v_iconst C dX1_search_14 ic_0 ?_
  obtain ⟨r_15, s_15, e_15, h⟩ := bd_some h
  refine v_callVv [] C (t_X1_tryHeap e_15) mw_X1_tryHeap (at_38 _ _) rfl wm_RX1_42 ⟨by decide, by decide⟩ rfl (Nat.le_of_ble_eq_true rfl) rfl dX1_search_15 ?_
  refine v_iconst C dX1_search_18 ic_0 ?_
  refine v_istore_n (L1 := [(0, _), (1, _), (2, _), (3, _)]) [1, 2, 3, 0] C dX1_search_19 (by decide) rfl ?_
  refine v_sub [0, 3] (L1 := [(0, _), (3, _)]) rfl ?_
  exact tl_X1_search_20 C R1  FU _ _ h
set_option maxRecDepth 4000 in
theorem t_X10_explain {x1 s fin : _} {r : Int32} (h : f_X10_explain x1 s = some (r, fin)) : Ct yX10_explain cX10_explain 2 (some .int) 5 126 (fun w => [.ref (wA w 0), .int x1]) s (some (.int r)) fin := by
  refine Ct.ofI (by decide +kernel) (fun w => Nat.le_of_ble_eq_true rfl) (fun X C R1 => ?_)
  show V X s 0 [(0, .ref (wA (xw X) 0)), (1, .int x1)] []
  have C : Cx X "LitWindows" cX10_explain 2 5 126 := C
  refine v_iload_n 1 C dX10_explain_0 rfl ?_
  refine v_if_lt 17 C dX10_explain_1 (by decide) (fun c => ?_) (fun c => ?_)
  · have h := if_t h c
    refine v_iconst C dX10_explain_17 ic_m1 ?_
    exact v_ireth h R1 rfl dX10_explain_18
  · have h := if_f h c
    refine v_iload_n 1 C dX10_explain_4 rfl ?_
    refine v_bipush C dX10_explain_5 bp_7 ?_
    refine v_icmp_gt 17 C dX10_explain_7 (by decide) (fun c => ?_) (fun c => ?_)
    · have h := if_t h c
      refine v_iconst C dX10_explain_17 ic_m1 ?_
      exact v_ireth h R1 rfl dX10_explain_18
    · have h := if_f h c
      refine v_aload_n 0 C dX10_explain_10 rfl ?_
      obtain ⟨r_11, s_11, e_11, h⟩ := bd_some h
      refine v_callVi [] C (t_X10_hasPlant e_11) mw_X10_hasPlant (at_0 _ _) rfl wm_RX10_181 ⟨by decide, by decide⟩ rfl (Nat.le_of_ble_eq_true rfl) rfl dX10_explain_11 ?_
      refine v_if_ne 19 C dX10_explain_14 (by decide) (fun c => ?_) (fun c => ?_)
      · have h := if_f h c
        refine v_aload_n 0 C dX10_explain_19 rfl ?_
        refine g_0_7 C wf_RX10_65 dX10_explain_20 ?_
        refine v_iconst C dX10_explain_23 ic_m1 ?_
        refine v_iconst C dX10_explain_24 ic_0 ?_
        obtain ⟨r_25, s_25, e_25, h⟩ := bd_some h
        refine v_callVv [] C (t_X1_search e_25) mw_X1_search (at_38 _ _) rfl wm_RX10_185 ⟨by decide, by decide⟩ rfl (Nat.le_of_ble_eq_true rfl) rfl dX10_explain_25 ?_
        refine v_iload_n 1 C dX10_explain_28 rfl ?_
        by_cases c0 : x1 = 0
        · have h := if_t h c0
          refine v_tswI 72 C dX10_explain_29 (by rw [c0]; decide) (by rw [c0]; decide) (by rw [c0]; rfl) (by decide) ?_
          refine v_aload_n 0 C dX10_explain_72 rfl ?_
          refine g_0_7 C wf_RX10_65 dX10_explain_73 ?_
          refine g_38_10 C wf_RX10_188 dX10_explain_76 ?_
          exact v_ireth h R1 rfl dX10_explain_79
        have h := if_f h c0
        by_cases c1 : x1 = 1
        · have h := if_t h c1
          refine v_tswI 80 C dX10_explain_29 (by rw [c1]; decide) (by rw [c1]; decide) (by rw [c1]; rfl) (by decide) ?_
          refine v_aload_n 0 C dX10_explain_80 rfl ?_
          refine g_0_7 C wf_RX10_65 dX10_explain_81 ?_
          refine g_38_11 C wf_RX10_191 dX10_explain_84 ?_
          exact v_ireth h R1 rfl dX10_explain_87
        have h := if_f h c1
        by_cases c2 : x1 = 2
        · have h := if_t h c2
          refine v_tswI 88 C dX10_explain_29 (by rw [c2]; decide) (by rw [c2]; decide) (by rw [c2]; rfl) (by decide) ?_
          refine v_aload_n 0 C dX10_explain_88 rfl ?_
          refine g_0_7 C wf_RX10_65 dX10_explain_89 ?_
          refine g_38_12 C wf_RX10_194 dX10_explain_92 ?_
          exact v_ireth h R1 rfl dX10_explain_95
        have h := if_f h c2
        by_cases c3 : x1 = 3
        · have h := if_t h c3
          refine v_tswI 96 C dX10_explain_29 (by rw [c3]; decide) (by rw [c3]; decide) (by rw [c3]; rfl) (by decide) ?_
          refine v_aload_n 0 C dX10_explain_96 rfl ?_
          refine g_0_7 C wf_RX10_65 dX10_explain_97 ?_
          refine g_38_13 C wf_RX10_197 dX10_explain_100 ?_
          exact v_ireth h R1 rfl dX10_explain_103
        have h := if_f h c3
        by_cases c4 : x1 = 4
        · have h := if_t h c4
          refine v_tswI 104 C dX10_explain_29 (by rw [c4]; decide) (by rw [c4]; decide) (by rw [c4]; rfl) (by decide) ?_
          refine v_aload_n 0 C dX10_explain_104 rfl ?_
          refine g_0_7 C wf_RX10_65 dX10_explain_105 ?_
          refine g_38_14 C wf_RX10_200 dX10_explain_108 ?_
          exact v_ireth h R1 rfl dX10_explain_111
        have h := if_f h c4
        by_cases c5 : x1 = 5
        · have h := if_t h c5
          refine v_tswI 112 C dX10_explain_29 (by rw [c5]; decide) (by rw [c5]; decide) (by rw [c5]; rfl) (by decide) ?_
          refine v_aload_n 0 C dX10_explain_112 rfl ?_
          refine g_0_7 C wf_RX10_65 dX10_explain_113 ?_
          refine g_38_15 C wf_RX10_203 dX10_explain_116 ?_
          exact v_ireth h R1 rfl dX10_explain_119
        have h := if_f h c5
        by_cases c6 : x1 = 6
        · have h := if_t h c6
          refine v_tswI 120 C dX10_explain_29 (by rw [c6]; decide) (by rw [c6]; decide) (by rw [c6]; rfl) (by decide) ?_
          refine v_aload_n 0 C dX10_explain_120 rfl ?_
          refine g_0_7 C wf_RX10_65 dX10_explain_121 ?_
          refine g_38_16 C wf_RX10_206 dX10_explain_124 ?_
          exact v_ireth h R1 rfl dX10_explain_127
        have h := if_f h c6
        have q0 := lv_neT c0 (show (0 : Int32).toInt = 0 by decide)
        have q1 := lv_neT c1 (show (1 : Int32).toInt = 1 by decide)
        have q2 := lv_neT c2 (show (2 : Int32).toInt = 2 by decide)
        have q3 := lv_neT c3 (show (3 : Int32).toInt = 3 by decide)
        have q4 := lv_neT c4 (show (4 : Int32).toInt = 4 by decide)
        have q5 := lv_neT c5 (show (5 : Int32).toInt = 5 by decide)
        have q6 := lv_neT c6 (show (6 : Int32).toInt = 6 by decide)
        refine v_tswO 128 C dX10_explain_29 (by omega) (by decide) ?_
        refine v_aload_n 0 C dX10_explain_128 rfl ?_
        refine g_0_7 C wf_RX10_65 dX10_explain_129 ?_
        refine g_38_17 C wf_RX10_209 dX10_explain_132 ?_
        exact v_ireth h R1 rfl dX10_explain_135
      · have h := if_t h c
        refine v_iconst C dX10_explain_17 ic_m1 ?_
        exact v_ireth h R1 rfl dX10_explain_18
set_option maxRecDepth 4000 in
theorem tl_X11_findFirstRows_30  {X : CX} {fin : St} (C : Cx X "LitWindowsModel" cX11_findFirstRows 2 0 0) (R1 : RtV X cX11_findFirstRows fin)  : ∀ (n : Nat) (x1 : Int32) (s : St), l_X11_findFirstRows_30  n x1 s = some ((), fin) → V X s 30 [(0, .ref (wA (xw X) 74)), (1, .int x1)] [] := by
  intro n
  induction n with
  | zero => intro x1 s h; exact none_no h
  | succ n hr30 =>
    intro x1 s h
    have h : b_X11_findFirstRows_30  (l_X11_findFirstRows_30  n) x1 s = some ((), fin) := h
    refine v_iload_n 1 C dX11_findFirstRows_30 rfl ?_
    refine v_if_lt 57 C dX11_findFirstRows_31 (by decide) (fun c => ?_) (fun c => ?_)
    · have h := if_t h c
      exact v_vreth h R1 dX11_findFirstRows_57
    · have h := if_f h c
      refine v_aload_n 0 C dX11_findFirstRows_34 rfl ?_
      refine g_74_39 C wf_RX11_86 dX11_findFirstRows_35 ?_
      refine v_aload_n 0 C dX11_findFirstRows_38 rfl ?_
      refine g_74_33 C wf_RX11_70 dX11_findFirstRows_39 ?_
      refine v_iload_n 1 C dX11_findFirstRows_42 rfl ?_
      obtain ⟨hi, h⟩ := gi_some h
      refine ald_94 C hi dX11_findFirstRows_43 ?_
      refine v_aload_n 0 C dX11_findFirstRows_44 rfl ?_
      refine g_74_34 C wf_RX11_73 dX11_findFirstRows_45 ?_
      refine v_iload_n 1 C dX11_findFirstRows_48 rfl ?_
      obtain ⟨hi, h⟩ := gi_some h
      refine ald_95 C hi dX11_findFirstRows_49 ?_
      obtain ⟨hi, h⟩ := gi_some h
      refine ast_98 C hi dX11_findFirstRows_50 ?_
      refine v_iinc (L1 := [(0, _), (1, _)]) 1 [1, 0] C dX11_findFirstRows_51 rfl ic_m1 (by decide) rfl ?_
      refine v_goto 30 C dX11_findFirstRows_54 (by decide) ?_
      exact hr30 _ _ h
set_option maxRecDepth 4000 in
theorem tl_X11_findFirstRows_2  {X : CX} {fin : St} (C : Cx X "LitWindowsModel" cX11_findFirstRows 2 0 0) (R1 : RtV X cX11_findFirstRows fin)  : ∀ (n : Nat) (x1 : Int32) (s : St), l_X11_findFirstRows_2  n x1 s = some ((), fin) → V X s 2 [(0, .ref (wA (xw X) 74)), (1, .int x1)] [] := by
  intro n
  induction n with
  | zero => intro x1 s h; exact none_no h
  | succ n hr2 =>
    intro x1 s h
    have h : b_X11_findFirstRows_2  (l_X11_findFirstRows_2  n) x1 s = some ((), fin) := h
    refine v_iload_n 1 C dX11_findFirstRows_2 rfl ?_
    refine v_aload_n 0 C dX11_findFirstRows_3 rfl ?_
    refine g_74_24 C wf_RX11_221 dX11_findFirstRows_4 ?_
    refine v_icmp_ge 23 C dX11_findFirstRows_7 (by decide) (fun c => ?_) (fun c => ?_)
    · have h := if_t h c
      refine v_aload_n 0 C dX11_findFirstRows_23 rfl ?_
      refine g_74_32 C wf_RX11_227 dX11_findFirstRows_24 ?_
      refine v_iconst C dX11_findFirstRows_27 ic_1 ?_
      refine v_isub C dX11_findFirstRows_28 ?_
      refine v_istore_n (L1 := [(0, _), (1, _)]) [1, 0] C dX11_findFirstRows_29 (by decide) rfl ?_
      exact tl_X11_findFirstRows_30 C R1  FU _ _ h
    · have h := if_f h c
      refine v_aload_n 0 C dX11_findFirstRows_10 rfl ?_
      refine g_74_39 C wf_RX11_86 dX11_findFirstRows_11 ?_
      refine v_iload_n 1 C dX11_findFirstRows_14 rfl ?_
      refine v_iconst C dX11_findFirstRows_15 ic_m1 ?_
      obtain ⟨hi, h⟩ := gi_some h
      refine ast_98 C hi dX11_findFirstRows_16 ?_
      refine v_iinc (L1 := [(0, _), (1, _)]) 1 [1, 0] C dX11_findFirstRows_17 rfl ic_1 (by decide) rfl ?_
      refine v_goto 2 C dX11_findFirstRows_20 (by decide) ?_
      exact hr2 _ _ h
set_option maxRecDepth 4000 in
theorem t_X11_findFirstRows { s fin : _} (h : f_X11_findFirstRows  s = some ((), fin)) : Ct yX11_findFirstRows cX11_findFirstRows 2 none 0 0 (fun w => [.ref (wA w 74)]) s none fin := by
  refine Ct.ofV (by decide +kernel) (fun w => Nat.le_of_ble_eq_true rfl) (fun X C R1 => ?_)
  show V X s 0 [(0, .ref (wA (xw X) 74))] []
  have C : Cx X "LitWindowsModel" cX11_findFirstRows 2 0 0 := C
  refine v_iconst C dX11_findFirstRows_0 ic_0 ?_
  refine v_istore_n (L1 := [(0, _), (1, _)]) [1, 0] C dX11_findFirstRows_1 (by decide) rfl ?_
  exact tl_X11_findFirstRows_2 C R1  FU _ _ h
set_option maxRecDepth 4000 in
theorem tl_X11_ones_4  {X : CX} {r : Int32} {fin : St} (C : Cx X "LitWindowsModel" cX11_ones 3 0 0) (R1 : RtI X cX11_ones .int r fin)  : ∀ (n : Nat) (x0 : Int32) (x1 : Int32) (x2 : Int32) (s : St), l_X11_ones_4  n x0 x1 x2 s = some (r, fin) → V X s 4 [(0, .int x0), (1, .int x1), (2, .int x2)] [] := by
  intro n
  induction n with
  | zero => intro x0 x1 x2 s h; exact none_no h
  | succ n hr4 =>
    intro x0 x1 x2 s h
    have h : b_X11_ones_4  (l_X11_ones_4  n) x0 x1 x2 s = some (r, fin) := h
    refine v_iload_n 2 C dX11_ones_4 rfl ?_
    refine v_bipush C dX11_ones_5 bp_12 ?_
    refine v_icmp_ge 24 C dX11_ones_7 (by decide) (fun c => ?_) (fun c => ?_)
    · have h := if_t h c
      refine v_iload_n 1 C dX11_ones_24 rfl ?_
      exact v_ireth h R1 rfl dX11_ones_25
    · have h := if_f h c
      refine v_iload_n 1 C dX11_ones_10 rfl ?_
      refine v_iload_n 0 C dX11_ones_11 rfl ?_
      refine v_iload_n 2 C dX11_ones_12 rfl ?_
      refine v_ishr C dX11_ones_13 ?_
      refine v_iconst C dX11_ones_14 ic_1 ?_
      refine v_iand C dX11_ones_15 ?_
      refine v_iadd C dX11_ones_16 ?_
      refine v_istore_n (L1 := [(0, _), (1, _), (2, _)]) [1, 0, 2] C dX11_ones_17 (by decide) rfl ?_
      refine v_iinc (L1 := [(0, _), (1, _), (2, _)]) 2 [1, 2, 0] C dX11_ones_18 rfl ic_1 (by decide) rfl ?_
      refine v_goto 4 C dX11_ones_21 (by decide) ?_
      exact hr4 _ _ _ _ h
set_option maxRecDepth 4000 in
theorem t_X11_ones {x0 s fin : _} {r : Int32} (h : f_X11_ones x0 s = some (r, fin)) : Ct yX11_ones cX11_ones 3 (some .int) 0 0 (fun w => [.int x0]) s (some (.int r)) fin := by
  refine Ct.ofI (by decide +kernel) (fun w => Nat.le_of_ble_eq_true rfl) (fun X C R1 => ?_)
  show V X s 0 [(0, .int x0)] []
  have C : Cx X "LitWindowsModel" cX11_ones 3 0 0 := C
  refine v_iconst C dX11_ones_0 ic_0 ?_
  refine v_istore_n (L1 := [(0, _), (1, _)]) [1, 0] C dX11_ones_1 (by decide) rfl ?_
  refine v_iconst C dX11_ones_2 ic_0 ?_
  refine v_istore_n (L1 := [(0, _), (1, _), (2, _)]) [1, 2, 0] C dX11_ones_3 (by decide) rfl ?_
  exact tl_X11_ones_4 C R1  FU _ _ _ _ h
set_option maxRecDepth 4000 in
theorem tj_X11_wrong_106 {rec5 : Int32 → Int32 → Int32 → Int32 → St → Option (Int32 × St)} {X : CX} {r : Int32} {fin : St} (C : Cx X "LitWindowsModel" cX11_wrong 9 1 22) (R1 : RtI X cX11_wrong .int r fin) (hr5 : ∀ (x1 : Int32) (x2 : Int32) (x3 : Int32) (x4 : Int32) (s : St), rec5 x1 x2 x3 x4 s = some (r, fin) → V X s 5 [(0, .ref (wA (xw X) 74)), (1, .int x1), (2, .int x2), (3, .int x3), (4, .int x4)] []) {x1 x2 x3 x4 t0 s : _} (h : j_X11_wrong_106 rec5 x1 x2 x3 x4 t0 s = some (r, fin)) : V X s 106 [(0, .ref (wA (xw X) 74)), (1, .int x1), (2, .int x2), (3, .int x3), (4, .int x4)] [.int t0] := by
  refine v_istore (L1 := [(0, _), (1, _), (2, _), (3, _), (4, _), (8, _)]) [1, 2, 3, 4, 5, 0] C dX11_wrong_106 (by decide) rfl ?_
  refine v_iload_n 3 C dX11_wrong_108 rfl ?_
  refine v_iload 5 C dX11_wrong_109 rfl ?_
  refine v_if_eq 118 C dX11_wrong_111 (by decide) (fun c => ?_) (fun c => ?_)
  · have h := if_t h c
    refine v_iconst C dX11_wrong_118 ic_1 ?_
    refine v_iload 4 C dX11_wrong_119 rfl ?_
    refine v_ishl C dX11_wrong_121 ?_
    refine v_ior C dX11_wrong_122 ?_
    refine v_istore_n (L1 := [(0, _), (1, _), (2, _), (3, _), (4, _), (8, _)]) [1, 2, 3, 0, 4, 5] C dX11_wrong_123 (by decide) rfl ?_
    refine v_iinc (L1 := [(0, _), (1, _), (2, _), (3, _), (4, _), (8, _)]) 4 [1, 2, 3, 4, 0, 5] C dX11_wrong_124 rfl ic_1 (by decide) rfl ?_
    refine v_goto 5 C dX11_wrong_127 (by decide) ?_
    refine v_sub [0, 1, 2, 3, 4] (L1 := [(0, _), (1, _), (2, _), (3, _), (4, _)]) rfl ?_
    exact hr5 _ _ _ _ _ h
  · have h := if_f h c
    refine v_iconst C dX11_wrong_114 ic_0 ?_
    refine v_goto 122 C dX11_wrong_115 (by decide) ?_
    refine v_ior C dX11_wrong_122 ?_
    refine v_istore_n (L1 := [(0, _), (1, _), (2, _), (3, _), (4, _), (8, _)]) [1, 2, 3, 0, 4, 5] C dX11_wrong_123 (by decide) rfl ?_
    refine v_iinc (L1 := [(0, _), (1, _), (2, _), (3, _), (4, _), (8, _)]) 4 [1, 2, 3, 4, 0, 5] C dX11_wrong_124 rfl ic_1 (by decide) rfl ?_
    refine v_goto 5 C dX11_wrong_127 (by decide) ?_
    refine v_sub [0, 1, 2, 3, 4] (L1 := [(0, _), (1, _), (2, _), (3, _), (4, _)]) rfl ?_
    exact hr5 _ _ _ _ _ h
set_option maxRecDepth 4000 in
theorem tj_X11_wrong_39 {rec5 : Int32 → Int32 → Int32 → Int32 → St → Option (Int32 × St)} {X : CX} {r : Int32} {fin : St} (C : Cx X "LitWindowsModel" cX11_wrong 9 1 22) (R1 : RtI X cX11_wrong .int r fin) (hr5 : ∀ (x1 : Int32) (x2 : Int32) (x3 : Int32) (x4 : Int32) (s : St), rec5 x1 x2 x3 x4 s = some (r, fin) → V X s 5 [(0, .ref (wA (xw X) 74)), (1, .int x1), (2, .int x2), (3, .int x3), (4, .int x4)] []) {x1 x2 x3 x4 t0 s : _} (h : j_X11_wrong_39 rec5 x1 x2 x3 x4 t0 s = some (r, fin)) : V X s 39 [(0, .ref (wA (xw X) 74)), (1, .int x1), (2, .int x2), (3, .int x3), (4, .int x4)] [.int t0] := by
  refine v_istore (L1 := [(0, _), (1, _), (2, _), (3, _), (4, _), (6, _)]) [1, 2, 3, 4, 5, 0] C dX11_wrong_39 (by decide) rfl ?_
  refine v_aload_n 0 C dX11_wrong_41 rfl ?_
  refine g_74_39 C wf_RX11_86 dX11_wrong_42 ?_
  refine v_iload 4 C dX11_wrong_45 rfl ?_
  obtain ⟨hi, h⟩ := gi_some h
  refine ald_98 C hi dX11_wrong_47 ?_
  refine v_istore (L1 := [(0, _), (1, _), (2, _), (3, _), (4, _), (6, _), (7, _)]) [1, 2, 3, 4, 5, 6, 0] C dX11_wrong_48 (by decide) rfl ?_
  refine v_iload 6 C dX11_wrong_50 rfl ?_
  refine v_iconst C dX11_wrong_52 ic_m1 ?_
  refine v_icmp_ne 70 C dX11_wrong_53 (by decide) (fun c => ?_) (fun c => ?_)
  · have h := if_f h c
    refine v_iload 5 C dX11_wrong_70 rfl ?_
    refine v_ldc C wc_RX11_233 dX11_wrong_72 ?_
    refine v_icmp_eq 105 C dX11_wrong_74 (by decide) (fun c => ?_) (fun c => ?_)
    · have h := if_t h c
      refine v_iconst C dX11_wrong_105 ic_0 ?_
      refine v_sub [0, 1, 2, 3, 4] (L1 := [(0, _), (1, _), (2, _), (3, _), (4, _)]) rfl ?_
      exact tj_X11_wrong_106 C R1 hr5 h
    · have h := if_f h c
      refine v_iload 5 C dX11_wrong_77 rfl ?_
      refine v_iload 6 C dX11_wrong_79 rfl ?_
      refine v_isub C dX11_wrong_81 ?_
      refine v_aload_n 0 C dX11_wrong_82 rfl ?_
      refine g_74_35 C wf_RX11_255 dX11_wrong_83 ?_
      refine v_icmp_gt 105 C dX11_wrong_86 (by decide) (fun c => ?_) (fun c => ?_)
      · have h := if_t h c
        refine v_iconst C dX11_wrong_105 ic_0 ?_
        refine v_sub [0, 1, 2, 3, 4] (L1 := [(0, _), (1, _), (2, _), (3, _), (4, _)]) rfl ?_
        exact tj_X11_wrong_106 C R1 hr5 h
      · have h := if_f h c
        refine v_iload 6 C dX11_wrong_89 rfl ?_
        refine v_iload 5 C dX11_wrong_91 rfl ?_
        refine v_isub C dX11_wrong_93 ?_
        refine v_aload_n 0 C dX11_wrong_94 rfl ?_
        refine g_74_35 C wf_RX11_255 dX11_wrong_95 ?_
        refine v_icmp_gt 105 C dX11_wrong_98 (by decide) (fun c => ?_) (fun c => ?_)
        · have h := if_t h c
          refine v_iconst C dX11_wrong_105 ic_0 ?_
          refine v_sub [0, 1, 2, 3, 4] (L1 := [(0, _), (1, _), (2, _), (3, _), (4, _)]) rfl ?_
          exact tj_X11_wrong_106 C R1 hr5 h
        · have h := if_f h c
          refine v_iconst C dX11_wrong_101 ic_1 ?_
          refine v_goto 106 C dX11_wrong_102 (by decide) ?_
          refine v_sub [0, 1, 2, 3, 4] (L1 := [(0, _), (1, _), (2, _), (3, _), (4, _)]) rfl ?_
          exact tj_X11_wrong_106 C R1 hr5 h
  · have h := if_t h c
    refine v_iload 5 C dX11_wrong_56 rfl ?_
    refine v_iload_n 2 C dX11_wrong_58 rfl ?_
    refine v_icmp_le 66 C dX11_wrong_59 (by decide) (fun c => ?_) (fun c => ?_)
    · have h := if_t h c
      refine v_iconst C dX11_wrong_66 ic_0 ?_
      refine v_goto 106 C dX11_wrong_67 (by decide) ?_
      refine v_sub [0, 1, 2, 3, 4] (L1 := [(0, _), (1, _), (2, _), (3, _), (4, _)]) rfl ?_
      exact tj_X11_wrong_106 C R1 hr5 h
    · have h := if_f h c
      refine v_iconst C dX11_wrong_62 ic_1 ?_
      refine v_goto 106 C dX11_wrong_63 (by decide) ?_
      refine v_sub [0, 1, 2, 3, 4] (L1 := [(0, _), (1, _), (2, _), (3, _), (4, _)]) rfl ?_
      exact tj_X11_wrong_106 C R1 hr5 h
set_option maxRecDepth 4000 in
theorem tl_X11_wrong_5  {X : CX} {r : Int32} {fin : St} (C : Cx X "LitWindowsModel" cX11_wrong 9 1 22) (R1 : RtI X cX11_wrong .int r fin)  : ∀ (n : Nat) (x1 : Int32) (x2 : Int32) (x3 : Int32) (x4 : Int32) (s : St), l_X11_wrong_5  n x1 x2 x3 x4 s = some (r, fin) → V X s 5 [(0, .ref (wA (xw X) 74)), (1, .int x1), (2, .int x2), (3, .int x3), (4, .int x4)] [] := by
  intro n
  induction n with
  | zero => intro x1 x2 x3 x4 s h; exact none_no h
  | succ n hr5 =>
    intro x1 x2 x3 x4 s h
    have h : b_X11_wrong_5  (l_X11_wrong_5  n) x1 x2 x3 x4 s = some (r, fin) := h
    refine v_iload 4 C dX11_wrong_5 rfl ?_
    refine v_aload_n 0 C dX11_wrong_7 rfl ?_
    refine g_74_24 C wf_RX11_221 dX11_wrong_8 ?_
    refine v_icmp_ge 130 C dX11_wrong_11 (by decide) (fun c => ?_) (fun c => ?_)
    · have h := if_t h c
      refine v_iload_n 3 C dX11_wrong_130 rfl ?_
      exact v_ireth h R1 rfl dX11_wrong_131
    · have h := if_f h c
      refine v_aload_n 0 C dX11_wrong_14 rfl ?_
      refine v_iload 4 C dX11_wrong_15 rfl ?_
      refine v_iconst C dX11_wrong_17 ic_0 ?_
      obtain ⟨r_18, s_18, e_18, h⟩ := bd_some h
      refine v_callVi [] C (t_X11_litAt e_18) mw_X11_litAt (at_74 _ _) rfl wm_RX11_248 ⟨by decide, by decide⟩ rfl (Nat.le_of_ble_eq_true rfl) rfl dX11_wrong_18 ?_
      refine v_istore (L1 := [(0, _), (1, _), (2, _), (3, _), (4, _), (5, _)]) [1, 2, 3, 4, 5, 0] C dX11_wrong_21 (by decide) rfl ?_
      refine v_iload 5 C dX11_wrong_23 rfl ?_
      refine v_ldc C wc_RX11_233 dX11_wrong_25 ?_
      refine v_icmp_ne 35 C dX11_wrong_27 (by decide) (fun c => ?_) (fun c => ?_)
      · have h := if_f h c
        refine v_iload 5 C dX11_wrong_35 rfl ?_
        refine v_iload_n 1 C dX11_wrong_37 rfl ?_
        refine v_iadd C dX11_wrong_38 ?_
        refine v_sub [0, 1, 2, 3, 4] (L1 := [(0, _), (1, _), (2, _), (3, _), (4, _)]) rfl ?_
        exact tj_X11_wrong_39 C R1 hr5 h
      · have h := if_t h c
        refine v_ldc C wc_RX11_233 dX11_wrong_30 ?_
        refine v_goto 39 C dX11_wrong_32 (by decide) ?_
        refine v_sub [0, 1, 2, 3, 4] (L1 := [(0, _), (1, _), (2, _), (3, _), (4, _)]) rfl ?_
        exact tj_X11_wrong_39 C R1 hr5 h
set_option maxRecDepth 4000 in
theorem t_X11_wrong {x1 x2 s fin : _} {r : Int32} (h : f_X11_wrong x1 x2 s = some (r, fin)) : Ct yX11_wrong cX11_wrong 9 (some .int) 1 22 (fun w => [.ref (wA w 74), .int x1, .int x2]) s (some (.int r)) fin := by
  refine Ct.ofI (by decide +kernel) (fun w => Nat.le_of_ble_eq_true rfl) (fun X C R1 => ?_)
  show V X s 0 [(0, .ref (wA (xw X) 74)), (1, .int x1), (2, .int x2)] []
  have C : Cx X "LitWindowsModel" cX11_wrong 9 1 22 := C
  refine v_iconst C dX11_wrong_0 ic_0 ?_
  refine v_istore_n (L1 := [(0, _), (1, _), (2, _), (3, _)]) [1, 2, 3, 0] C dX11_wrong_1 (by decide) rfl ?_
  refine v_iconst C dX11_wrong_2 ic_0 ?_
  refine v_istore (L1 := [(0, _), (1, _), (2, _), (3, _), (4, _)]) [1, 2, 3, 4, 0] C dX11_wrong_3 (by decide) rfl ?_
  exact tl_X11_wrong_5 C R1  FU _ _ _ _ _ h
