set_option maxRecDepth 4000 in
theorem t_X11_told {x1 x2 s fin : _} {r : Int32} (h : f_X11_told x1 x2 s = some (r, fin)) : Ct yX11_told cX11_told 3 (some .int) 4 93 (fun w => [.ref (wA w 74), .int x1, .int x2]) s (some (.int r)) fin := by
  refine Ct.ofI (by decide +kernel) (fun w => Nat.le_of_ble_eq_true rfl) (fun X C R1 => ?_)
  show V X s 0 [(0, .ref (wA (xw X) 74)), (1, .int x1), (2, .int x2)] []
  have C : Cx X "LitWindowsModel" cX11_told 3 4 93 := C
  refine v_aload_n 0 C dX11_told_0 rfl ?_
  refine v_iload_n 1 C dX11_told_1 rfl ?_
  obtain ⟨r_2, s_2, e_2, h⟩ := bd_some h
  refine v_callVi [] C (t_X11_isPoint e_2) mw_X11_isPoint (at_74 _ _) rfl wm_RX11_241 ⟨by decide, by decide⟩ rfl (Nat.le_of_ble_eq_true rfl) rfl dX11_told_2 ?_
  refine v_if_eq 18 C dX11_told_5 (by decide) (fun c => ?_) (fun c => ?_)
  · have h := if_t h c
    refine v_iconst C dX11_told_18 ic_m1 ?_
    exact v_ireth h R1 rfl dX11_told_19
  · have h := if_f h c
    refine v_iload_n 2 C dX11_told_8 rfl ?_
    refine v_iconst C dX11_told_9 ic_1 ?_
    refine v_bipush C dX11_told_10 bp_30 ?_
    obtain ⟨r_12, s_12, e_12, h⟩ := bd_some h
    refine v_callSi [] C (t_X11_in e_12) mw_X11_in wm_RX11_98 ⟨by decide, by decide⟩ rfl (Nat.le_of_ble_eq_true rfl) rfl dX11_told_12 ?_
    refine v_if_ne 20 C dX11_told_15 (by decide) (fun c => ?_) (fun c => ?_)
    · have h := if_f h c
      refine v_aload_n 0 C dX11_told_20 rfl ?_
      obtain ⟨r_21, s_21, e_21, h⟩ := bd_some h
      refine v_callVv [] C (t_X11_findShown e_21) mw_X11_findShown (at_74 _ _) rfl wm_RX11_320 ⟨by decide, by decide⟩ rfl (Nat.le_of_ble_eq_true rfl) rfl dX11_told_21 ?_
      refine v_aload_n 0 C dX11_told_24 rfl ?_
      refine v_iload_n 1 C dX11_told_25 rfl ?_
      refine v_iload_n 2 C dX11_told_26 rfl ?_
      obtain ⟨r_27, s_27, e_27, h⟩ := bd_some h
      refine v_callVi [] C (t_X11_toldAt e_27) mw_X11_toldAt (at_74 _ _) rfl wm_RX11_323 ⟨by decide, by decide⟩ rfl (Nat.le_of_ble_eq_true rfl) rfl dX11_told_27 ?_
      exact v_ireth h R1 rfl dX11_told_30
    · have h := if_t h c
      refine v_iconst C dX11_told_18 ic_m1 ?_
      exact v_ireth h R1 rfl dX11_told_19
set_option maxRecDepth 4000 in
theorem tl_X0_sum_4  {X : CX} {r : Int32} {fin : St} (C : Cx X "LitWindows$Crew" cX0_sum 5 3 70) (R1 : RtI X cX0_sum .int r fin)  : ∀ (n : Nat) (x1 : Int32) (x2 : Int32) (x3 : Int32) (s : St), l_X0_sum_4  n x1 x2 x3 s = some (r, fin) → V X s 4 [(0, .ref (wA (xw X) 45)), (1, .int x1), (2, .int x2), (3, .int x3)] [] := by
  intro n
  induction n with
  | zero => intro x1 x2 x3 s h; exact none_no h
  | succ n hr4 =>
    intro x1 x2 x3 s h
    have h : b_X0_sum_4  (l_X0_sum_4  n) x1 x2 x3 s = some (r, fin) := h
    refine v_iload_n 3 C dX0_sum_4 rfl ?_
    refine v_aload_n 0 C dX0_sum_5 rfl ?_
    refine g_45_0 C wf_RX0_26 dX0_sum_6 ?_
    refine g_8_0 C wf_RX0_57 dX0_sum_9 ?_
    refine v_icmp_ge 50 C dX0_sum_12 (by decide) (fun c => ?_) (fun c => ?_)
    · have h := if_t h c
      refine v_iload_n 2 C dX0_sum_50 rfl ?_
      exact v_ireth h R1 rfl dX0_sum_51
    · have h := if_f h c
      refine v_aload_n 0 C dX0_sum_15 rfl ?_
      refine v_iload_n 3 C dX0_sum_16 rfl ?_
      refine v_iload_n 1 C dX0_sum_17 rfl ?_
      obtain ⟨r_18, s_18, e_18, h⟩ := bd_some h
      refine v_callVi [] C (t_X0_tell e_18) mw_X0_tell (at_45 _ _) rfl wm_RX0_102 ⟨by decide, by decide⟩ rfl (Nat.le_of_ble_eq_true rfl) rfl dX0_sum_18 ?_
      refine v_istore (L1 := [(0, _), (1, _), (2, _), (3, _), (4, _)]) [1, 2, 3, 4, 0] C dX0_sum_21 (by decide) rfl ?_
      refine v_iload_n 2 C dX0_sum_23 rfl ?_
      refine v_iload 4 C dX0_sum_24 rfl ?_
      refine v_iconst C dX0_sum_26 ic_m1 ?_
      refine v_icmp_ne 40 C dX0_sum_27 (by decide) (fun c => ?_) (fun c => ?_)
      · have h := if_f h c
        refine v_iload 4 C dX0_sum_40 rfl ?_
        refine v_iadd C dX0_sum_42 ?_
        refine v_istore_n (L1 := [(0, _), (1, _), (2, _), (3, _), (4, _)]) [1, 2, 0, 3, 4] C dX0_sum_43 (by decide) rfl ?_
        refine v_iinc (L1 := [(0, _), (1, _), (2, _), (3, _), (4, _)]) 3 [1, 2, 3, 0, 4] C dX0_sum_44 rfl ic_1 (by decide) rfl ?_
        refine v_goto 4 C dX0_sum_47 (by decide) ?_
        refine v_sub [0, 1, 2, 3] (L1 := [(0, _), (1, _), (2, _), (3, _)]) rfl ?_
        exact hr4 _ _ _ _ h
      · have h := if_t h c
        refine v_aload_n 0 C dX0_sum_30 rfl ?_
        refine g_45_2 C wf_RX0_34 dX0_sum_31 ?_
        refine g_42_4 C wf_RX0_89 dX0_sum_34 ?_
        refine v_goto 42 C dX0_sum_37 (by decide) ?_
        refine v_iadd C dX0_sum_42 ?_
        refine v_istore_n (L1 := [(0, _), (1, _), (2, _), (3, _), (4, _)]) [1, 2, 0, 3, 4] C dX0_sum_43 (by decide) rfl ?_
        refine v_iinc (L1 := [(0, _), (1, _), (2, _), (3, _), (4, _)]) 3 [1, 2, 3, 0, 4] C dX0_sum_44 rfl ic_1 (by decide) rfl ?_
        refine v_goto 4 C dX0_sum_47 (by decide) ?_
        refine v_sub [0, 1, 2, 3] (L1 := [(0, _), (1, _), (2, _), (3, _)]) rfl ?_
        exact hr4 _ _ _ _ h
set_option maxRecDepth 4000 in
theorem t_X0_sum {x1 s fin : _} {r : Int32} (h : f_X0_sum x1 s = some (r, fin)) : Ct yX0_sum cX0_sum 5 (some .int) 3 70 (fun w => [.ref (wA w 45), .int x1]) s (some (.int r)) fin := by
  refine Ct.ofI (by decide +kernel) (fun w => Nat.le_of_ble_eq_true rfl) (fun X C R1 => ?_)
  show V X s 0 [(0, .ref (wA (xw X) 45)), (1, .int x1)] []
  have C : Cx X "LitWindows$Crew" cX0_sum 5 3 70 := C
  refine v_iconst C dX0_sum_0 ic_0 ?_
  refine v_istore_n (L1 := [(0, _), (1, _), (2, _)]) [1, 2, 0] C dX0_sum_1 (by decide) rfl ?_
  refine v_iconst C dX0_sum_2 ic_0 ?_
  refine v_istore_n (L1 := [(0, _), (1, _), (2, _), (3, _)]) [1, 2, 3, 0] C dX0_sum_3 (by decide) rfl ?_
  exact tl_X0_sum_4 C R1  FU _ _ _ _ h
set_option maxRecDepth 4000 in
theorem tl_X0_seekChange_36 {rec21 : Int32 → Int32 → St → Option (Unit × St)} {X : CX} {fin : St} (C : Cx X "LitWindows$Crew" cX0_seekChange 5 4 94) (R1 : RtV X cX0_seekChange fin) (hr21 : ∀ (x1 : Int32) (x2 : Int32) (s : St), rec21 x1 x2 s = some ((), fin) → V X s 21 [(0, .ref (wA (xw X) 45)), (1, .int x1), (2, .int x2)] []) : ∀ (n : Nat) (x1 : Int32) (x2 : Int32) (x3 : Int32) (s : St), l_X0_seekChange_36 rec21 n x1 x2 x3 s = some ((), fin) → V X s 36 [(0, .ref (wA (xw X) 45)), (1, .int x1), (2, .int x2), (3, .int x3)] [] := by
  intro n
  induction n with
  | zero => intro x1 x2 x3 s h; exact none_no h
  | succ n hr36 =>
    intro x1 x2 x3 s h
    have h : b_X0_seekChange_36 rec21 (l_X0_seekChange_36 rec21 n) x1 x2 x3 s = some ((), fin) := h
    refine v_iload_n 3 C dX0_seekChange_36 rfl ?_
    refine v_aload_n 0 C dX0_seekChange_37 rfl ?_
    refine g_45_0 C wf_RX0_26 dX0_seekChange_38 ?_
    refine g_8_2 C wf_RX0_38 dX0_seekChange_41 ?_
    refine v_icmp_ge 97 C dX0_seekChange_44 (by decide) (fun c => ?_) (fun c => ?_)
    · have h := if_t h c
      refine v_iinc (L1 := [(0, _), (1, _), (2, _), (3, _)]) 2 [1, 2, 0, 3] C dX0_seekChange_97 rfl ic_1 (by decide) rfl ?_
      refine v_goto 21 C dX0_seekChange_100 (by decide) ?_
      refine v_sub [0, 1, 2] (L1 := [(0, _), (1, _), (2, _)]) rfl ?_
      exact hr21 _ _ _ h
    · have h := if_f h c
      refine v_aload_n 0 C dX0_seekChange_47 rfl ?_
      refine v_iload_n 2 C dX0_seekChange_48 rfl ?_
      refine v_iload_n 3 C dX0_seekChange_49 rfl ?_
      obtain ⟨r_50, s_50, e_50, h⟩ := bd_some h
      refine v_callVv [] C (t_X0_swap e_50) mw_X0_swap (at_45 _ _) rfl wm_RX0_117 ⟨by decide, by decide⟩ rfl (Nat.le_of_ble_eq_true rfl) rfl dX0_seekChange_50 ?_
      refine v_aload_n 0 C dX0_seekChange_53 rfl ?_
      refine v_iload_n 1 C dX0_seekChange_54 rfl ?_
      obtain ⟨r_55, s_55, e_55, h⟩ := bd_some h
      refine v_callVi [] C (t_X0_sum e_55) mw_X0_sum (at_45 _ _) rfl wm_RX0_111 ⟨by decide, by decide⟩ rfl (Nat.le_of_ble_eq_true rfl) rfl dX0_seekChange_55 ?_
      refine v_istore (L1 := [(0, _), (1, _), (2, _), (3, _), (4, _)]) [1, 2, 3, 4, 0] C dX0_seekChange_58 (by decide) rfl ?_
      refine v_aload_n 0 C dX0_seekChange_60 rfl ?_
      refine v_iload_n 2 C dX0_seekChange_61 rfl ?_
      refine v_iload_n 3 C dX0_seekChange_62 rfl ?_
      obtain ⟨r_63, s_63, e_63, h⟩ := bd_some h
      refine v_callVv [] C (t_X0_swap e_63) mw_X0_swap (at_45 _ _) rfl wm_RX0_117 ⟨by decide, by decide⟩ rfl (Nat.le_of_ble_eq_true rfl) rfl dX0_seekChange_63 ?_
      refine v_iload 4 C dX0_seekChange_66 rfl ?_
      refine v_aload_n 0 C dX0_seekChange_68 rfl ?_
      refine g_45_10 C wf_RX0_114 dX0_seekChange_69 ?_
      refine v_icmp_ge 91 C dX0_seekChange_72 (by decide) (fun c => ?_) (fun c => ?_)
      · have h := if_t h c
        refine v_iinc (L1 := [(0, _), (1, _), (2, _), (3, _), (4, _)]) 3 [1, 2, 3, 0, 4] C dX0_seekChange_91 rfl ic_1 (by decide) rfl ?_
        refine v_goto 36 C dX0_seekChange_94 (by decide) ?_
        refine v_sub [0, 1, 2, 3] (L1 := [(0, _), (1, _), (2, _), (3, _)]) rfl ?_
        exact hr36 _ _ _ _ h
      · have h := if_f h c
        refine v_aload_n 0 C dX0_seekChange_75 rfl ?_
        refine v_iload_n 2 C dX0_seekChange_76 rfl ?_
        refine p_45_8 C wf_RX0_105 dX0_seekChange_77 ?_
        refine v_aload_n 0 C dX0_seekChange_80 rfl ?_
        refine v_iload_n 3 C dX0_seekChange_81 rfl ?_
        refine p_45_9 C wf_RX0_108 dX0_seekChange_82 ?_
        refine v_aload_n 0 C dX0_seekChange_85 rfl ?_
        refine v_iload 4 C dX0_seekChange_86 rfl ?_
        refine p_45_10 C wf_RX0_114 dX0_seekChange_88 ?_
        refine v_iinc (L1 := [(0, _), (1, _), (2, _), (3, _), (4, _)]) 3 [1, 2, 3, 0, 4] C dX0_seekChange_91 rfl ic_1 (by decide) rfl ?_
        refine v_goto 36 C dX0_seekChange_94 (by decide) ?_
        refine v_sub [0, 1, 2, 3] (L1 := [(0, _), (1, _), (2, _), (3, _)]) rfl ?_
        exact hr36 _ _ _ _ h
set_option maxRecDepth 4000 in
theorem tl_X0_seekChange_21  {X : CX} {fin : St} (C : Cx X "LitWindows$Crew" cX0_seekChange 5 4 94) (R1 : RtV X cX0_seekChange fin)  : ∀ (n : Nat) (x1 : Int32) (x2 : Int32) (s : St), l_X0_seekChange_21  n x1 x2 s = some ((), fin) → V X s 21 [(0, .ref (wA (xw X) 45)), (1, .int x1), (2, .int x2)] [] := by
  intro n
  induction n with
  | zero => intro x1 x2 s h; exact none_no h
  | succ n hr21 =>
    intro x1 x2 s h
    have h : b_X0_seekChange_21  (l_X0_seekChange_21  n) x1 x2 s = some ((), fin) := h
    refine v_iload_n 2 C dX0_seekChange_21 rfl ?_
    refine v_aload_n 0 C dX0_seekChange_22 rfl ?_
    refine g_45_0 C wf_RX0_26 dX0_seekChange_23 ?_
    refine g_8_2 C wf_RX0_38 dX0_seekChange_26 ?_
    refine v_icmp_ge 103 C dX0_seekChange_29 (by decide) (fun c => ?_) (fun c => ?_)
    · have h := if_t h c
      exact v_vreth h R1 dX0_seekChange_103
    · have h := if_f h c
      refine v_iload_n 2 C dX0_seekChange_32 rfl ?_
      refine v_iconst C dX0_seekChange_33 ic_1 ?_
      refine v_iadd C dX0_seekChange_34 ?_
      refine v_istore_n (L1 := [(0, _), (1, _), (2, _), (3, _)]) [1, 2, 3, 0] C dX0_seekChange_35 (by decide) rfl ?_
      exact tl_X0_seekChange_36 C R1 hr21 FU _ _ _ _ h
set_option maxRecDepth 4000 in
theorem t_X0_seekChange {x1 s fin : _} (h : f_X0_seekChange x1 s = some ((), fin)) : Ct yX0_seekChange cX0_seekChange 5 none 4 94 (fun w => [.ref (wA w 45), .int x1]) s none fin := by
  refine Ct.ofV (by decide +kernel) (fun w => Nat.le_of_ble_eq_true rfl) (fun X C R1 => ?_)
  show V X s 0 [(0, .ref (wA (xw X) 45)), (1, .int x1)] []
  have C : Cx X "LitWindows$Crew" cX0_seekChange 5 4 94 := C
  unfold f_X0_seekChange at h
  refine v_aload_n 0 C dX0_seekChange_0 rfl ?_
  refine v_iconst C dX0_seekChange_1 ic_m1 ?_
  refine p_45_8 C wf_RX0_105 dX0_seekChange_2 ?_
  refine v_aload_n 0 C dX0_seekChange_5 rfl ?_
  refine v_iconst C dX0_seekChange_6 ic_m1 ?_
  refine p_45_9 C wf_RX0_108 dX0_seekChange_7 ?_
  refine v_aload_n 0 C dX0_seekChange_10 rfl ?_
  refine v_aload_n 0 C dX0_seekChange_11 rfl ?_
  refine v_iload_n 1 C dX0_seekChange_12 rfl ?_
  obtain ⟨r_13, s_13, e_13, h⟩ := bd_some h
  refine v_callVi [_] C (t_X0_sum e_13) mw_X0_sum (at_45 _ _) rfl wm_RX0_111 ⟨by decide, by decide⟩ rfl (Nat.le_of_ble_eq_true rfl) rfl dX0_seekChange_13 ?_
  refine p_45_10 C wf_RX0_114 dX0_seekChange_16 ?_
  refine v_iconst C dX0_seekChange_19 ic_0 ?_
  refine v_istore_n (L1 := [(0, _), (1, _), (2, _)]) [1, 2, 0] C dX0_seekChange_20 (by decide) rfl ?_
  exact tl_X0_seekChange_21 C R1  FU _ _ _ h
set_option maxRecDepth 4000 in
theorem t_X10_wall {x1 x2 s fin : _} {r : Int32} (h : f_X10_wall x1 x2 s = some (r, fin)) : Ct yX10_wall cX10_wall 3 (some .int) 6 142 (fun w => [.ref (wA w 0), .int x1, .int x2]) s (some (.int r)) fin := by
  refine Ct.ofI (by decide +kernel) (fun w => Nat.le_of_ble_eq_true rfl) (fun X C R1 => ?_)
  show V X s 0 [(0, .ref (wA (xw X) 0)), (1, .int x1), (2, .int x2)] []
  have C : Cx X "LitWindows" cX10_wall 3 6 142 := C
  refine v_iload_n 2 C dX10_wall_0 rfl ?_
  refine v_if_lt 23 C dX10_wall_1 (by decide) (fun c => ?_) (fun c => ?_)
  · have h := if_t h c
    refine v_iconst C dX10_wall_23 ic_m1 ?_
    exact v_ireth h R1 rfl dX10_wall_24
  · have h := if_f h c
    refine v_iload_n 2 C dX10_wall_4 rfl ?_
    refine v_iconst C dX10_wall_5 ic_3 ?_
    refine v_icmp_gt 23 C dX10_wall_6 (by decide) (fun c => ?_) (fun c => ?_)
    · have h := if_t h c
      refine v_iconst C dX10_wall_23 ic_m1 ?_
      exact v_ireth h R1 rfl dX10_wall_24
    · have h := if_f h c
      refine v_iload_n 1 C dX10_wall_9 rfl ?_
      obtain ⟨r_10, s_10, e_10, h⟩ := bd_some h
      refine v_callSi [] C (t_X10_isPace e_10) mw_X10_isPace wm_RX10_246 ⟨by decide, by decide⟩ rfl (Nat.le_of_ble_eq_true rfl) rfl dX10_wall_10 ?_
      refine v_if_eq 23 C dX10_wall_13 (by decide) (fun c => ?_) (fun c => ?_)
      · have h := if_t h c
        refine v_iconst C dX10_wall_23 ic_m1 ?_
        exact v_ireth h R1 rfl dX10_wall_24
      · have h := if_f h c
        refine v_aload_n 0 C dX10_wall_16 rfl ?_
        obtain ⟨r_17, s_17, e_17, h⟩ := bd_some h
        refine v_callVi [] C (t_X10_hasPlant e_17) mw_X10_hasPlant (at_0 _ _) rfl wm_RX10_181 ⟨by decide, by decide⟩ rfl (Nat.le_of_ble_eq_true rfl) rfl dX10_wall_17 ?_
        refine v_if_ne 25 C dX10_wall_20 (by decide) (fun c => ?_) (fun c => ?_)
        · have h := if_f h c
          refine v_aload_n 0 C dX10_wall_25 rfl ?_
          refine g_0_9 C wf_RX10_83 dX10_wall_26 ?_
          obtain ⟨r_29, s_29, e_29, h⟩ := bd_some h
          refine v_callVv [] C (t_X0_prepare e_29) mw_X0_prepare (at_45 _ _) rfl wm_RX10_249 ⟨by decide, by decide⟩ rfl (Nat.le_of_ble_eq_true rfl) rfl dX10_wall_29 ?_
          refine v_iload_n 2 C dX10_wall_32 rfl ?_
          refine v_if_ne 45 C dX10_wall_33 (by decide) (fun c => ?_) (fun c => ?_)
          · have h := if_f h c
            refine v_aload_n 0 C dX10_wall_45 rfl ?_
            refine g_0_9 C wf_RX10_83 dX10_wall_46 ?_
            refine v_iload_n 1 C dX10_wall_49 rfl ?_
            obtain ⟨r_50, s_50, e_50, h⟩ := bd_some h
            refine v_callVv [] C (t_X0_seekChange e_50) mw_X0_seekChange (at_45 _ _) rfl wm_RX10_258 ⟨by decide, by decide⟩ rfl (Nat.le_of_ble_eq_true rfl) rfl dX10_wall_50 ?_
            refine v_aload_n 0 C dX10_wall_53 rfl ?_
            refine g_0_9 C wf_RX10_83 dX10_wall_54 ?_
            refine g_45_8 C wf_RX10_261 dX10_wall_57 ?_
            refine v_iconst C dX10_wall_60 ic_m1 ?_
            refine v_icmp_ne 66 C dX10_wall_61 (by decide) (fun c => ?_) (fun c => ?_)
            · have h := if_f h c
              refine v_iload_n 2 C dX10_wall_66 rfl ?_
              by_cases c1 : x2 = 1
              · have h := if_t h c1
                refine v_lsw 92 C dX10_wall_67 (by decide) (by rw [c1]) (by decide) ?_
                refine v_aload_n 0 C dX10_wall_92 rfl ?_
                refine g_0_9 C wf_RX10_83 dX10_wall_93 ?_
                refine g_45_8 C wf_RX10_261 dX10_wall_96 ?_
                exact v_ireth h R1 rfl dX10_wall_99
              have h := if_f h c1
              by_cases c2 : x2 = 2
              · have h := if_t h c2
                refine v_lsw 100 C dX10_wall_67 (by decide) (by rw [c2]) (by decide) ?_
                refine v_aload_n 0 C dX10_wall_100 rfl ?_
                refine g_0_9 C wf_RX10_83 dX10_wall_101 ?_
                refine g_45_9 C wf_RX10_264 dX10_wall_104 ?_
                exact v_ireth h R1 rfl dX10_wall_107
              have h := if_f h c2
              refine v_lsw 108 C dX10_wall_67 (by decide) (by show Op.lookupswitch.offset [(1, 25), (2, 33)] 41 _ = 41; rw [lv_osw c1 (show (1 : Int32).toInt = 1 by decide), lv_osw c2 (show (2 : Int32).toInt = 2 by decide)]; rfl) (by decide) ?_
              refine v_aload_n 0 C dX10_wall_108 rfl ?_
              refine g_0_9 C wf_RX10_83 dX10_wall_109 ?_
              refine g_45_10 C wf_RX10_267 dX10_wall_112 ?_
              exact v_ireth h R1 rfl dX10_wall_115
            · have h := if_t h c
              refine v_iconst C dX10_wall_64 ic_m1 ?_
              exact v_ireth h R1 rfl dX10_wall_65
          · have h := if_t h c
            refine v_aload_n 0 C dX10_wall_36 rfl ?_
            refine g_0_9 C wf_RX10_83 dX10_wall_37 ?_
            refine v_iload_n 1 C dX10_wall_40 rfl ?_
            obtain ⟨r_41, s_41, e_41, h⟩ := bd_some h
            refine v_callVi [] C (t_X0_sum e_41) mw_X0_sum (at_45 _ _) rfl wm_RX10_255 ⟨by decide, by decide⟩ rfl (Nat.le_of_ble_eq_true rfl) rfl dX10_wall_41 ?_
            exact v_ireth h R1 rfl dX10_wall_44
        · have h := if_t h c
          refine v_iconst C dX10_wall_23 ic_m1 ?_
          exact v_ireth h R1 rfl dX10_wall_24
set_option maxRecDepth 4000 in
theorem tl_X11_sum_4  {X : CX} {r : Int32} {fin : St} (C : Cx X "LitWindowsModel" cX11_sum 5 2 51) (R1 : RtI X cX11_sum .int r fin)  : ∀ (n : Nat) (x1 : Int32) (x2 : Int32) (x3 : Int32) (s : St), l_X11_sum_4  n x1 x2 x3 s = some (r, fin) → V X s 4 [(0, .ref (wA (xw X) 74)), (1, .int x1), (2, .int x2), (3, .int x3)] [] := by
  intro n
  induction n with
  | zero => intro x1 x2 x3 s h; exact none_no h
  | succ n hr4 =>
    intro x1 x2 x3 s h
    have h : b_X11_sum_4  (l_X11_sum_4  n) x1 x2 x3 s = some (r, fin) := h
    refine v_iload_n 3 C dX11_sum_4 rfl ?_
    refine v_aload_n 0 C dX11_sum_5 rfl ?_
    refine g_74_18 C wf_RX11_215 dX11_sum_6 ?_
    refine v_icmp_ge 44 C dX11_sum_9 (by decide) (fun c => ?_) (fun c => ?_)
    · have h := if_t h c
      refine v_iload_n 2 C dX11_sum_44 rfl ?_
      exact v_ireth h R1 rfl dX11_sum_45
    · have h := if_f h c
      refine v_aload_n 0 C dX11_sum_12 rfl ?_
      refine v_iload_n 3 C dX11_sum_13 rfl ?_
      refine v_iload_n 1 C dX11_sum_14 rfl ?_
      obtain ⟨r_15, s_15, e_15, h⟩ := bd_some h
      refine v_callVi [] C (t_X11_toldAt e_15) mw_X11_toldAt (at_74 _ _) rfl wm_RX11_323 ⟨by decide, by decide⟩ rfl (Nat.le_of_ble_eq_true rfl) rfl dX11_sum_15 ?_
      refine v_istore (L1 := [(0, _), (1, _), (2, _), (3, _), (4, _)]) [1, 2, 3, 4, 0] C dX11_sum_18 (by decide) rfl ?_
      refine v_iload_n 2 C dX11_sum_20 rfl ?_
      refine v_iload 4 C dX11_sum_21 rfl ?_
      refine v_iconst C dX11_sum_23 ic_m1 ?_
      refine v_icmp_ne 34 C dX11_sum_24 (by decide) (fun c => ?_) (fun c => ?_)
      · have h := if_f h c
        refine v_iload 4 C dX11_sum_34 rfl ?_
        refine v_iadd C dX11_sum_36 ?_
        refine v_istore_n (L1 := [(0, _), (1, _), (2, _), (3, _), (4, _)]) [1, 2, 0, 3, 4] C dX11_sum_37 (by decide) rfl ?_
        refine v_iinc (L1 := [(0, _), (1, _), (2, _), (3, _), (4, _)]) 3 [1, 2, 3, 0, 4] C dX11_sum_38 rfl ic_1 (by decide) rfl ?_
        refine v_goto 4 C dX11_sum_41 (by decide) ?_
        refine v_sub [0, 1, 2, 3] (L1 := [(0, _), (1, _), (2, _), (3, _)]) rfl ?_
        exact hr4 _ _ _ _ h
      · have h := if_t h c
        refine v_aload_n 0 C dX11_sum_27 rfl ?_
        refine g_74_36 C wf_RX11_76 dX11_sum_28 ?_
        refine v_goto 36 C dX11_sum_31 (by decide) ?_
        refine v_iadd C dX11_sum_36 ?_
        refine v_istore_n (L1 := [(0, _), (1, _), (2, _), (3, _), (4, _)]) [1, 2, 0, 3, 4] C dX11_sum_37 (by decide) rfl ?_
        refine v_iinc (L1 := [(0, _), (1, _), (2, _), (3, _), (4, _)]) 3 [1, 2, 3, 0, 4] C dX11_sum_38 rfl ic_1 (by decide) rfl ?_
        refine v_goto 4 C dX11_sum_41 (by decide) ?_
        refine v_sub [0, 1, 2, 3] (L1 := [(0, _), (1, _), (2, _), (3, _)]) rfl ?_
        exact hr4 _ _ _ _ h
set_option maxRecDepth 4000 in
theorem t_X11_sum {x1 s fin : _} {r : Int32} (h : f_X11_sum x1 s = some (r, fin)) : Ct yX11_sum cX11_sum 5 (some .int) 2 51 (fun w => [.ref (wA w 74), .int x1]) s (some (.int r)) fin := by
  refine Ct.ofI (by decide +kernel) (fun w => Nat.le_of_ble_eq_true rfl) (fun X C R1 => ?_)
  show V X s 0 [(0, .ref (wA (xw X) 74)), (1, .int x1)] []
  have C : Cx X "LitWindowsModel" cX11_sum 5 2 51 := C
  refine v_iconst C dX11_sum_0 ic_0 ?_
  refine v_istore_n (L1 := [(0, _), (1, _), (2, _)]) [1, 2, 0] C dX11_sum_1 (by decide) rfl ?_
  refine v_iconst C dX11_sum_2 ic_0 ?_
  refine v_istore_n (L1 := [(0, _), (1, _), (2, _), (3, _)]) [1, 2, 3, 0] C dX11_sum_3 (by decide) rfl ?_
  exact tl_X11_sum_4 C R1  FU _ _ _ _ h
set_option maxRecDepth 4000 in
theorem tl_X11_wall_71 {rec56 : Int32 → Int32 → Int32 → Int32 → Int32 → Int32 → St → Option (Int32 × St)} {X : CX} {r : Int32} {fin : St} (C : Cx X "LitWindowsModel" cX11_wall 10 4 93) (R1 : RtI X cX11_wall .int r fin) (hr56 : ∀ (x1 : Int32) (x2 : Int32) (x4 : Int32) (x5 : Int32) (x6 : Int32) (x7 : Int32) (s : St), rec56 x1 x2 x4 x5 x6 x7 s = some (r, fin) → V X s 56 [(0, .ref (wA (xw X) 74)), (1, .int x1), (2, .int x2), (4, .int x4), (5, .int x5), (6, .int x6), (7, .int x7)] []) : ∀ (n : Nat) (x1 : Int32) (x2 : Int32) (x4 : Int32) (x5 : Int32) (x6 : Int32) (x7 : Int32) (x8 : Int32) (s : St), l_X11_wall_71 rec56 n x1 x2 x4 x5 x6 x7 x8 s = some (r, fin) → V X s 71 [(0, .ref (wA (xw X) 74)), (1, .int x1), (2, .int x2), (4, .int x4), (5, .int x5), (6, .int x6), (7, .int x7), (8, .int x8)] [] := by
  intro n
  induction n with
  | zero => intro x1 x2 x4 x5 x6 x7 x8 s h; exact none_no h
  | succ n hr71 =>
    intro x1 x2 x4 x5 x6 x7 x8 s h
    have h : b_X11_wall_71 rec56 (l_X11_wall_71 rec56 n) x1 x2 x4 x5 x6 x7 x8 s = some (r, fin) := h
    refine v_iload 7 C dX11_wall_71 rfl ?_
    refine v_aload_n 0 C dX11_wall_73 rfl ?_
    refine g_74_24 C wf_RX11_221 dX11_wall_74 ?_
    refine v_icmp_ge 131 C dX11_wall_77 (by decide) (fun c => ?_) (fun c => ?_)
    · have h := if_t h c
      refine v_iinc (L1 := [(0, _), (1, _), (2, _), (4, _), (5, _), (6, _), (7, _), (8, _)]) 6 [1, 2, 3, 4, 5, 6, 0, 7] C dX11_wall_131 rfl ic_1 (by decide) rfl ?_
      refine v_goto 56 C dX11_wall_134 (by decide) ?_
      refine v_sub [0, 1, 2, 3, 4, 5, 6] (L1 := [(0, _), (1, _), (2, _), (4, _), (5, _), (6, _), (7, _)]) rfl ?_
      exact hr56 _ _ _ _ _ _ _ h
    · have h := if_f h c
      refine v_aload_n 0 C dX11_wall_80 rfl ?_
      refine v_iload 6 C dX11_wall_81 rfl ?_
      refine v_iload 7 C dX11_wall_83 rfl ?_
      obtain ⟨r_85, s_85, e_85, h⟩ := bd_some h
      refine v_callVv [] C (t_X11_swaps e_85) mw_X11_swaps (at_74 _ _) rfl wm_RX11_310 ⟨by decide, by decide⟩ rfl (Nat.le_of_ble_eq_true rfl) rfl dX11_wall_85 ?_
      refine v_aload_n 0 C dX11_wall_88 rfl ?_
      refine v_iload_n 1 C dX11_wall_89 rfl ?_
      obtain ⟨r_90, s_90, e_90, h⟩ := bd_some h
      refine v_callVi [] C (t_X11_sum e_90) mw_X11_sum (at_74 _ _) rfl wm_RX11_326 ⟨by decide, by decide⟩ rfl (Nat.le_of_ble_eq_true rfl) rfl dX11_wall_90 ?_
      refine v_istore (L1 := [(0, _), (1, _), (2, _), (4, _), (5, _), (6, _), (7, _), (8, _), (9, _)]) [1, 2, 3, 4, 5, 6, 7, 8, 0] C dX11_wall_93 (by decide) rfl ?_
      refine v_aload_n 0 C dX11_wall_95 rfl ?_
      refine v_iload 6 C dX11_wall_96 rfl ?_
      refine v_iload 7 C dX11_wall_98 rfl ?_
      obtain ⟨r_100, s_100, e_100, h⟩ := bd_some h
      refine v_callVv [] C (t_X11_swaps e_100) mw_X11_swaps (at_74 _ _) rfl wm_RX11_310 ⟨by decide, by decide⟩ rfl (Nat.le_of_ble_eq_true rfl) rfl dX11_wall_100 ?_
      refine v_iload 8 C dX11_wall_103 rfl ?_
      refine v_iload 3 C dX11_wall_105 rfl ?_
      refine v_icmp_lt 113 C dX11_wall_107 (by decide) (fun c => ?_) (fun c => ?_)
      · have h := if_t h c
        refine v_iload 8 C dX11_wall_113 rfl ?_
        refine v_istore (L1 := [(0, _), (1, _), (2, _), (4, _), (5, _), (6, _), (7, _), (8, _), (9, _)]) [1, 2, 3, 0, 4, 5, 6, 7, 8] C dX11_wall_115 (by decide) rfl ?_
        refine v_iload 6 C dX11_wall_117 rfl ?_
        refine v_istore (L1 := [(0, _), (1, _), (2, _), (4, _), (5, _), (6, _), (7, _), (8, _), (9, _)]) [1, 2, 3, 4, 0, 5, 6, 7, 8] C dX11_wall_119 (by decide) rfl ?_
        refine v_iload 7 C dX11_wall_121 rfl ?_
        refine v_istore (L1 := [(0, _), (1, _), (2, _), (4, _), (5, _), (6, _), (7, _), (8, _), (9, _)]) [1, 2, 3, 4, 5, 0, 6, 7, 8] C dX11_wall_123 (by decide) rfl ?_
        refine v_iinc (L1 := [(0, _), (1, _), (2, _), (4, _), (5, _), (6, _), (7, _), (8, _), (9, _)]) 7 [1, 2, 3, 4, 5, 6, 7, 0, 8] C dX11_wall_125 rfl ic_1 (by decide) rfl ?_
        refine v_goto 71 C dX11_wall_128 (by decide) ?_
        refine v_sub [0, 1, 2, 3, 4, 5, 6, 7] (L1 := [(0, _), (1, _), (2, _), (4, _), (5, _), (6, _), (7, _), (8, _)]) rfl ?_
        exact hr71 _ _ _ _ _ _ _ _ h
      · have h := if_f h c
        refine v_goto 125 C dX11_wall_110 (by decide) ?_
        refine v_iinc (L1 := [(0, _), (1, _), (2, _), (4, _), (5, _), (6, _), (7, _), (8, _), (9, _)]) 7 [1, 2, 3, 4, 5, 6, 7, 0, 8] C dX11_wall_125 rfl ic_1 (by decide) rfl ?_
        refine v_goto 71 C dX11_wall_128 (by decide) ?_
        refine v_sub [0, 1, 2, 3, 4, 5, 6, 7] (L1 := [(0, _), (1, _), (2, _), (4, _), (5, _), (6, _), (7, _), (8, _)]) rfl ?_
        exact hr71 _ _ _ _ _ _ _ _ h
set_option maxRecDepth 4000 in
theorem tl_X11_wall_56  {X : CX} {r : Int32} {fin : St} (C : Cx X "LitWindowsModel" cX11_wall 10 4 93) (R1 : RtI X cX11_wall .int r fin)  : ∀ (n : Nat) (x1 : Int32) (x2 : Int32) (x4 : Int32) (x5 : Int32) (x6 : Int32) (x7 : Int32) (s : St), l_X11_wall_56  n x1 x2 x4 x5 x6 x7 s = some (r, fin) → V X s 56 [(0, .ref (wA (xw X) 74)), (1, .int x1), (2, .int x2), (4, .int x4), (5, .int x5), (6, .int x6), (7, .int x7)] [] := by
  intro n
  induction n with
  | zero => intro x1 x2 x4 x5 x6 x7 s h; exact none_no h
  | succ n hr56 =>
    intro x1 x2 x4 x5 x6 x7 s h
    have h : b_X11_wall_56  (l_X11_wall_56  n) x1 x2 x4 x5 x6 x7 s = some (r, fin) := h
    refine v_iload 6 C dX11_wall_56 rfl ?_
    refine v_aload_n 0 C dX11_wall_58 rfl ?_
    refine g_74_24 C wf_RX11_221 dX11_wall_59 ?_
    refine v_icmp_ge 137 C dX11_wall_62 (by decide) (fun c => ?_) (fun c => ?_)
    · have h := if_t h c
      refine v_iload 4 C dX11_wall_137 rfl ?_
      refine v_iconst C dX11_wall_139 ic_m1 ?_
      refine v_icmp_ne 147 C dX11_wall_140 (by decide) (fun c => ?_) (fun c => ?_)
      · have h := if_f h c
        refine v_iload_n 2 C dX11_wall_147 rfl ?_
        refine v_iconst C dX11_wall_148 ic_1 ?_
        refine v_icmp_ne 157 C dX11_wall_149 (by decide) (fun c => ?_) (fun c => ?_)
        · have h := if_f h c
          refine v_iload_n 2 C dX11_wall_157 rfl ?_
          refine v_iconst C dX11_wall_158 ic_2 ?_
          refine v_icmp_ne 167 C dX11_wall_159 (by decide) (fun c => ?_) (fun c => ?_)
          · have h := if_f h c
            refine v_iload 3 C dX11_wall_167 rfl ?_
            exact v_ireth h R1 rfl dX11_wall_169
          · have h := if_t h c
            refine v_iload 5 C dX11_wall_162 rfl ?_
            refine v_goto 169 C dX11_wall_164 (by decide) ?_
            exact v_ireth h R1 rfl dX11_wall_169
        · have h := if_t h c
          refine v_iload 4 C dX11_wall_152 rfl ?_
          refine v_goto 169 C dX11_wall_154 (by decide) ?_
          exact v_ireth h R1 rfl dX11_wall_169
      · have h := if_t h c
        refine v_iconst C dX11_wall_143 ic_m1 ?_
        refine v_goto 169 C dX11_wall_144 (by decide) ?_
        exact v_ireth h R1 rfl dX11_wall_169
    · have h := if_f h c
      refine v_iload 6 C dX11_wall_65 rfl ?_
      refine v_iconst C dX11_wall_67 ic_1 ?_
      refine v_iadd C dX11_wall_68 ?_
      refine v_istore (L1 := [(0, _), (1, _), (2, _), (4, _), (5, _), (6, _), (7, _), (8, _)]) [1, 2, 3, 4, 5, 6, 7, 0] C dX11_wall_69 (by decide) rfl ?_
      exact tl_X11_wall_71 C R1 hr56 FU _ _ _ _ _ _ _ _ h
set_option maxRecDepth 4000 in
theorem t_X11_wall {x1 x2 s fin : _} {r : Int32} (h : f_X11_wall x1 x2 s = some (r, fin)) : Ct yX11_wall cX11_wall 10 (some .int) 4 93 (fun w => [.ref (wA w 74), .int x1, .int x2]) s (some (.int r)) fin := by
  refine Ct.ofI (by decide +kernel) (fun w => Nat.le_of_ble_eq_true rfl) (fun X C R1 => ?_)
  show V X s 0 [(0, .ref (wA (xw X) 74)), (1, .int x1), (2, .int x2)] []
  have C : Cx X "LitWindowsModel" cX11_wall 10 4 93 := C
  refine v_aload_n 0 C dX11_wall_0 rfl ?_
  refine g_74_18 C wf_RX11_215 dX11_wall_1 ?_
  refine v_if_eq 26 C dX11_wall_4 (by decide) (fun c => ?_) (fun c => ?_)
  · have h := if_t h c
    refine v_iconst C dX11_wall_26 ic_m1 ?_
    exact v_ireth h R1 rfl dX11_wall_27
  · have h := if_f h c
    refine v_iload_n 1 C dX11_wall_7 rfl ?_
    refine v_iconst C dX11_wall_8 ic_1 ?_
    refine v_bipush C dX11_wall_9 bp_30 ?_
    obtain ⟨r_11, s_11, e_11, h⟩ := bd_some h
    refine v_callSi [] C (t_X11_in e_11) mw_X11_in wm_RX11_98 ⟨by decide, by decide⟩ rfl (Nat.le_of_ble_eq_true rfl) rfl dX11_wall_11 ?_
    refine v_if_eq 26 C dX11_wall_14 (by decide) (fun c => ?_) (fun c => ?_)
    · have h := if_t h c
      refine v_iconst C dX11_wall_26 ic_m1 ?_
      exact v_ireth h R1 rfl dX11_wall_27
    · have h := if_f h c
      refine v_iload_n 2 C dX11_wall_17 rfl ?_
      refine v_iconst C dX11_wall_18 ic_0 ?_
      refine v_iconst C dX11_wall_19 ic_3 ?_
      obtain ⟨r_20, s_20, e_20, h⟩ := bd_some h
      refine v_callSi [] C (t_X11_in e_20) mw_X11_in wm_RX11_98 ⟨by decide, by decide⟩ rfl (Nat.le_of_ble_eq_true rfl) rfl dX11_wall_20 ?_
      refine v_if_ne 28 C dX11_wall_23 (by decide) (fun c => ?_) (fun c => ?_)
      · have h := if_f h c
        refine v_aload_n 0 C dX11_wall_28 rfl ?_
        obtain ⟨r_29, s_29, e_29, h⟩ := bd_some h
        refine v_callVv [] C (t_X11_findShown e_29) mw_X11_findShown (at_74 _ _) rfl wm_RX11_320 ⟨by decide, by decide⟩ rfl (Nat.le_of_ble_eq_true rfl) rfl dX11_wall_29 ?_
        refine v_aload_n 0 C dX11_wall_32 rfl ?_
        refine v_iload_n 1 C dX11_wall_33 rfl ?_
        obtain ⟨r_34, s_34, e_34, h⟩ := bd_some h
        refine v_callVi [] C (t_X11_sum e_34) mw_X11_sum (at_74 _ _) rfl wm_RX11_326 ⟨by decide, by decide⟩ rfl (Nat.le_of_ble_eq_true rfl) rfl dX11_wall_34 ?_
        refine v_istore_n (L1 := [(0, _), (1, _), (2, _), (3, _)]) [1, 2, 3, 0] C dX11_wall_37 (by decide) rfl ?_
        refine v_iload_n 2 C dX11_wall_38 rfl ?_
        refine v_if_ne 44 C dX11_wall_39 (by decide) (fun c => ?_) (fun c => ?_)
        · have h := if_f h c
          refine v_iload_n 3 C dX11_wall_44 rfl ?_
          refine v_istore (L1 := [(0, _), (1, _), (2, _), (3, _), (4, _)]) [1, 2, 3, 4, 0] C dX11_wall_45 (by decide) rfl ?_
          refine v_iconst C dX11_wall_47 ic_m1 ?_
          refine v_istore (L1 := [(0, _), (1, _), (2, _), (3, _), (4, _), (5, _)]) [1, 2, 3, 4, 5, 0] C dX11_wall_48 (by decide) rfl ?_
          refine v_iconst C dX11_wall_50 ic_m1 ?_
          refine v_istore (L1 := [(0, _), (1, _), (2, _), (3, _), (4, _), (5, _), (6, _)]) [1, 2, 3, 4, 5, 6, 0] C dX11_wall_51 (by decide) rfl ?_
          refine v_iconst C dX11_wall_53 ic_0 ?_
          refine v_istore (L1 := [(0, _), (1, _), (2, _), (3, _), (4, _), (5, _), (6, _), (7, _)]) [1, 2, 3, 4, 5, 6, 7, 0] C dX11_wall_54 (by decide) rfl ?_
          refine v_sub [0, 1, 2, 4, 5, 6, 7] (L1 := [(0, _), (1, _), (2, _), (4, _), (5, _), (6, _), (7, _)]) rfl ?_
          exact tl_X11_wall_56 C R1  FU _ _ _ _ _ _ _ h
        · have h := if_t h c
          refine v_iload_n 3 C dX11_wall_42 rfl ?_
          exact v_ireth h R1 rfl dX11_wall_43
      · have h := if_t h c
        refine v_iconst C dX11_wall_26 ic_m1 ?_
        exact v_ireth h R1 rfl dX11_wall_27
set_option maxRecDepth 4000 in
theorem tl_X2_countStuck_4  {X : CX} {r : Int32} {fin : St} (C : Cx X "LitWindows$Lamps" cX2_countStuck 3 0 0) (R1 : RtI X cX2_countStuck .int r fin)  : ∀ (n : Nat) (x1 : Int32) (x2 : Int32) (s : St), l_X2_countStuck_4  n x1 x2 s = some (r, fin) → V X s 4 [(0, .ref (wA (xw X) 32)), (1, .int x1), (2, .int x2)] [] := by
  intro n
  induction n with
  | zero => intro x1 x2 s h; exact none_no h
  | succ n hr4 =>
    intro x1 x2 s h
    have h : b_X2_countStuck_4  (l_X2_countStuck_4  n) x1 x2 s = some (r, fin) := h
    refine v_iload_n 2 C dX2_countStuck_4 rfl ?_
    refine v_aload_n 0 C dX2_countStuck_5 rfl ?_
    refine g_32_0 C wf_RX2_18 dX2_countStuck_6 ?_
    refine g_8_2 C wf_RX2_42 dX2_countStuck_9 ?_
    refine v_icmp_ge 33 C dX2_countStuck_12 (by decide) (fun c => ?_) (fun c => ?_)
    · have h := if_t h c
      refine v_iload_n 1 C dX2_countStuck_33 rfl ?_
      exact v_ireth h R1 rfl dX2_countStuck_34
    · have h := if_f h c
      refine v_aload_n 0 C dX2_countStuck_15 rfl ?_
      refine g_32_2 C wf_RX2_9 dX2_countStuck_16 ?_
      refine v_iload_n 2 C dX2_countStuck_19 rfl ?_
      obtain ⟨hi, h⟩ := gi_some h
      refine ald_33 C hi dX2_countStuck_20 ?_
      refine v_if_eq 27 C dX2_countStuck_21 (by decide) (fun c => ?_) (fun c => ?_)
      · have h := if_t h c
        refine v_iinc (L1 := [(0, _), (1, _), (2, _)]) 2 [1, 2, 0] C dX2_countStuck_27 rfl ic_1 (by decide) rfl ?_
        refine v_goto 4 C dX2_countStuck_30 (by decide) ?_
        exact hr4 _ _ _ h
      · have h := if_f h c
        refine v_iinc (L1 := [(0, _), (1, _), (2, _)]) 1 [1, 0, 2] C dX2_countStuck_24 rfl ic_1 (by decide) rfl ?_
        refine v_iinc (L1 := [(0, _), (1, _), (2, _)]) 2 [1, 2, 0] C dX2_countStuck_27 rfl ic_1 (by decide) rfl ?_
        refine v_goto 4 C dX2_countStuck_30 (by decide) ?_
        exact hr4 _ _ _ h
set_option maxRecDepth 4000 in
theorem t_X2_countStuck { s fin : _} {r : Int32} (h : f_X2_countStuck  s = some (r, fin)) : Ct yX2_countStuck cX2_countStuck 3 (some .int) 0 0 (fun w => [.ref (wA w 32)]) s (some (.int r)) fin := by
  refine Ct.ofI (by decide +kernel) (fun w => Nat.le_of_ble_eq_true rfl) (fun X C R1 => ?_)
  show V X s 0 [(0, .ref (wA (xw X) 32))] []
  have C : Cx X "LitWindows$Lamps" cX2_countStuck 3 0 0 := C
  refine v_iconst C dX2_countStuck_0 ic_0 ?_
  refine v_istore_n (L1 := [(0, _), (1, _)]) [1, 0] C dX2_countStuck_1 (by decide) rfl ?_
  refine v_iconst C dX2_countStuck_2 ic_0 ?_
  refine v_istore_n (L1 := [(0, _), (1, _), (2, _)]) [1, 2, 0] C dX2_countStuck_3 (by decide) rfl ?_
  exact tl_X2_countStuck_4 C R1  FU _ _ _ h
set_option maxRecDepth 4000 in
theorem t_X10_count {x1 s fin : _} {r : Int32} (h : f_X10_count x1 s = some (r, fin)) : Ct yX10_count cX10_count 2 (some .int) 1 22 (fun w => [.ref (wA w 0), .int x1]) s (some (.int r)) fin := by
  refine Ct.ofI (by decide +kernel) (fun w => Nat.le_of_ble_eq_true rfl) (fun X C R1 => ?_)
  show V X s 0 [(0, .ref (wA (xw X) 0)), (1, .int x1)] []
  have C : Cx X "LitWindows" cX10_count 2 1 22 := C
  refine v_iload_n 1 C dX10_count_0 rfl ?_
  by_cases c0 : x1 = 0
  · have h := if_t h c0
    refine v_tswI 48 C dX10_count_1 (by rw [c0]; decide) (by rw [c0]; decide) (by rw [c0]; rfl) (by decide) ?_
    refine v_aload_n 0 C dX10_count_48 rfl ?_
    refine g_0_2 C wf_RX10_28 dX10_count_49 ?_
    refine g_8_0 C wf_RX10_113 dX10_count_52 ?_
    exact v_ireth h R1 rfl dX10_count_55
  have h := if_f h c0
  by_cases c1 : x1 = 1
  · have h := if_t h c1
    refine v_tswI 56 C dX10_count_1 (by rw [c1]; decide) (by rw [c1]; decide) (by rw [c1]; rfl) (by decide) ?_
    refine v_aload_n 0 C dX10_count_56 rfl ?_
    refine g_0_2 C wf_RX10_28 dX10_count_57 ?_
    refine g_8_1 C wf_RX10_270 dX10_count_60 ?_
    exact v_ireth h R1 rfl dX10_count_63
  have h := if_f h c1
  by_cases c2 : x1 = 2
  · have h := if_t h c2
    refine v_tswI 64 C dX10_count_1 (by rw [c2]; decide) (by rw [c2]; decide) (by rw [c2]; rfl) (by decide) ?_
    refine v_aload_n 0 C dX10_count_64 rfl ?_
    refine g_0_2 C wf_RX10_28 dX10_count_65 ?_
    refine g_8_2 C wf_RX10_273 dX10_count_68 ?_
    exact v_ireth h R1 rfl dX10_count_71
  have h := if_f h c2
  by_cases c3 : x1 = 3
  · have h := if_t h c3
    refine v_tswI 72 C dX10_count_1 (by rw [c3]; decide) (by rw [c3]; decide) (by rw [c3]; rfl) (by decide) ?_
    refine v_aload_n 0 C dX10_count_72 rfl ?_
    refine g_0_2 C wf_RX10_28 dX10_count_73 ?_
    refine g_8_3 C wf_RX10_212 dX10_count_76 ?_
    exact v_ireth h R1 rfl dX10_count_79
  have h := if_f h c3
  by_cases c4 : x1 = 4
  · have h := if_t h c4
    refine v_tswI 80 C dX10_count_1 (by rw [c4]; decide) (by rw [c4]; decide) (by rw [c4]; rfl) (by decide) ?_
    refine v_aload_n 0 C dX10_count_80 rfl ?_
    refine g_0_6 C wf_RX10_56 dX10_count_81 ?_
    refine g_35_2 C wf_RX10_110 dX10_count_84 ?_
    exact v_ireth h R1 rfl dX10_count_87
  have h := if_f h c4
  by_cases c5 : x1 = 5
  · have h := if_t h c5
    refine v_tswI 88 C dX10_count_1 (by rw [c5]; decide) (by rw [c5]; decide) (by rw [c5]; rfl) (by decide) ?_
    refine v_aload_n 0 C dX10_count_88 rfl ?_
    refine g_0_5 C wf_RX10_49 dX10_count_89 ?_
    refine g_32_4 C wf_RX10_215 dX10_count_92 ?_
    obtain ⟨r_95, s_95, e_95, h⟩ := bd_some h
    refine v_callSi [] C (t_J6_bitCount_0f7a4 e_95) mw_J6_bitCount_0f7a4 wm_RX10_276 ⟨by decide, by decide⟩ rfl (Nat.le_of_ble_eq_true rfl) rfl dX10_count_95 ?_
    exact v_ireth h R1 rfl dX10_count_98
  have h := if_f h c5
  by_cases c6 : x1 = 6
  · have h := if_t h c6
    refine v_tswI 99 C dX10_count_1 (by rw [c6]; decide) (by rw [c6]; decide) (by rw [c6]; rfl) (by decide) ?_
    refine v_aload_n 0 C dX10_count_99 rfl ?_
    refine g_0_5 C wf_RX10_49 dX10_count_100 ?_
    obtain ⟨r_103, s_103, e_103, h⟩ := bd_some h
    refine v_callVi [] C (t_X2_countStuck e_103) mw_X2_countStuck (at_32 _ _) rfl wm_RX10_281 ⟨by decide, by decide⟩ rfl (Nat.le_of_ble_eq_true rfl) rfl dX10_count_103 ?_
    exact v_ireth h R1 rfl dX10_count_106
  have h := if_f h c6
  by_cases c7 : x1 = 7
  · have h := if_t h c7
    refine v_tswI 107 C dX10_count_1 (by rw [c7]; decide) (by rw [c7]; decide) (by rw [c7]; rfl) (by decide) ?_
    refine v_aload_n 0 C dX10_count_107 rfl ?_
    refine g_0_0 C wf_RX10_10 dX10_count_108 ?_
    refine g_1_1 C wf_RX10_95 dX10_count_111 ?_
    exact v_ireth h R1 rfl dX10_count_114
  have h := if_f h c7
  have q0 := lv_neT c0 (show (0 : Int32).toInt = 0 by decide)
  have q1 := lv_neT c1 (show (1 : Int32).toInt = 1 by decide)
  have q2 := lv_neT c2 (show (2 : Int32).toInt = 2 by decide)
  have q3 := lv_neT c3 (show (3 : Int32).toInt = 3 by decide)
  have q4 := lv_neT c4 (show (4 : Int32).toInt = 4 by decide)
  have q5 := lv_neT c5 (show (5 : Int32).toInt = 5 by decide)
  have q6 := lv_neT c6 (show (6 : Int32).toInt = 6 by decide)
  have q7 := lv_neT c7 (show (7 : Int32).toInt = 7 by decide)
  refine v_tswO 115 C dX10_count_1 (by omega) (by decide) ?_
  refine v_iconst C dX10_count_115 ic_m1 ?_
  exact v_ireth h R1 rfl dX10_count_116
set_option maxRecDepth 4000 in
theorem tl_X11_count_75  {X : CX} {r : Int32} {fin : St} (C : Cx X "LitWindowsModel" cX11_count 4 0 0) (R1 : RtI X cX11_count .int r fin)  : ∀ (n : Nat) (x2 : Int32) (x3 : Int32) (s : St), l_X11_count_75  n x2 x3 s = some (r, fin) → V X s 75 [(0, .ref (wA (xw X) 74)), (2, .int x2), (3, .int x3)] [] := by
  intro n
  induction n with
  | zero => intro x2 x3 s h; exact none_no h
  | succ n hr75 =>
    intro x2 x3 s h
    have h : b_X11_count_75  (l_X11_count_75  n) x2 x3 s = some (r, fin) := h
    refine v_iload_n 2 C dX11_count_75 rfl ?_
    refine v_aload_n 0 C dX11_count_76 rfl ?_
    refine g_74_29 C wf_RX11_224 dX11_count_77 ?_
    refine v_icmp_ge 106 C dX11_count_80 (by decide) (fun c => ?_) (fun c => ?_)
    · have h := if_t h c
      refine v_iload_n 1 C dX11_count_106 rfl ?_
      exact v_ireth h R1 rfl dX11_count_107
    · have h := if_f h c
      refine v_iload_n 1 C dX11_count_83 rfl ?_
      refine v_aload_n 0 C dX11_count_84 rfl ?_
      refine g_74_31 C wf_RX11_67 dX11_count_85 ?_
      refine v_iload_n 2 C dX11_count_88 rfl ?_
      obtain ⟨hi, h⟩ := gi_some h
      refine ald_93 C hi dX11_count_89 ?_
      refine v_if_eq 97 C dX11_count_90 (by decide) (fun c => ?_) (fun c => ?_)
      · have h := if_t h c
        refine v_iconst C dX11_count_97 ic_0 ?_
        refine v_iadd C dX11_count_98 ?_
        refine v_istore_n (L1 := [(0, _), (2, _), (3, _)]) [1, 0, 2] C dX11_count_99 (by decide) rfl ?_
        refine v_iinc (L1 := [(0, _), (2, _), (3, _)]) 2 [1, 2, 0] C dX11_count_100 rfl ic_1 (by decide) rfl ?_
        refine v_goto 75 C dX11_count_103 (by decide) ?_
        exact hr75 _ _ _ h
      · have h := if_f h c
        refine v_iconst C dX11_count_93 ic_1 ?_
        refine v_goto 98 C dX11_count_94 (by decide) ?_
        refine v_iadd C dX11_count_98 ?_
        refine v_istore_n (L1 := [(0, _), (2, _), (3, _)]) [1, 0, 2] C dX11_count_99 (by decide) rfl ?_
        refine v_iinc (L1 := [(0, _), (2, _), (3, _)]) 2 [1, 2, 0] C dX11_count_100 rfl ic_1 (by decide) rfl ?_
        refine v_goto 75 C dX11_count_103 (by decide) ?_
        exact hr75 _ _ _ h
set_option maxRecDepth 4000 in
theorem tl_X11_count_110  {X : CX} {r : Int32} {fin : St} (C : Cx X "LitWindowsModel" cX11_count 4 0 0) (R1 : RtI X cX11_count .int r fin)  : ∀ (n : Nat) (x2 : Int32) (x3 : Int32) (s : St), l_X11_count_110  n x2 x3 s = some (r, fin) → V X s 110 [(0, .ref (wA (xw X) 74)), (2, .int x2), (3, .int x3)] [] := by
  intro n
  induction n with
  | zero => intro x2 x3 s h; exact none_no h
  | succ n hr110 =>
    intro x2 x3 s h
    have h : b_X11_count_110  (l_X11_count_110  n) x2 x3 s = some (r, fin) := h
    refine v_iload_n 2 C dX11_count_110 rfl ?_
    refine v_aload_n 0 C dX11_count_111 rfl ?_
    refine g_74_24 C wf_RX11_221 dX11_count_112 ?_
    refine v_icmp_ge 141 C dX11_count_115 (by decide) (fun c => ?_) (fun c => ?_)
    · have h := if_t h c
      refine v_iload_n 1 C dX11_count_141 rfl ?_
      exact v_ireth h R1 rfl dX11_count_142
    · have h := if_f h c
      refine v_iload_n 1 C dX11_count_118 rfl ?_
      refine v_aload_n 0 C dX11_count_119 rfl ?_
      refine g_74_27 C wf_RX11_58 dX11_count_120 ?_
      refine v_iload_n 2 C dX11_count_123 rfl ?_
      obtain ⟨hi, h⟩ := gi_some h
      refine ald_90 C hi dX11_count_124 ?_
      refine v_if_ne 132 C dX11_count_125 (by decide) (fun c => ?_) (fun c => ?_)
      · have h := if_f h c
        refine v_iconst C dX11_count_132 ic_1 ?_
        refine v_iadd C dX11_count_133 ?_
        refine v_istore_n (L1 := [(0, _), (2, _), (3, _)]) [1, 0, 2] C dX11_count_134 (by decide) rfl ?_
        refine v_iinc (L1 := [(0, _), (2, _), (3, _)]) 2 [1, 2, 0] C dX11_count_135 rfl ic_1 (by decide) rfl ?_
        refine v_goto 110 C dX11_count_138 (by decide) ?_
        exact hr110 _ _ _ h
      · have h := if_t h c
        refine v_iconst C dX11_count_128 ic_0 ?_
        refine v_goto 133 C dX11_count_129 (by decide) ?_
        refine v_iadd C dX11_count_133 ?_
        refine v_istore_n (L1 := [(0, _), (2, _), (3, _)]) [1, 0, 2] C dX11_count_134 (by decide) rfl ?_
        refine v_iinc (L1 := [(0, _), (2, _), (3, _)]) 2 [1, 2, 0] C dX11_count_135 rfl ic_1 (by decide) rfl ?_
        refine v_goto 110 C dX11_count_138 (by decide) ?_
        exact hr110 _ _ _ h
set_option maxRecDepth 4000 in
theorem t_X11_count {x1 s fin : _} {r : Int32} (h : f_X11_count x1 s = some (r, fin)) : Ct yX11_count cX11_count 4 (some .int) 0 0 (fun w => [.ref (wA w 74), .int x1]) s (some (.int r)) fin := by
  refine Ct.ofI (by decide +kernel) (fun w => Nat.le_of_ble_eq_true rfl) (fun X C R1 => ?_)
  show V X s 0 [(0, .ref (wA (xw X) 74)), (1, .int x1)] []
  have C : Cx X "LitWindowsModel" cX11_count 4 0 0 := C
  refine v_iconst C dX11_count_0 ic_0 ?_
  refine v_istore_n (L1 := [(0, _), (1, _), (2, _)]) [1, 2, 0] C dX11_count_1 (by decide) rfl ?_
  refine v_iload_n 1 C dX11_count_2 rfl ?_
  by_cases c0 : x1 = 0
  · have h := if_t h c0
    refine v_tswI 48 C dX11_count_3 (by rw [c0]; decide) (by rw [c0]; decide) (by rw [c0]; rfl) (by decide) ?_
    refine v_aload_n 0 C dX11_count_48 rfl ?_
    refine g_74_18 C wf_RX11_215 dX11_count_49 ?_
    exact v_ireth h R1 rfl dX11_count_52
  have h := if_f h c0
  by_cases c1 : x1 = 1
  · have h := if_t h c1
    refine v_tswI 53 C dX11_count_3 (by rw [c1]; decide) (by rw [c1]; decide) (by rw [c1]; rfl) (by decide) ?_
    refine v_aload_n 0 C dX11_count_53 rfl ?_
    refine g_74_20 C wf_RX11_218 dX11_count_54 ?_
    exact v_ireth h R1 rfl dX11_count_57
  have h := if_f h c1
  by_cases c2 : x1 = 2
  · have h := if_t h c2
    refine v_tswI 58 C dX11_count_3 (by rw [c2]; decide) (by rw [c2]; decide) (by rw [c2]; rfl) (by decide) ?_
    refine v_aload_n 0 C dX11_count_58 rfl ?_
    refine g_74_24 C wf_RX11_221 dX11_count_59 ?_
    exact v_ireth h R1 rfl dX11_count_62
  have h := if_f h c2
  by_cases c3 : x1 = 3
  · have h := if_t h c3
    refine v_tswI 63 C dX11_count_3 (by rw [c3]; decide) (by rw [c3]; decide) (by rw [c3]; rfl) (by decide) ?_
    refine v_aload_n 0 C dX11_count_63 rfl ?_
    refine g_74_29 C wf_RX11_224 dX11_count_64 ?_
    exact v_ireth h R1 rfl dX11_count_67
  have h := if_f h c3
  by_cases c4 : x1 = 4
  · have h := if_t h c4
    refine v_tswI 68 C dX11_count_3 (by rw [c4]; decide) (by rw [c4]; decide) (by rw [c4]; rfl) (by decide) ?_
    refine v_aload_n 0 C dX11_count_68 rfl ?_
    refine g_74_32 C wf_RX11_227 dX11_count_69 ?_
    exact v_ireth h R1 rfl dX11_count_72
  have h := if_f h c4
  by_cases c5 : x1 = 5
  · have h := if_t h c5
    refine v_tswI 73 C dX11_count_3 (by rw [c5]; decide) (by rw [c5]; decide) (by rw [c5]; rfl) (by decide) ?_
    refine v_iconst C dX11_count_73 ic_0 ?_
    refine v_istore_n (L1 := [(0, _), (1, _), (2, _), (3, _)]) [1, 2, 3, 0] C dX11_count_74 (by decide) rfl ?_
    refine v_sub [0, 2, 3] (L1 := [(0, _), (2, _), (3, _)]) rfl ?_
    exact tl_X11_count_75 C R1  FU _ _ _ h
  have h := if_f h c5
  by_cases c6 : x1 = 6
  · have h := if_t h c6
    refine v_tswI 108 C dX11_count_3 (by rw [c6]; decide) (by rw [c6]; decide) (by rw [c6]; rfl) (by decide) ?_
    refine v_iconst C dX11_count_108 ic_0 ?_
    refine v_istore_n (L1 := [(0, _), (1, _), (2, _), (3, _)]) [1, 2, 3, 0] C dX11_count_109 (by decide) rfl ?_
    refine v_sub [0, 2, 3] (L1 := [(0, _), (2, _), (3, _)]) rfl ?_
    exact tl_X11_count_110 C R1  FU _ _ _ h
  have h := if_f h c6
  by_cases c7 : x1 = 7
  · have h := if_t h c7
    refine v_tswI 143 C dX11_count_3 (by rw [c7]; decide) (by rw [c7]; decide) (by rw [c7]; rfl) (by decide) ?_
    refine v_aload_n 0 C dX11_count_143 rfl ?_
    refine g_74_1 C wf_RX11_95 dX11_count_144 ?_
    exact v_ireth h R1 rfl dX11_count_147
  have h := if_f h c7
  have q0 := lv_neT c0 (show (0 : Int32).toInt = 0 by decide)
  have q1 := lv_neT c1 (show (1 : Int32).toInt = 1 by decide)
  have q2 := lv_neT c2 (show (2 : Int32).toInt = 2 by decide)
  have q3 := lv_neT c3 (show (3 : Int32).toInt = 3 by decide)
  have q4 := lv_neT c4 (show (4 : Int32).toInt = 4 by decide)
  have q5 := lv_neT c5 (show (5 : Int32).toInt = 5 by decide)
  have q6 := lv_neT c6 (show (6 : Int32).toInt = 6 by decide)
  have q7 := lv_neT c7 (show (7 : Int32).toInt = 7 by decide)
  refine v_tswO 148 C dX11_count_3 (by omega) (by decide) ?_
  refine v_iconst C dX11_count_148 ic_m1 ?_
  exact v_ireth h R1 rfl dX11_count_149
