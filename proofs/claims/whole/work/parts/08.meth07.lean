set_option maxRecDepth 4000 in
theorem tl_X11_findSigns_2  {X : CX} {fin : St} (C : Cx X "LitWindowsModel" cX11_findSigns 2 2 50) (R1 : RtV X cX11_findSigns fin)  : ∀ (n : Nat) (x1 : Int32) (s : St), l_X11_findSigns_2  n x1 s = some ((), fin) → V X s 2 [(0, .ref (wA (xw X) 74)), (1, .int x1)] [] := by
  intro n
  induction n with
  | zero => intro x1 s h; exact none_no h
  | succ n hr2 =>
    intro x1 s h
    have h : b_X11_findSigns_2  (l_X11_findSigns_2  n) x1 s = some ((), fin) := h
    refine v_iload_n 1 C dX11_findSigns_2 rfl ?_
    refine v_aload_n 0 C dX11_findSigns_3 rfl ?_
    refine g_74_18 C wf_RX11_215 dX11_findSigns_4 ?_
    refine v_icmp_ge 37 C dX11_findSigns_7 (by decide) (fun c => ?_) (fun c => ?_)
    · have h := if_t h c
      exact v_vreth h R1 dX11_findSigns_37
    · have h := if_f h c
      refine v_aload_n 0 C dX11_findSigns_10 rfl ?_
      refine v_iconst C dX11_findSigns_11 ic_1 ?_
      refine v_iload_n 1 C dX11_findSigns_12 rfl ?_
      refine v_ishl C dX11_findSigns_13 ?_
      obtain ⟨r_14, s_14, e_14, h⟩ := bd_some h
      refine v_callVv [] C (t_X11_findFails e_14) mw_X11_findFails (at_74 _ _) rfl wm_RX11_244 ⟨by decide, by decide⟩ rfl (Nat.le_of_ble_eq_true rfl) rfl dX11_findSigns_14 ?_
      refine v_aload_n 0 C dX11_findSigns_17 rfl ?_
      refine g_74_48 C wf_RX11_89 dX11_findSigns_18 ?_
      refine v_iload_n 1 C dX11_findSigns_21 rfl ?_
      refine v_aload_n 0 C dX11_findSigns_22 rfl ?_
      refine v_aload_n 0 C dX11_findSigns_23 rfl ?_
      refine g_74_36 C wf_RX11_76 dX11_findSigns_24 ?_
      obtain ⟨r_27, s_27, e_27, h⟩ := bd_some h
      refine v_callVi [_, _] C (t_X11_litBits e_27) mw_X11_litBits (at_74 _ _) rfl wm_RX11_295 ⟨by decide, by decide⟩ rfl (Nat.le_of_ble_eq_true rfl) rfl dX11_findSigns_27 ?_
      obtain ⟨hi, h⟩ := gi_some h
      refine ast_99 C hi dX11_findSigns_30 ?_
      refine v_iinc (L1 := [(0, _), (1, _)]) 1 [1, 0] C dX11_findSigns_31 rfl ic_1 (by decide) rfl ?_
      refine v_goto 2 C dX11_findSigns_34 (by decide) ?_
      exact hr2 _ _ h
set_option maxRecDepth 4000 in
theorem t_X11_findSigns { s fin : _} (h : f_X11_findSigns  s = some ((), fin)) : Ct yX11_findSigns cX11_findSigns 2 none 2 50 (fun w => [.ref (wA w 74)]) s none fin := by
  refine Ct.ofV (by decide +kernel) (fun w => Nat.le_of_ble_eq_true rfl) (fun X C R1 => ?_)
  show V X s 0 [(0, .ref (wA (xw X) 74))] []
  have C : Cx X "LitWindowsModel" cX11_findSigns 2 2 50 := C
  refine v_iconst C dX11_findSigns_0 ic_0 ?_
  refine v_istore_n (L1 := [(0, _), (1, _)]) [1, 0] C dX11_findSigns_1 (by decide) rfl ?_
  exact tl_X11_findSigns_2 C R1  FU _ _ h
set_option maxRecDepth 4000 in
theorem tl_X11_lost_4  {X : CX} {r : Int32} {fin : St} (C : Cx X "LitWindowsModel" cX11_lost 4 1 25) (R1 : RtI X cX11_lost .int r fin)  : ∀ (n : Nat) (x1 : Int32) (x2 : Int32) (x3 : Int32) (s : St), l_X11_lost_4  n x1 x2 x3 s = some (r, fin) → V X s 4 [(0, .ref (wA (xw X) 74)), (1, .int x1), (2, .int x2), (3, .int x3)] [] := by
  intro n
  induction n with
  | zero => intro x1 x2 x3 s h; exact none_no h
  | succ n hr4 =>
    intro x1 x2 x3 s h
    have h : b_X11_lost_4  (l_X11_lost_4  n) x1 x2 x3 s = some (r, fin) := h
    refine v_iload_n 3 C dX11_lost_4 rfl ?_
    refine v_aload_n 0 C dX11_lost_5 rfl ?_
    refine g_74_18 C wf_RX11_215 dX11_lost_6 ?_
    refine v_icmp_ge 49 C dX11_lost_9 (by decide) (fun c => ?_) (fun c => ?_)
    · have h := if_t h c
      refine v_iload_n 2 C dX11_lost_49 rfl ?_
      exact v_ireth h R1 rfl dX11_lost_50
    · have h := if_f h c
      refine v_iload_n 2 C dX11_lost_12 rfl ?_
      refine v_aload_n 0 C dX11_lost_13 rfl ?_
      refine g_74_48 C wf_RX11_89 dX11_lost_14 ?_
      refine v_iload_n 3 C dX11_lost_17 rfl ?_
      obtain ⟨hi, h⟩ := gi_some h
      refine ald_99 C hi dX11_lost_18 ?_
      refine v_if_eq 40 C dX11_lost_19 (by decide) (fun c => ?_) (fun c => ?_)
      · have h := if_t h c
        refine v_iconst C dX11_lost_40 ic_0 ?_
        refine v_iadd C dX11_lost_41 ?_
        refine v_istore_n (L1 := [(0, _), (1, _), (2, _), (3, _)]) [1, 2, 0, 3] C dX11_lost_42 (by decide) rfl ?_
        refine v_iinc (L1 := [(0, _), (1, _), (2, _), (3, _)]) 3 [1, 2, 3, 0] C dX11_lost_43 rfl ic_1 (by decide) rfl ?_
        refine v_goto 4 C dX11_lost_46 (by decide) ?_
        exact hr4 _ _ _ _ h
      · have h := if_f h c
        refine v_aload_n 0 C dX11_lost_22 rfl ?_
        refine v_aload_n 0 C dX11_lost_23 rfl ?_
        refine g_74_48 C wf_RX11_89 dX11_lost_24 ?_
        refine v_iload_n 3 C dX11_lost_27 rfl ?_
        obtain ⟨hi, h⟩ := gi_some h
        refine ald_99 C hi dX11_lost_28 ?_
        refine v_iload_n 1 C dX11_lost_29 rfl ?_
        obtain ⟨r_30, s_30, e_30, h⟩ := bd_some h
        refine v_callVi [_] C (t_X11_shown e_30) mw_X11_shown (at_74 _ _) rfl wm_RX11_298 ⟨by decide, by decide⟩ rfl (Nat.le_of_ble_eq_true rfl) rfl dX11_lost_30 ?_
        refine v_if_ne 40 C dX11_lost_33 (by decide) (fun c => ?_) (fun c => ?_)
        · have h := if_f h c
          refine v_iconst C dX11_lost_40 ic_0 ?_
          refine v_iadd C dX11_lost_41 ?_
          refine v_istore_n (L1 := [(0, _), (1, _), (2, _), (3, _)]) [1, 2, 0, 3] C dX11_lost_42 (by decide) rfl ?_
          refine v_iinc (L1 := [(0, _), (1, _), (2, _), (3, _)]) 3 [1, 2, 3, 0] C dX11_lost_43 rfl ic_1 (by decide) rfl ?_
          refine v_goto 4 C dX11_lost_46 (by decide) ?_
          exact hr4 _ _ _ _ h
        · have h := if_t h c
          refine v_iconst C dX11_lost_36 ic_1 ?_
          refine v_goto 41 C dX11_lost_37 (by decide) ?_
          refine v_iadd C dX11_lost_41 ?_
          refine v_istore_n (L1 := [(0, _), (1, _), (2, _), (3, _)]) [1, 2, 0, 3] C dX11_lost_42 (by decide) rfl ?_
          refine v_iinc (L1 := [(0, _), (1, _), (2, _), (3, _)]) 3 [1, 2, 3, 0] C dX11_lost_43 rfl ic_1 (by decide) rfl ?_
          refine v_goto 4 C dX11_lost_46 (by decide) ?_
          exact hr4 _ _ _ _ h
set_option maxRecDepth 4000 in
theorem t_X11_lost {x1 s fin : _} {r : Int32} (h : f_X11_lost x1 s = some (r, fin)) : Ct yX11_lost cX11_lost 4 (some .int) 1 25 (fun w => [.ref (wA w 74), .int x1]) s (some (.int r)) fin := by
  refine Ct.ofI (by decide +kernel) (fun w => Nat.le_of_ble_eq_true rfl) (fun X C R1 => ?_)
  show V X s 0 [(0, .ref (wA (xw X) 74)), (1, .int x1)] []
  have C : Cx X "LitWindowsModel" cX11_lost 4 1 25 := C
  refine v_iconst C dX11_lost_0 ic_0 ?_
  refine v_istore_n (L1 := [(0, _), (1, _), (2, _)]) [1, 2, 0] C dX11_lost_1 (by decide) rfl ?_
  refine v_iconst C dX11_lost_2 ic_0 ?_
  refine v_istore_n (L1 := [(0, _), (1, _), (2, _), (3, _)]) [1, 2, 3, 0] C dX11_lost_3 (by decide) rfl ?_
  exact tl_X11_lost_4 C R1  FU _ _ _ _ h
set_option maxRecDepth 4000 in
theorem tl_X11_alike_15 {rec4 : Int32 → Int32 → Int32 → St → Option (Int32 × St)} {X : CX} {r : Int32} {fin : St} (C : Cx X "LitWindowsModel" cX11_alike 5 1 25) (R1 : RtI X cX11_alike .int r fin) (hr4 : ∀ (x1 : Int32) (x2 : Int32) (x3 : Int32) (s : St), rec4 x1 x2 x3 s = some (r, fin) → V X s 4 [(0, .ref (wA (xw X) 74)), (1, .int x1), (2, .int x2), (3, .int x3)] []) : ∀ (n : Nat) (x1 : Int32) (x2 : Int32) (x3 : Int32) (x4 : Int32) (s : St), l_X11_alike_15 rec4 n x1 x2 x3 x4 s = some (r, fin) → V X s 15 [(0, .ref (wA (xw X) 74)), (1, .int x1), (2, .int x2), (3, .int x3), (4, .int x4)] [] := by
  intro n
  induction n with
  | zero => intro x1 x2 x3 x4 s h; exact none_no h
  | succ n hr15 =>
    intro x1 x2 x3 x4 s h
    have h : b_X11_alike_15 rec4 (l_X11_alike_15 rec4 n) x1 x2 x3 x4 s = some (r, fin) := h
    refine v_iload 4 C dX11_alike_15 rfl ?_
    refine v_iload_n 3 C dX11_alike_17 rfl ?_
    refine v_icmp_ge 77 C dX11_alike_18 (by decide) (fun c => ?_) (fun c => ?_)
    · have h := if_t h c
      refine v_iinc (L1 := [(0, _), (1, _), (2, _), (3, _), (4, _)]) 3 [1, 2, 3, 0, 4] C dX11_alike_77 rfl ic_1 (by decide) rfl ?_
      refine v_goto 4 C dX11_alike_80 (by decide) ?_
      refine v_sub [0, 1, 2, 3] (L1 := [(0, _), (1, _), (2, _), (3, _)]) rfl ?_
      exact hr4 _ _ _ _ h
    · have h := if_f h c
      refine v_iload_n 2 C dX11_alike_21 rfl ?_
      refine v_aload_n 0 C dX11_alike_22 rfl ?_
      refine g_74_48 C wf_RX11_89 dX11_alike_23 ?_
      refine v_iload_n 3 C dX11_alike_26 rfl ?_
      obtain ⟨hi, h⟩ := gi_some h
      refine ald_99 C hi dX11_alike_27 ?_
      refine v_aload_n 0 C dX11_alike_28 rfl ?_
      refine g_74_48 C wf_RX11_89 dX11_alike_29 ?_
      refine v_iload 4 C dX11_alike_32 rfl ?_
      obtain ⟨hi, h⟩ := gi_some h
      refine ald_99 C hi dX11_alike_34 ?_
      refine v_icmp_eq 68 C dX11_alike_35 (by decide) (fun c => ?_) (fun c => ?_)
      · have h := if_t h c
        refine v_iconst C dX11_alike_68 ic_0 ?_
        refine v_iadd C dX11_alike_69 ?_
        refine v_istore_n (L1 := [(0, _), (1, _), (2, _), (3, _), (4, _)]) [1, 2, 0, 3, 4] C dX11_alike_70 (by decide) rfl ?_
        refine v_iinc (L1 := [(0, _), (1, _), (2, _), (3, _), (4, _)]) 4 [1, 2, 3, 4, 0] C dX11_alike_71 rfl ic_1 (by decide) rfl ?_
        refine v_goto 15 C dX11_alike_74 (by decide) ?_
        exact hr15 _ _ _ _ _ h
      · have h := if_f h c
        refine v_aload_n 0 C dX11_alike_38 rfl ?_
        refine v_aload_n 0 C dX11_alike_39 rfl ?_
        refine g_74_48 C wf_RX11_89 dX11_alike_40 ?_
        refine v_iload_n 3 C dX11_alike_43 rfl ?_
        obtain ⟨hi, h⟩ := gi_some h
        refine ald_99 C hi dX11_alike_44 ?_
        refine v_iload_n 1 C dX11_alike_45 rfl ?_
        obtain ⟨r_46, s_46, e_46, h⟩ := bd_some h
        refine v_callVi [_] C (t_X11_shown e_46) mw_X11_shown (at_74 _ _) rfl wm_RX11_298 ⟨by decide, by decide⟩ rfl (Nat.le_of_ble_eq_true rfl) rfl dX11_alike_46 ?_
        refine v_aload_n 0 C dX11_alike_49 rfl ?_
        refine v_aload_n 0 C dX11_alike_50 rfl ?_
        refine g_74_48 C wf_RX11_89 dX11_alike_51 ?_
        refine v_iload 4 C dX11_alike_54 rfl ?_
        obtain ⟨hi, h⟩ := gi_some h
        refine ald_99 C hi dX11_alike_56 ?_
        refine v_iload_n 1 C dX11_alike_57 rfl ?_
        obtain ⟨r_58, s_58, e_58, h⟩ := bd_some h
        refine v_callVi [_, _] C (t_X11_shown e_58) mw_X11_shown (at_74 _ _) rfl wm_RX11_298 ⟨by decide, by decide⟩ rfl (Nat.le_of_ble_eq_true rfl) rfl dX11_alike_58 ?_
        refine v_icmp_ne 68 C dX11_alike_61 (by decide) (fun c => ?_) (fun c => ?_)
        · have h := if_f h c
          refine v_iconst C dX11_alike_68 ic_0 ?_
          refine v_iadd C dX11_alike_69 ?_
          refine v_istore_n (L1 := [(0, _), (1, _), (2, _), (3, _), (4, _)]) [1, 2, 0, 3, 4] C dX11_alike_70 (by decide) rfl ?_
          refine v_iinc (L1 := [(0, _), (1, _), (2, _), (3, _), (4, _)]) 4 [1, 2, 3, 4, 0] C dX11_alike_71 rfl ic_1 (by decide) rfl ?_
          refine v_goto 15 C dX11_alike_74 (by decide) ?_
          exact hr15 _ _ _ _ _ h
        · have h := if_t h c
          refine v_iconst C dX11_alike_64 ic_1 ?_
          refine v_goto 69 C dX11_alike_65 (by decide) ?_
          refine v_iadd C dX11_alike_69 ?_
          refine v_istore_n (L1 := [(0, _), (1, _), (2, _), (3, _), (4, _)]) [1, 2, 0, 3, 4] C dX11_alike_70 (by decide) rfl ?_
          refine v_iinc (L1 := [(0, _), (1, _), (2, _), (3, _), (4, _)]) 4 [1, 2, 3, 4, 0] C dX11_alike_71 rfl ic_1 (by decide) rfl ?_
          refine v_goto 15 C dX11_alike_74 (by decide) ?_
          exact hr15 _ _ _ _ _ h
set_option maxRecDepth 4000 in
theorem tl_X11_alike_4  {X : CX} {r : Int32} {fin : St} (C : Cx X "LitWindowsModel" cX11_alike 5 1 25) (R1 : RtI X cX11_alike .int r fin)  : ∀ (n : Nat) (x1 : Int32) (x2 : Int32) (x3 : Int32) (s : St), l_X11_alike_4  n x1 x2 x3 s = some (r, fin) → V X s 4 [(0, .ref (wA (xw X) 74)), (1, .int x1), (2, .int x2), (3, .int x3)] [] := by
  intro n
  induction n with
  | zero => intro x1 x2 x3 s h; exact none_no h
  | succ n hr4 =>
    intro x1 x2 x3 s h
    have h : b_X11_alike_4  (l_X11_alike_4  n) x1 x2 x3 s = some (r, fin) := h
    refine v_iload_n 3 C dX11_alike_4 rfl ?_
    refine v_aload_n 0 C dX11_alike_5 rfl ?_
    refine g_74_18 C wf_RX11_215 dX11_alike_6 ?_
    refine v_icmp_ge 83 C dX11_alike_9 (by decide) (fun c => ?_) (fun c => ?_)
    · have h := if_t h c
      refine v_iload_n 2 C dX11_alike_83 rfl ?_
      exact v_ireth h R1 rfl dX11_alike_84
    · have h := if_f h c
      refine v_iconst C dX11_alike_12 ic_0 ?_
      refine v_istore (L1 := [(0, _), (1, _), (2, _), (3, _), (4, _)]) [1, 2, 3, 4, 0] C dX11_alike_13 (by decide) rfl ?_
      exact tl_X11_alike_15 C R1 hr4 FU _ _ _ _ _ h
set_option maxRecDepth 4000 in
theorem t_X11_alike {x1 s fin : _} {r : Int32} (h : f_X11_alike x1 s = some (r, fin)) : Ct yX11_alike cX11_alike 5 (some .int) 1 25 (fun w => [.ref (wA w 74), .int x1]) s (some (.int r)) fin := by
  refine Ct.ofI (by decide +kernel) (fun w => Nat.le_of_ble_eq_true rfl) (fun X C R1 => ?_)
  show V X s 0 [(0, .ref (wA (xw X) 74)), (1, .int x1)] []
  have C : Cx X "LitWindowsModel" cX11_alike 5 1 25 := C
  refine v_iconst C dX11_alike_0 ic_0 ?_
  refine v_istore_n (L1 := [(0, _), (1, _), (2, _)]) [1, 2, 0] C dX11_alike_1 (by decide) rfl ?_
  refine v_iconst C dX11_alike_2 ic_0 ?_
  refine v_istore_n (L1 := [(0, _), (1, _), (2, _), (3, _)]) [1, 2, 3, 0] C dX11_alike_3 (by decide) rfl ?_
  exact tl_X11_alike_4 C R1  FU _ _ _ _ h
set_option maxRecDepth 4000 in
theorem tj_X11_harm_125 {rec87 : Int32 → Int32 → Int32 → St → Option (Int32 × St)} {X : CX} {r : Int32} {fin : St} (C : Cx X "LitWindowsModel" cX11_harm 5 3 71) (R1 : RtI X cX11_harm .int r fin) (hr87 : ∀ (x2 : Int32) (x3 : Int32) (x4 : Int32) (s : St), rec87 x2 x3 x4 s = some (r, fin) → V X s 87 [(0, .ref (wA (xw X) 74)), (2, .int x2), (3, .int x3), (4, .int x4)] []) {x2 x3 x4 s : _} (h : j_X11_harm_125 rec87 x2 x3 x4 s = some (r, fin)) : V X s 125 [(0, .ref (wA (xw X) 74)), (2, .int x2), (3, .int x3), (4, .int x4)] [] := by
  refine v_aload_n 0 C dX11_harm_125 rfl ?_
  refine v_iload 3 C dX11_harm_126 rfl ?_
  obtain ⟨r_128, s_128, e_128, h⟩ := bd_some h
  refine v_callVi [] C (t_X11_lost e_128) mw_X11_lost (at_74 _ _) rfl wm_RX11_304 ⟨by decide, by decide⟩ rfl (Nat.le_of_ble_eq_true rfl) rfl dX11_harm_128 ?_
  refine v_if_ne 146 C dX11_harm_131 (by decide) (fun c => ?_) (fun c => ?_)
  · have h := if_f h c
    refine v_iinc (L1 := [(0, _), (2, _), (3, _), (4, _)]) 3 [1, 2, 3, 0] C dX11_harm_146 rfl ic_1 (by decide) rfl ?_
    refine v_goto 87 C dX11_harm_149 (by decide) ?_
    exact hr87 _ _ _ _ h
  · have h := if_t h c
    refine v_aload_n 0 C dX11_harm_134 rfl ?_
    refine v_iload 3 C dX11_harm_135 rfl ?_
    obtain ⟨r_137, s_137, e_137, h⟩ := bd_some h
    refine v_callVi [] C (t_X11_alike e_137) mw_X11_alike (at_74 _ _) rfl wm_RX11_307 ⟨by decide, by decide⟩ rfl (Nat.le_of_ble_eq_true rfl) rfl dX11_harm_137 ?_
    refine v_if_ne 146 C dX11_harm_140 (by decide) (fun c => ?_) (fun c => ?_)
    · have h := if_f h c
      refine v_iinc (L1 := [(0, _), (2, _), (3, _), (4, _)]) 3 [1, 2, 3, 0] C dX11_harm_146 rfl ic_1 (by decide) rfl ?_
      refine v_goto 87 C dX11_harm_149 (by decide) ?_
      exact hr87 _ _ _ _ h
    · have h := if_t h c
      refine v_iload 3 C dX11_harm_143 rfl ?_
      refine v_istore_n (L1 := [(0, _), (2, _), (3, _), (4, _)]) [1, 2, 0, 3] C dX11_harm_145 (by decide) rfl ?_
      refine v_iinc (L1 := [(0, _), (2, _), (3, _), (4, _)]) 3 [1, 2, 3, 0] C dX11_harm_146 rfl ic_1 (by decide) rfl ?_
      refine v_goto 87 C dX11_harm_149 (by decide) ?_
      exact hr87 _ _ _ _ h
set_option maxRecDepth 4000 in
theorem tl_X11_harm_87  {X : CX} {r : Int32} {fin : St} (C : Cx X "LitWindowsModel" cX11_harm 5 3 71) (R1 : RtI X cX11_harm .int r fin)  : ∀ (n : Nat) (x2 : Int32) (x3 : Int32) (x4 : Int32) (s : St), l_X11_harm_87  n x2 x3 x4 s = some (r, fin) → V X s 87 [(0, .ref (wA (xw X) 74)), (2, .int x2), (3, .int x3), (4, .int x4)] [] := by
  intro n
  induction n with
  | zero => intro x2 x3 x4 s h; exact none_no h
  | succ n hr87 =>
    intro x2 x3 x4 s h
    have h : b_X11_harm_87  (l_X11_harm_87  n) x2 x3 x4 s = some (r, fin) := h
    refine v_iload 3 C dX11_harm_87 rfl ?_
    refine v_iconst C dX11_harm_89 ic_1 ?_
    refine v_aload_n 0 C dX11_harm_90 rfl ?_
    refine g_74_29 C wf_RX11_224 dX11_harm_91 ?_
    refine v_ishl C dX11_harm_94 ?_
    refine v_icmp_ge 152 C dX11_harm_95 (by decide) (fun c => ?_) (fun c => ?_)
    · have h := if_t h c
      refine v_iload_n 2 C dX11_harm_152 rfl ?_
      exact v_ireth h R1 rfl dX11_harm_153
    · have h := if_f h c
      refine v_iload 3 C dX11_harm_98 rfl ?_
      refine v_iload_n 1 C dX11_harm_100 rfl ?_
      refine v_iand C dX11_harm_101 ?_
      refine v_if_ne 146 C dX11_harm_102 (by decide) (fun c => ?_) (fun c => ?_)
      · have h := if_f h c
        refine v_iinc (L1 := [(0, _), (2, _), (3, _), (4, _)]) 3 [1, 2, 3, 0] C dX11_harm_146 rfl ic_1 (by decide) rfl ?_
        refine v_goto 87 C dX11_harm_149 (by decide) ?_
        exact hr87 _ _ _ _ h
      · have h := if_t h c
        refine v_iload_n 2 C dX11_harm_105 rfl ?_
        refine v_iconst C dX11_harm_106 ic_m1 ?_
        refine v_icmp_eq 125 C dX11_harm_107 (by decide) (fun c => ?_) (fun c => ?_)
        · have h := if_t h c
          exact tj_X11_harm_125 C R1 hr87 h
        · have h := if_f h c
          refine v_iload 3 C dX11_harm_110 rfl ?_
          obtain ⟨r_112, s_112, e_112, h⟩ := bd_some h
          refine v_callSi [] C (t_X11_ones e_112) mw_X11_ones wm_RX11_264 ⟨by decide, by decide⟩ rfl (Nat.le_of_ble_eq_true rfl) rfl dX11_harm_112 ?_
          refine v_iload_n 2 C dX11_harm_115 rfl ?_
          obtain ⟨r_116, s_116, e_116, h⟩ := bd_some h
          refine v_callSi [_] C (t_X11_ones e_116) mw_X11_ones wm_RX11_264 ⟨by decide, by decide⟩ rfl (Nat.le_of_ble_eq_true rfl) rfl dX11_harm_116 ?_
          refine v_icmp_lt 125 C dX11_harm_119 (by decide) (fun c => ?_) (fun c => ?_)
          · have h := if_t h c
            exact tj_X11_harm_125 C R1 hr87 h
          · have h := if_f h c
            refine v_goto 146 C dX11_harm_122 (by decide) ?_
            refine v_iinc (L1 := [(0, _), (2, _), (3, _), (4, _)]) 3 [1, 2, 3, 0] C dX11_harm_146 rfl ic_1 (by decide) rfl ?_
            refine v_goto 87 C dX11_harm_149 (by decide) ?_
            exact hr87 _ _ _ _ h
set_option maxRecDepth 4000 in
theorem tl_X11_harm_49  {X : CX} {r : Int32} {fin : St} (C : Cx X "LitWindowsModel" cX11_harm 5 3 71) (R1 : RtI X cX11_harm .int r fin)  : ∀ (n : Nat) (x2 : Int32) (x3 : Int32) (s : St), l_X11_harm_49  n x2 x3 s = some (r, fin) → V X s 49 [(0, .ref (wA (xw X) 74)), (2, .int x2), (3, .int x3)] [] := by
  intro n
  induction n with
  | zero => intro x2 x3 s h; exact none_no h
  | succ n hr49 =>
    intro x2 x3 s h
    have h : b_X11_harm_49  (l_X11_harm_49  n) x2 x3 s = some (r, fin) := h
    refine v_iload_n 2 C dX11_harm_49 rfl ?_
    refine v_aload_n 0 C dX11_harm_50 rfl ?_
    refine g_74_29 C wf_RX11_224 dX11_harm_51 ?_
    refine v_icmp_ge 82 C dX11_harm_54 (by decide) (fun c => ?_) (fun c => ?_)
    · have h := if_t h c
      refine v_iconst C dX11_harm_82 ic_m1 ?_
      refine v_istore_n (L1 := [(0, _), (2, _), (3, _)]) [1, 2, 0] C dX11_harm_83 (by decide) rfl ?_
      refine v_iconst C dX11_harm_84 ic_0 ?_
      refine v_istore (L1 := [(0, _), (2, _), (3, _), (4, _)]) [1, 2, 3, 0] C dX11_harm_85 (by decide) rfl ?_
      exact tl_X11_harm_87 C R1  FU _ _ _ _ h
    · have h := if_f h c
      refine v_iload_n 1 C dX11_harm_57 rfl ?_
      refine v_aload_n 0 C dX11_harm_58 rfl ?_
      refine g_74_31 C wf_RX11_67 dX11_harm_59 ?_
      refine v_iload_n 2 C dX11_harm_62 rfl ?_
      obtain ⟨hi, h⟩ := gi_some h
      refine ald_93 C hi dX11_harm_63 ?_
      refine v_if_eq 73 C dX11_harm_64 (by decide) (fun c => ?_) (fun c => ?_)
      · have h := if_t h c
        refine v_iconst C dX11_harm_73 ic_0 ?_
        refine v_ior C dX11_harm_74 ?_
        refine v_istore_n (L1 := [(0, _), (2, _), (3, _)]) [1, 0, 2] C dX11_harm_75 (by decide) rfl ?_
        refine v_iinc (L1 := [(0, _), (2, _), (3, _)]) 2 [1, 2, 0] C dX11_harm_76 rfl ic_1 (by decide) rfl ?_
        refine v_goto 49 C dX11_harm_79 (by decide) ?_
        exact hr49 _ _ _ h
      · have h := if_f h c
        refine v_iconst C dX11_harm_67 ic_1 ?_
        refine v_iload_n 2 C dX11_harm_68 rfl ?_
        refine v_ishl C dX11_harm_69 ?_
        refine v_goto 74 C dX11_harm_70 (by decide) ?_
        refine v_ior C dX11_harm_74 ?_
        refine v_istore_n (L1 := [(0, _), (2, _), (3, _)]) [1, 0, 2] C dX11_harm_75 (by decide) rfl ?_
        refine v_iinc (L1 := [(0, _), (2, _), (3, _)]) 2 [1, 2, 0] C dX11_harm_76 rfl ic_1 (by decide) rfl ?_
        refine v_goto 49 C dX11_harm_79 (by decide) ?_
        exact hr49 _ _ _ h
set_option maxRecDepth 4000 in
theorem t_X11_harm {x1 s fin : _} {r : Int32} (h : f_X11_harm x1 s = some (r, fin)) : Ct yX11_harm cX11_harm 5 (some .int) 3 71 (fun w => [.ref (wA w 74), .int x1]) s (some (.int r)) fin := by
  refine Ct.ofI (by decide +kernel) (fun w => Nat.le_of_ble_eq_true rfl) (fun X C R1 => ?_)
  show V X s 0 [(0, .ref (wA (xw X) 74)), (1, .int x1)] []
  have C : Cx X "LitWindowsModel" cX11_harm 5 3 71 := C
  refine v_aload_n 0 C dX11_harm_0 rfl ?_
  refine g_74_18 C wf_RX11_215 dX11_harm_1 ?_
  refine v_if_eq 16 C dX11_harm_4 (by decide) (fun c => ?_) (fun c => ?_)
  · have h := if_t h c
    refine v_iconst C dX11_harm_16 ic_m1 ?_
    exact v_ireth h R1 rfl dX11_harm_17
  · have h := if_f h c
    refine v_iload_n 1 C dX11_harm_7 rfl ?_
    refine v_iconst C dX11_harm_8 ic_0 ?_
    refine v_iconst C dX11_harm_9 ic_2 ?_
    obtain ⟨r_10, s_10, e_10, h⟩ := bd_some h
    refine v_callSi [] C (t_X11_in e_10) mw_X11_in wm_RX11_98 ⟨by decide, by decide⟩ rfl (Nat.le_of_ble_eq_true rfl) rfl dX11_harm_10 ?_
    refine v_if_ne 18 C dX11_harm_13 (by decide) (fun c => ?_) (fun c => ?_)
    · have h := if_f h c
      refine v_aload_n 0 C dX11_harm_18 rfl ?_
      obtain ⟨r_19, s_19, e_19, h⟩ := bd_some h
      refine v_callVv [] C (t_X11_findSigns e_19) mw_X11_findSigns (at_74 _ _) rfl wm_RX11_301 ⟨by decide, by decide⟩ rfl (Nat.le_of_ble_eq_true rfl) rfl dX11_harm_19 ?_
      refine v_iload_n 1 C dX11_harm_22 rfl ?_
      refine v_iconst C dX11_harm_23 ic_2 ?_
      refine v_icmp_ge 45 C dX11_harm_24 (by decide) (fun c => ?_) (fun c => ?_)
      · have h := if_t h c
        refine v_iconst C dX11_harm_45 ic_0 ?_
        refine v_istore_n (L1 := [(0, _), (1, _), (2, _)]) [1, 2, 0] C dX11_harm_46 (by decide) rfl ?_
        refine v_iconst C dX11_harm_47 ic_0 ?_
        refine v_istore_n (L1 := [(0, _), (1, _), (2, _), (3, _)]) [1, 2, 3, 0] C dX11_harm_48 (by decide) rfl ?_
        refine v_sub [0, 2, 3] (L1 := [(0, _), (2, _), (3, _)]) rfl ?_
        exact tl_X11_harm_49 C R1  FU _ _ _ h
      · have h := if_f h c
        refine v_iload_n 1 C dX11_harm_27 rfl ?_
        refine v_if_ne 39 C dX11_harm_28 (by decide) (fun c => ?_) (fun c => ?_)
        · have h := if_f h c
          refine v_aload_n 0 C dX11_harm_39 rfl ?_
          refine v_iconst C dX11_harm_40 ic_0 ?_
          obtain ⟨r_41, s_41, e_41, h⟩ := bd_some h
          refine v_callVi [] C (t_X11_alike e_41) mw_X11_alike (at_74 _ _) rfl wm_RX11_307 ⟨by decide, by decide⟩ rfl (Nat.le_of_ble_eq_true rfl) rfl dX11_harm_41 ?_
          exact v_ireth h R1 rfl dX11_harm_44
        · have h := if_t h c
          refine v_aload_n 0 C dX11_harm_31 rfl ?_
          refine v_iconst C dX11_harm_32 ic_0 ?_
          obtain ⟨r_33, s_33, e_33, h⟩ := bd_some h
          refine v_callVi [] C (t_X11_lost e_33) mw_X11_lost (at_74 _ _) rfl wm_RX11_304 ⟨by decide, by decide⟩ rfl (Nat.le_of_ble_eq_true rfl) rfl dX11_harm_33 ?_
          refine v_goto 44 C dX11_harm_36 (by decide) ?_
          exact v_ireth h R1 rfl dX11_harm_44
    · have h := if_t h c
      refine v_iconst C dX11_harm_16 ic_m1 ?_
      exact v_ireth h R1 rfl dX11_harm_17
set_option maxRecDepth 4000 in
theorem t_X0_swap {x1 x2 s fin : _} (h : f_X0_swap x1 x2 s = some ((), fin)) : Ct yX0_swap cX0_swap 4 none 0 0 (fun w => [.ref (wA w 45), .int x1, .int x2]) s none fin := by
  refine Ct.ofV (by decide +kernel) (fun w => Nat.le_of_ble_eq_true rfl) (fun X C R1 => ?_)
  show V X s 0 [(0, .ref (wA (xw X) 45)), (1, .int x1), (2, .int x2)] []
  have C : Cx X "LitWindows$Crew" cX0_swap 4 0 0 := C
  refine v_aload_n 0 C dX0_swap_0 rfl ?_
  refine g_45_3 C wf_RX0_9 dX0_swap_1 ?_
  refine v_iload_n 1 C dX0_swap_4 rfl ?_
  obtain ⟨hi, h⟩ := gi_some h
  refine ald_46 C hi dX0_swap_5 ?_
  refine v_istore_n (L1 := [(0, _), (1, _), (2, _), (3, _)]) [1, 2, 3, 0] C dX0_swap_6 (by decide) rfl ?_
  refine v_aload_n 0 C dX0_swap_7 rfl ?_
  refine g_45_3 C wf_RX0_9 dX0_swap_8 ?_
  refine v_iload_n 1 C dX0_swap_11 rfl ?_
  refine v_aload_n 0 C dX0_swap_12 rfl ?_
  refine g_45_3 C wf_RX0_9 dX0_swap_13 ?_
  refine v_iload_n 2 C dX0_swap_16 rfl ?_
  obtain ⟨hi, h⟩ := gi_some h
  refine ald_46 C hi dX0_swap_17 ?_
  obtain ⟨hi, h⟩ := gi_some h
  refine ast_46 C hi dX0_swap_18 ?_
  refine v_aload_n 0 C dX0_swap_19 rfl ?_
  refine g_45_3 C wf_RX0_9 dX0_swap_20 ?_
  refine v_iload_n 2 C dX0_swap_23 rfl ?_
  refine v_iload_n 3 C dX0_swap_24 rfl ?_
  obtain ⟨hi, h⟩ := gi_some h
  refine ast_46 C hi dX0_swap_25 ?_
  exact v_vreth h R1 dX0_swap_26
set_option maxRecDepth 4000 in
theorem t_X10_change {x1 x2 s fin : _} {r : Int32} (h : f_X10_change x1 x2 s = some (r, fin)) : Ct yX10_change cX10_change 3 (some .boolean) 1 23 (fun w => [.ref (wA w 0), .int x1, .int x2]) s (some (.int r)) fin := by
  refine Ct.ofI (by decide +kernel) (fun w => Nat.le_of_ble_eq_true rfl) (fun X C R1 => ?_)
  show V X s 0 [(0, .ref (wA (xw X) 0)), (1, .int x1), (2, .int x2)] []
  have C : Cx X "LitWindows" cX10_change 3 1 23 := C
  refine v_aload_n 0 C dX10_change_0 rfl ?_
  refine v_iload_n 1 C dX10_change_1 rfl ?_
  obtain ⟨r_2, s_2, e_2, h⟩ := bd_some h
  refine v_callVi [] C (t_X10_isWindow e_2) mw_X10_isWindow (at_0 _ _) rfl wm_RX10_116 ⟨by decide, by decide⟩ rfl (Nat.le_of_ble_eq_true rfl) rfl dX10_change_2 ?_
  refine v_if_eq 21 C dX10_change_5 (by decide) (fun c => ?_) (fun c => ?_)
  · have h := if_t h c
    refine v_iconst C dX10_change_21 ic_0 ?_
    exact v_ireth h R1 rfl dX10_change_22
  · have h := if_f h c
    refine v_aload_n 0 C dX10_change_8 rfl ?_
    refine v_iload_n 2 C dX10_change_9 rfl ?_
    obtain ⟨r_10, s_10, e_10, h⟩ := bd_some h
    refine v_callVi [] C (t_X10_isWindow e_10) mw_X10_isWindow (at_0 _ _) rfl wm_RX10_116 ⟨by decide, by decide⟩ rfl (Nat.le_of_ble_eq_true rfl) rfl dX10_change_10 ?_
    refine v_if_eq 21 C dX10_change_13 (by decide) (fun c => ?_) (fun c => ?_)
    · have h := if_t h c
      refine v_iconst C dX10_change_21 ic_0 ?_
      exact v_ireth h R1 rfl dX10_change_22
    · have h := if_f h c
      refine v_iload_n 1 C dX10_change_16 rfl ?_
      refine v_iload_n 2 C dX10_change_17 rfl ?_
      refine v_icmp_ne 23 C dX10_change_18 (by decide) (fun c => ?_) (fun c => ?_)
      · have h := if_f h c
        refine v_aload_n 0 C dX10_change_23 rfl ?_
        refine g_0_9 C wf_RX10_83 dX10_change_24 ?_
        refine v_iload_n 1 C dX10_change_27 rfl ?_
        refine v_iload_n 2 C dX10_change_28 rfl ?_
        obtain ⟨r_29, s_29, e_29, h⟩ := bd_some h
        refine v_callVv [] C (t_X0_swap e_29) mw_X0_swap (at_45 _ _) rfl wm_RX10_243 ⟨by decide, by decide⟩ rfl (Nat.le_of_ble_eq_true rfl) rfl dX10_change_29 ?_
        refine v_iconst C dX10_change_32 ic_1 ?_
        exact v_ireth h R1 rfl dX10_change_33
      · have h := if_t h c
        refine v_iconst C dX10_change_21 ic_0 ?_
        exact v_ireth h R1 rfl dX10_change_22
set_option maxRecDepth 4000 in
theorem tl_X11_windowAt_2  {X : CX} {r : Int32} {fin : St} (C : Cx X "LitWindowsModel" cX11_windowAt 3 0 0) (R1 : RtI X cX11_windowAt .int r fin)  : ∀ (n : Nat) (x1 : Int32) (x2 : Int32) (s : St), l_X11_windowAt_2  n x1 x2 s = some (r, fin) → V X s 2 [(0, .ref (wA (xw X) 74)), (1, .int x1), (2, .int x2)] [] := by
  intro n
  induction n with
  | zero => intro x1 x2 s h; exact none_no h
  | succ n hr2 =>
    intro x1 x2 s h
    have h : b_X11_windowAt_2  (l_X11_windowAt_2  n) x1 x2 s = some (r, fin) := h
    refine v_iload_n 2 C dX11_windowAt_2 rfl ?_
    refine v_aload_n 0 C dX11_windowAt_3 rfl ?_
    refine g_74_24 C wf_RX11_221 dX11_windowAt_4 ?_
    refine v_icmp_ge 26 C dX11_windowAt_7 (by decide) (fun c => ?_) (fun c => ?_)
    · have h := if_t h c
      refine v_iload_n 2 C dX11_windowAt_26 rfl ?_
      exact v_ireth h R1 rfl dX11_windowAt_27
    · have h := if_f h c
      refine v_aload_n 0 C dX11_windowAt_10 rfl ?_
      refine g_74_28 C wf_RX11_61 dX11_windowAt_11 ?_
      refine v_iload_n 2 C dX11_windowAt_14 rfl ?_
      obtain ⟨hi, h⟩ := gi_some h
      refine ald_91 C hi dX11_windowAt_15 ?_
      refine v_iload_n 1 C dX11_windowAt_16 rfl ?_
      refine v_icmp_eq 26 C dX11_windowAt_17 (by decide) (fun c => ?_) (fun c => ?_)
      · have h := if_t h c
        refine v_iload_n 2 C dX11_windowAt_26 rfl ?_
        exact v_ireth h R1 rfl dX11_windowAt_27
      · have h := if_f h c
        refine v_iinc (L1 := [(0, _), (1, _), (2, _)]) 2 [1, 2, 0] C dX11_windowAt_20 rfl ic_1 (by decide) rfl ?_
        refine v_goto 2 C dX11_windowAt_23 (by decide) ?_
        exact hr2 _ _ _ h
set_option maxRecDepth 4000 in
theorem t_X11_windowAt {x1 s fin : _} {r : Int32} (h : f_X11_windowAt x1 s = some (r, fin)) : Ct yX11_windowAt cX11_windowAt 3 (some .int) 0 0 (fun w => [.ref (wA w 74), .int x1]) s (some (.int r)) fin := by
  refine Ct.ofI (by decide +kernel) (fun w => Nat.le_of_ble_eq_true rfl) (fun X C R1 => ?_)
  show V X s 0 [(0, .ref (wA (xw X) 74)), (1, .int x1)] []
  have C : Cx X "LitWindowsModel" cX11_windowAt 3 0 0 := C
  refine v_iconst C dX11_windowAt_0 ic_0 ?_
  refine v_istore_n (L1 := [(0, _), (1, _), (2, _)]) [1, 2, 0] C dX11_windowAt_1 (by decide) rfl ?_
  exact tl_X11_windowAt_2 C R1  FU _ _ _ h
set_option maxRecDepth 4000 in
theorem t_X11_swaps {x1 x2 s fin : _} (h : f_X11_swaps x1 x2 s = some ((), fin)) : Ct yX11_swaps cX11_swaps 5 none 1 22 (fun w => [.ref (wA w 74), .int x1, .int x2]) s none fin := by
  refine Ct.ofV (by decide +kernel) (fun w => Nat.le_of_ble_eq_true rfl) (fun X C R1 => ?_)
  show V X s 0 [(0, .ref (wA (xw X) 74)), (1, .int x1), (2, .int x2)] []
  have C : Cx X "LitWindowsModel" cX11_swaps 5 1 22 := C
  refine v_aload_n 0 C dX11_swaps_0 rfl ?_
  refine v_iload_n 1 C dX11_swaps_1 rfl ?_
  obtain ⟨r_2, s_2, e_2, h⟩ := bd_some h
  refine v_callVi [] C (t_X11_windowAt e_2) mw_X11_windowAt (at_74 _ _) rfl wm_RX11_314 ⟨by decide, by decide⟩ rfl (Nat.le_of_ble_eq_true rfl) rfl dX11_swaps_2 ?_
  refine v_istore_n (L1 := [(0, _), (1, _), (2, _), (3, _)]) [1, 2, 3, 0] C dX11_swaps_5 (by decide) rfl ?_
  refine v_aload_n 0 C dX11_swaps_6 rfl ?_
  refine v_iload_n 2 C dX11_swaps_7 rfl ?_
  obtain ⟨r_8, s_8, e_8, h⟩ := bd_some h
  refine v_callVi [] C (t_X11_windowAt e_8) mw_X11_windowAt (at_74 _ _) rfl wm_RX11_314 ⟨by decide, by decide⟩ rfl (Nat.le_of_ble_eq_true rfl) rfl dX11_swaps_8 ?_
  refine v_istore (L1 := [(0, _), (1, _), (2, _), (3, _), (4, _)]) [1, 2, 3, 4, 0] C dX11_swaps_11 (by decide) rfl ?_
  refine v_aload_n 0 C dX11_swaps_13 rfl ?_
  refine g_74_28 C wf_RX11_61 dX11_swaps_14 ?_
  refine v_iload_n 3 C dX11_swaps_17 rfl ?_
  refine v_iload_n 2 C dX11_swaps_18 rfl ?_
  obtain ⟨hi, h⟩ := gi_some h
  refine ast_91 C hi dX11_swaps_19 ?_
  refine v_aload_n 0 C dX11_swaps_20 rfl ?_
  refine g_74_28 C wf_RX11_61 dX11_swaps_21 ?_
  refine v_iload 4 C dX11_swaps_24 rfl ?_
  refine v_iload_n 1 C dX11_swaps_26 rfl ?_
  obtain ⟨hi, h⟩ := gi_some h
  refine ast_91 C hi dX11_swaps_27 ?_
  exact v_vreth h R1 dX11_swaps_28
set_option maxRecDepth 4000 in
theorem t_X11_change {x1 x2 s fin : _} {r : Int32} (h : f_X11_change x1 x2 s = some (r, fin)) : Ct yX11_change cX11_change 3 (some .boolean) 2 46 (fun w => [.ref (wA w 74), .int x1, .int x2]) s (some (.int r)) fin := by
  refine Ct.ofI (by decide +kernel) (fun w => Nat.le_of_ble_eq_true rfl) (fun X C R1 => ?_)
  show V X s 0 [(0, .ref (wA (xw X) 74)), (1, .int x1), (2, .int x2)] []
  have C : Cx X "LitWindowsModel" cX11_change 3 2 46 := C
  refine v_aload_n 0 C dX11_change_0 rfl ?_
  refine v_iload_n 1 C dX11_change_1 rfl ?_
  obtain ⟨r_2, s_2, e_2, h⟩ := bd_some h
  refine v_callVi [] C (t_X11_isWindow e_2) mw_X11_isWindow (at_74 _ _) rfl wm_RX11_230 ⟨by decide, by decide⟩ rfl (Nat.le_of_ble_eq_true rfl) rfl dX11_change_2 ?_
  refine v_if_eq 21 C dX11_change_5 (by decide) (fun c => ?_) (fun c => ?_)
  · have h := if_t h c
    refine v_iconst C dX11_change_21 ic_0 ?_
    exact v_ireth h R1 rfl dX11_change_22
  · have h := if_f h c
    refine v_aload_n 0 C dX11_change_8 rfl ?_
    refine v_iload_n 2 C dX11_change_9 rfl ?_
    obtain ⟨r_10, s_10, e_10, h⟩ := bd_some h
    refine v_callVi [] C (t_X11_isWindow e_10) mw_X11_isWindow (at_74 _ _) rfl wm_RX11_230 ⟨by decide, by decide⟩ rfl (Nat.le_of_ble_eq_true rfl) rfl dX11_change_10 ?_
    refine v_if_eq 21 C dX11_change_13 (by decide) (fun c => ?_) (fun c => ?_)
    · have h := if_t h c
      refine v_iconst C dX11_change_21 ic_0 ?_
      exact v_ireth h R1 rfl dX11_change_22
    · have h := if_f h c
      refine v_iload_n 1 C dX11_change_16 rfl ?_
      refine v_iload_n 2 C dX11_change_17 rfl ?_
      refine v_icmp_ne 23 C dX11_change_18 (by decide) (fun c => ?_) (fun c => ?_)
      · have h := if_f h c
        refine v_aload_n 0 C dX11_change_23 rfl ?_
        refine v_iload_n 1 C dX11_change_24 rfl ?_
        refine v_iload_n 2 C dX11_change_25 rfl ?_
        obtain ⟨r_26, s_26, e_26, h⟩ := bd_some h
        refine v_callVv [] C (t_X11_swaps e_26) mw_X11_swaps (at_74 _ _) rfl wm_RX11_310 ⟨by decide, by decide⟩ rfl (Nat.le_of_ble_eq_true rfl) rfl dX11_change_26 ?_
        refine v_iconst C dX11_change_29 ic_1 ?_
        exact v_ireth h R1 rfl dX11_change_30
      · have h := if_t h c
        refine v_iconst C dX11_change_21 ic_0 ?_
        exact v_ireth h R1 rfl dX11_change_22
set_option maxRecDepth 4000 in
theorem t_X10_isPace {x0 s fin : _} {r : Int32} (h : f_X10_isPace x0 s = some (r, fin)) : Ct yX10_isPace cX10_isPace 1 (some .boolean) 0 0 (fun w => [.int x0]) s (some (.int r)) fin := by
  refine Ct.ofI (by decide +kernel) (fun w => Nat.le_of_ble_eq_true rfl) (fun X C R1 => ?_)
  show V X s 0 [(0, .int x0)] []
  have C : Cx X "LitWindows" cX10_isPace 1 0 0 := C
  refine v_iload_n 0 C dX10_isPace_0 rfl ?_
  refine v_iconst C dX10_isPace_1 ic_1 ?_
  refine v_icmp_lt 15 C dX10_isPace_2 (by decide) (fun c => ?_) (fun c => ?_)
  · have h := if_t h c
    refine v_iconst C dX10_isPace_15 ic_0 ?_
    exact v_ireth h R1 rfl dX10_isPace_16
  · have h := if_f h c
    refine v_iload_n 0 C dX10_isPace_5 rfl ?_
    refine v_bipush C dX10_isPace_6 bp_30 ?_
    refine v_icmp_gt 15 C dX10_isPace_8 (by decide) (fun c => ?_) (fun c => ?_)
    · have h := if_t h c
      refine v_iconst C dX10_isPace_15 ic_0 ?_
      exact v_ireth h R1 rfl dX10_isPace_16
    · have h := if_f h c
      refine v_iconst C dX10_isPace_11 ic_1 ?_
      refine v_goto 16 C dX10_isPace_12 (by decide) ?_
      exact v_ireth h R1 rfl dX10_isPace_16
set_option maxRecDepth 4000 in
theorem tl_X2_stuckLit_4  {X : CX} {r : Int32} {fin : St} (C : Cx X "LitWindows$Lamps" cX2_stuckLit 3 0 0) (R1 : RtI X cX2_stuckLit .int r fin)  : ∀ (n : Nat) (x1 : Int32) (x2 : Int32) (s : St), l_X2_stuckLit_4  n x1 x2 s = some (r, fin) → V X s 4 [(0, .ref (wA (xw X) 32)), (1, .int x1), (2, .int x2)] [] := by
  intro n
  induction n with
  | zero => intro x1 x2 s h; exact none_no h
  | succ n hr4 =>
    intro x1 x2 s h
    have h : b_X2_stuckLit_4  (l_X2_stuckLit_4  n) x1 x2 s = some (r, fin) := h
    refine v_iload_n 2 C dX2_stuckLit_4 rfl ?_
    refine v_aload_n 0 C dX2_stuckLit_5 rfl ?_
    refine g_32_0 C wf_RX2_18 dX2_stuckLit_6 ?_
    refine g_8_2 C wf_RX2_42 dX2_stuckLit_9 ?_
    refine v_icmp_ge 37 C dX2_stuckLit_12 (by decide) (fun c => ?_) (fun c => ?_)
    · have h := if_t h c
      refine v_iload_n 1 C dX2_stuckLit_37 rfl ?_
      exact v_ireth h R1 rfl dX2_stuckLit_38
    · have h := if_f h c
      refine v_aload_n 0 C dX2_stuckLit_15 rfl ?_
      refine g_32_2 C wf_RX2_9 dX2_stuckLit_16 ?_
      refine v_iload_n 2 C dX2_stuckLit_19 rfl ?_
      obtain ⟨hi, h⟩ := gi_some h
      refine ald_33 C hi dX2_stuckLit_20 ?_
      refine v_iconst C dX2_stuckLit_21 ic_1 ?_
      refine v_icmp_ne 31 C dX2_stuckLit_22 (by decide) (fun c => ?_) (fun c => ?_)
      · have h := if_f h c
        refine v_iinc (L1 := [(0, _), (1, _), (2, _)]) 2 [1, 2, 0] C dX2_stuckLit_31 rfl ic_1 (by decide) rfl ?_
        refine v_goto 4 C dX2_stuckLit_34 (by decide) ?_
        exact hr4 _ _ _ h
      · have h := if_t h c
        refine v_iload_n 1 C dX2_stuckLit_25 rfl ?_
        refine v_iconst C dX2_stuckLit_26 ic_1 ?_
        refine v_iload_n 2 C dX2_stuckLit_27 rfl ?_
        refine v_ishl C dX2_stuckLit_28 ?_
        refine v_ior C dX2_stuckLit_29 ?_
        refine v_istore_n (L1 := [(0, _), (1, _), (2, _)]) [1, 0, 2] C dX2_stuckLit_30 (by decide) rfl ?_
        refine v_iinc (L1 := [(0, _), (1, _), (2, _)]) 2 [1, 2, 0] C dX2_stuckLit_31 rfl ic_1 (by decide) rfl ?_
        refine v_goto 4 C dX2_stuckLit_34 (by decide) ?_
        exact hr4 _ _ _ h
set_option maxRecDepth 4000 in
theorem t_X2_stuckLit { s fin : _} {r : Int32} (h : f_X2_stuckLit  s = some (r, fin)) : Ct yX2_stuckLit cX2_stuckLit 3 (some .int) 0 0 (fun w => [.ref (wA w 32)]) s (some (.int r)) fin := by
  refine Ct.ofI (by decide +kernel) (fun w => Nat.le_of_ble_eq_true rfl) (fun X C R1 => ?_)
  show V X s 0 [(0, .ref (wA (xw X) 32))] []
  have C : Cx X "LitWindows$Lamps" cX2_stuckLit 3 0 0 := C
  refine v_iconst C dX2_stuckLit_0 ic_0 ?_
  refine v_istore_n (L1 := [(0, _), (1, _)]) [1, 0] C dX2_stuckLit_1 (by decide) rfl ?_
  refine v_iconst C dX2_stuckLit_2 ic_0 ?_
  refine v_istore_n (L1 := [(0, _), (1, _), (2, _)]) [1, 2, 0] C dX2_stuckLit_3 (by decide) rfl ?_
  exact tl_X2_stuckLit_4 C R1  FU _ _ _ h
set_option maxRecDepth 4000 in
theorem tl_X2_nextChange_5  {X : CX} {r : Int32} {fin : St} (C : Cx X "LitWindows$Lamps" cX2_nextChange 4 1 32) (R1 : RtI X cX2_nextChange .int r fin)  : ∀ (n : Nat) (x1 : Int32) (x2 : Int32) (x3 : Int32) (s : St), l_X2_nextChange_5  n x1 x2 x3 s = some (r, fin) → V X s 5 [(0, .ref (wA (xw X) 32)), (1, .int x1), (2, .int x2), (3, .int x3)] [] := by
  intro n
  induction n with
  | zero => intro x1 x2 x3 s h; exact none_no h
  | succ n hr5 =>
    intro x1 x2 x3 s h
    have h : b_X2_nextChange_5  (l_X2_nextChange_5  n) x1 x2 x3 s = some (r, fin) := h
    refine v_iload_n 3 C dX2_nextChange_5 rfl ?_
    refine v_aload_n 0 C dX2_nextChange_6 rfl ?_
    refine g_32_0 C wf_RX2_18 dX2_nextChange_7 ?_
    refine g_8_2 C wf_RX2_42 dX2_nextChange_10 ?_
    refine v_icmp_ge 43 C dX2_nextChange_13 (by decide) (fun c => ?_) (fun c => ?_)
    · have h := if_t h c
      refine v_iload_n 2 C dX2_nextChange_43 rfl ?_
      exact v_ireth h R1 rfl dX2_nextChange_44
    · have h := if_f h c
      refine v_aload_n 0 C dX2_nextChange_16 rfl ?_
      refine g_32_3 C wf_RX2_15 dX2_nextChange_17 ?_
      refine v_iload_n 3 C dX2_nextChange_20 rfl ?_
      obtain ⟨hi, h⟩ := gi_some h
      refine ald_34 C hi dX2_nextChange_21 ?_
      refine v_iload_n 1 C dX2_nextChange_22 rfl ?_
      refine v_icmp_le 37 C dX2_nextChange_23 (by decide) (fun c => ?_) (fun c => ?_)
      · have h := if_t h c
        refine v_iinc (L1 := [(0, _), (1, _), (2, _), (3, _)]) 3 [1, 2, 3, 0] C dX2_nextChange_37 rfl ic_1 (by decide) rfl ?_
        refine v_goto 5 C dX2_nextChange_40 (by decide) ?_
        exact hr5 _ _ _ _ h
      · have h := if_f h c
        refine v_iload_n 2 C dX2_nextChange_26 rfl ?_
        refine v_aload_n 0 C dX2_nextChange_27 rfl ?_
        refine g_32_3 C wf_RX2_15 dX2_nextChange_28 ?_
        refine v_iload_n 3 C dX2_nextChange_31 rfl ?_
        obtain ⟨hi, h⟩ := gi_some h
        refine ald_34 C hi dX2_nextChange_32 ?_
        refine v_jmin C wm_RX2_68 (by decide) (Nat.le_of_ble_eq_true rfl) dX2_nextChange_33 ?_
        refine v_istore_n (L1 := [(0, _), (1, _), (2, _), (3, _)]) [1, 2, 0, 3] C dX2_nextChange_36 (by decide) rfl ?_
        refine v_iinc (L1 := [(0, _), (1, _), (2, _), (3, _)]) 3 [1, 2, 3, 0] C dX2_nextChange_37 rfl ic_1 (by decide) rfl ?_
        refine v_goto 5 C dX2_nextChange_40 (by decide) ?_
        exact hr5 _ _ _ _ h
set_option maxRecDepth 4000 in
theorem t_X2_nextChange {x1 s fin : _} {r : Int32} (h : f_X2_nextChange x1 s = some (r, fin)) : Ct yX2_nextChange cX2_nextChange 4 (some .int) 1 32 (fun w => [.ref (wA w 32), .int x1]) s (some (.int r)) fin := by
  refine Ct.ofI (by decide +kernel) (fun w => Nat.le_of_ble_eq_true rfl) (fun X C R1 => ?_)
  show V X s 0 [(0, .ref (wA (xw X) 32)), (1, .int x1)] []
  have C : Cx X "LitWindows$Lamps" cX2_nextChange 4 1 32 := C
  refine v_ldc C wc_RX2_51 dX2_nextChange_0 ?_
  refine v_istore_n (L1 := [(0, _), (1, _), (2, _)]) [1, 2, 0] C dX2_nextChange_2 (by decide) rfl ?_
  refine v_iconst C dX2_nextChange_3 ic_0 ?_
  refine v_istore_n (L1 := [(0, _), (1, _), (2, _), (3, _)]) [1, 2, 3, 0] C dX2_nextChange_4 (by decide) rfl ?_
  exact tl_X2_nextChange_5 C R1  FU _ _ _ _ h
set_option maxRecDepth 4000 in
theorem tl_X0_setStages_4  {X : CX} {fin : St} (C : Cx X "LitWindows$Crew" cX0_setStages 4 2 55) (R1 : RtV X cX0_setStages fin)  : ∀ (n : Nat) (x1 : Int32) (x2 : Int32) (x3 : Int32) (s : St), l_X0_setStages_4  n x1 x2 x3 s = some ((), fin) → V X s 4 [(0, .ref (wA (xw X) 45)), (1, .int x1), (2, .int x2), (3, .int x3)] [] := by
  intro n
  induction n with
  | zero => intro x1 x2 x3 s h; exact none_no h
  | succ n hr4 =>
    intro x1 x2 x3 s h
    have h : b_X0_setStages_4  (l_X0_setStages_4  n) x1 x2 x3 s = some ((), fin) := h
    refine v_iload_n 2 C dX0_setStages_4 rfl ?_
    refine v_bipush C dX0_setStages_5 bp_13 ?_
    refine v_icmp_ge 70 C dX0_setStages_7 (by decide) (fun c => ?_) (fun c => ?_)
    · have h := if_t h c
      refine v_aload_n 0 C dX0_setStages_70 rfl ?_
      refine g_45_6 C wf_RX0_23 dX0_setStages_71 ?_
      refine v_iload_n 1 C dX0_setStages_74 rfl ?_
      refine v_iload_n 2 C dX0_setStages_75 rfl ?_
      obtain ⟨hi, h⟩ := gi_some h
      refine ast_49 C hi dX0_setStages_76 ?_
      exact v_vreth h R1 dX0_setStages_77
    · have h := if_f h c
      refine v_iload_n 3 C dX0_setStages_10 rfl ?_
      refine v_ldc C wc_RX0_67 dX0_setStages_11 ?_
      refine v_icmp_ge 70 C dX0_setStages_13 (by decide) (fun c => ?_) (fun c => ?_)
      · have h := if_t h c
        refine v_aload_n 0 C dX0_setStages_70 rfl ?_
        refine g_45_6 C wf_RX0_23 dX0_setStages_71 ?_
        refine v_iload_n 1 C dX0_setStages_74 rfl ?_
        refine v_iload_n 2 C dX0_setStages_75 rfl ?_
        obtain ⟨hi, h⟩ := gi_some h
        refine ast_49 C hi dX0_setStages_76 ?_
        exact v_vreth h R1 dX0_setStages_77
      · have h := if_f h c
        refine v_aload_n 0 C dX0_setStages_16 rfl ?_
        refine g_45_4 C wf_RX0_17 dX0_setStages_17 ?_
        refine v_iload_n 1 C dX0_setStages_20 rfl ?_
        obtain ⟨hj_21, h⟩ := gi_some h
        refine aald_47 C hj_21 dX0_setStages_21 ?_
        refine v_iload_n 2 C dX0_setStages_22 rfl ?_
        refine v_iload_n 3 C dX0_setStages_23 rfl ?_
        obtain ⟨hi, h⟩ := gi_some h
        refine astg_50 C hj_21 hi dX0_setStages_24 ?_
        refine v_aload_n 0 C dX0_setStages_25 rfl ?_
        refine g_45_5 C wf_RX0_20 dX0_setStages_26 ?_
        refine v_iload_n 1 C dX0_setStages_29 rfl ?_
        obtain ⟨hj_30, h⟩ := gi_some h
        refine aald_48 C hj_30 dX0_setStages_30 ?_
        refine v_iload_n 2 C dX0_setStages_31 rfl ?_
        refine v_aload_n 0 C dX0_setStages_32 rfl ?_
        refine g_45_1 C wf_RX0_30 dX0_setStages_33 ?_
        refine v_aload_n 0 C dX0_setStages_36 rfl ?_
        refine g_45_1 C wf_RX0_30 dX0_setStages_37 ?_
        refine v_iload_n 3 C dX0_setStages_40 rfl ?_
        obtain ⟨r_41, s_41, e_41, h⟩ := bd_some h
        refine v_callVi [_, _, _] C (t_X2_litAt e_41) mw_X2_litAt (at_32 _ _) rfl wm_RX0_68 ⟨by decide, by decide⟩ rfl (Nat.le_of_ble_eq_true rfl) rfl dX0_setStages_41 ?_
        refine v_aload_n 0 C dX0_setStages_44 rfl ?_
        refine g_45_1 C wf_RX0_30 dX0_setStages_45 ?_
        refine g_32_4 C wf_RX0_72 dX0_setStages_48 ?_
        obtain ⟨r_51, s_51, e_51, h⟩ := bd_some h
        refine v_callVi [_, _] C (t_X2_shownOf e_51) mw_X2_shownOf (at_32 _ _) rfl wm_RX0_75 ⟨by decide, by decide⟩ rfl (Nat.le_of_ble_eq_true rfl) rfl dX0_setStages_51 ?_
        obtain ⟨hi, h⟩ := gi_some h
        refine astg_62 C hj_30 hi dX0_setStages_54 ?_
        refine v_iinc (L1 := [(0, _), (1, _), (2, _), (3, _)]) 2 [1, 2, 0, 3] C dX0_setStages_55 rfl ic_1 (by decide) rfl ?_
        refine v_aload_n 0 C dX0_setStages_58 rfl ?_
        refine g_45_1 C wf_RX0_30 dX0_setStages_59 ?_
        refine v_iload_n 3 C dX0_setStages_62 rfl ?_
        obtain ⟨r_63, s_63, e_63, h⟩ := bd_some h
        refine v_callVi [] C (t_X2_nextChange e_63) mw_X2_nextChange (at_32 _ _) rfl wm_RX0_79 ⟨by decide, by decide⟩ rfl (Nat.le_of_ble_eq_true rfl) rfl dX0_setStages_63 ?_
        refine v_istore_n (L1 := [(0, _), (1, _), (2, _), (3, _)]) [1, 2, 3, 0] C dX0_setStages_66 (by decide) rfl ?_
        refine v_goto 4 C dX0_setStages_67 (by decide) ?_
        exact hr4 _ _ _ _ h
set_option maxRecDepth 4000 in
theorem t_X0_setStages {x1 s fin : _} (h : f_X0_setStages x1 s = some ((), fin)) : Ct yX0_setStages cX0_setStages 4 none 2 55 (fun w => [.ref (wA w 45), .int x1]) s none fin := by
  refine Ct.ofV (by decide +kernel) (fun w => Nat.le_of_ble_eq_true rfl) (fun X C R1 => ?_)
  show V X s 0 [(0, .ref (wA (xw X) 45)), (1, .int x1)] []
  have C : Cx X "LitWindows$Crew" cX0_setStages 4 2 55 := C
  refine v_iconst C dX0_setStages_0 ic_0 ?_
  refine v_istore_n (L1 := [(0, _), (1, _), (2, _)]) [1, 2, 0] C dX0_setStages_1 (by decide) rfl ?_
  refine v_iconst C dX0_setStages_2 ic_0 ?_
  refine v_istore_n (L1 := [(0, _), (1, _), (2, _), (3, _)]) [1, 2, 3, 0] C dX0_setStages_3 (by decide) rfl ?_
  exact tl_X0_setStages_4 C R1  FU _ _ _ _ h
set_option maxRecDepth 4000 in
theorem tl_X0_prepare_20  {X : CX} {fin : St} (C : Cx X "LitWindows$Crew" cX0_prepare 2 5 121) (R1 : RtV X cX0_prepare fin)  : ∀ (n : Nat) (x1 : Int32) (s : St), l_X0_prepare_20  n x1 s = some ((), fin) → V X s 20 [(0, .ref (wA (xw X) 45)), (1, .int x1)] [] := by
  intro n
  induction n with
  | zero => intro x1 s h; exact none_no h
  | succ n hr20 =>
    intro x1 s h
    have h : b_X0_prepare_20  (l_X0_prepare_20  n) x1 s = some ((), fin) := h
    refine v_iload_n 1 C dX0_prepare_20 rfl ?_
    refine v_aload_n 0 C dX0_prepare_21 rfl ?_
    refine g_45_0 C wf_RX0_26 dX0_prepare_22 ?_
    refine g_8_0 C wf_RX0_57 dX0_prepare_25 ?_
    refine v_icmp_ge 52 C dX0_prepare_28 (by decide) (fun c => ?_) (fun c => ?_)
    · have h := if_t h c
      exact v_vreth h R1 dX0_prepare_52
    · have h := if_f h c
      refine v_aload_n 0 C dX0_prepare_31 rfl ?_
      refine g_45_1 C wf_RX0_30 dX0_prepare_32 ?_
      refine v_iconst C dX0_prepare_35 ic_1 ?_
      refine v_iload_n 1 C dX0_prepare_36 rfl ?_
      refine v_ishl C dX0_prepare_37 ?_
      obtain ⟨r_38, s_38, e_38, h⟩ := bd_some h
      refine v_callVv [] C (t_X2_light e_38) mw_X2_light (at_32 _ _) rfl wm_RX0_60 ⟨by decide, by decide⟩ rfl (Nat.le_of_ble_eq_true rfl) rfl dX0_prepare_38 ?_
      refine v_aload_n 0 C dX0_prepare_41 rfl ?_
      refine v_iload_n 1 C dX0_prepare_42 rfl ?_
      obtain ⟨r_43, s_43, e_43, h⟩ := bd_some h
      refine v_callVv [] C (t_X0_setStages e_43) mw_X0_setStages (at_45 _ _) rfl wm_RX0_64 ⟨by decide, by decide⟩ rfl (Nat.le_of_ble_eq_true rfl) rfl dX0_prepare_43 ?_
      refine v_iinc (L1 := [(0, _), (1, _)]) 1 [1, 0] C dX0_prepare_46 rfl ic_1 (by decide) rfl ?_
      refine v_goto 20 C dX0_prepare_49 (by decide) ?_
      exact hr20 _ _ h
set_option maxRecDepth 4000 in
theorem t_X0_prepare { s fin : _} (h : f_X0_prepare  s = some ((), fin)) : Ct yX0_prepare cX0_prepare 2 none 5 121 (fun w => [.ref (wA w 45)]) s none fin := by
  refine Ct.ofV (by decide +kernel) (fun w => Nat.le_of_ble_eq_true rfl) (fun X C R1 => ?_)
  show V X s 0 [(0, .ref (wA (xw X) 45))] []
  have C : Cx X "LitWindows$Crew" cX0_prepare 2 5 121 := C
  refine v_aload_n 0 C dX0_prepare_0 rfl ?_
  refine g_45_2 C wf_RX0_34 dX0_prepare_1 ?_
  obtain ⟨r_4, s_4, e_4, h⟩ := bd_some h
  refine v_callVv [] C (t_X6_load e_4) mw_X6_load (at_42 _ _) rfl wm_RX0_44 ⟨by decide, by decide⟩ rfl (Nat.le_of_ble_eq_true rfl) rfl dX0_prepare_4 ?_
  refine v_aload_n 0 C dX0_prepare_7 rfl ?_
  refine v_aload_n 0 C dX0_prepare_8 rfl ?_
  refine g_45_1 C wf_RX0_30 dX0_prepare_9 ?_
  obtain ⟨r_12, s_12, e_12, h⟩ := bd_some h
  refine v_callVi [_] C (t_X2_stuckLit e_12) mw_X2_stuckLit (at_32 _ _) rfl wm_RX0_49 ⟨by decide, by decide⟩ rfl (Nat.le_of_ble_eq_true rfl) rfl dX0_prepare_12 ?_
  refine p_45_7 C wf_RX0_55 dX0_prepare_15 ?_
  refine v_iconst C dX0_prepare_18 ic_0 ?_
  refine v_istore_n (L1 := [(0, _), (1, _)]) [1, 0] C dX0_prepare_19 (by decide) rfl ?_
  exact tl_X0_prepare_20 C R1  FU _ _ h
set_option maxRecDepth 4000 in
theorem tl_X0_stageBy_3  {X : CX} {r : Int32} {fin : St} (C : Cx X "LitWindows$Crew" cX0_stageBy 5 0 0) (R1 : RtI X cX0_stageBy .int r fin)  : ∀ (n : Nat) (x1 : Int32) (x3 : Int32) (x4 : Int32) (s : St), l_X0_stageBy_3  n x1 x3 x4 s = some (r, fin) → V X s 3 [(0, .ref (wA (xw X) 45)), (1, .int x1), (3, .int x3), (4, .int x4)] [] := by
  intro n
  induction n with
  | zero => intro x1 x3 x4 s h; exact none_no h
  | succ n hr3 =>
    intro x1 x3 x4 s h
    have h : b_X0_stageBy_3  (l_X0_stageBy_3  n) x1 x3 x4 s = some (r, fin) := h
    refine v_iload 3 C dX0_stageBy_3 rfl ?_
    refine v_iconst C dX0_stageBy_5 ic_1 ?_
    refine v_iadd C dX0_stageBy_6 ?_
    refine v_aload_n 0 C dX0_stageBy_7 rfl ?_
    refine g_45_6 C wf_RX0_23 dX0_stageBy_8 ?_
    refine v_iload_n 1 C dX0_stageBy_11 rfl ?_
    obtain ⟨hi, h⟩ := gi_some h
    refine ald_49 C hi dX0_stageBy_12 ?_
    refine v_icmp_ge 37 C dX0_stageBy_13 (by decide) (fun c => ?_) (fun c => ?_)
    · have h := if_t h c
      refine v_iload 3 C dX0_stageBy_37 rfl ?_
      exact v_ireth h R1 rfl dX0_stageBy_39
    · have h := if_f h c
      refine v_aload_n 0 C dX0_stageBy_16 rfl ?_
      refine g_45_4 C wf_RX0_17 dX0_stageBy_17 ?_
      refine v_iload_n 1 C dX0_stageBy_20 rfl ?_
      obtain ⟨hj_21, h⟩ := gi_some h
      refine aald_47 C hj_21 dX0_stageBy_21 ?_
      refine v_iload 3 C dX0_stageBy_22 rfl ?_
      refine v_iconst C dX0_stageBy_24 ic_1 ?_
      refine v_iadd C dX0_stageBy_25 ?_
      obtain ⟨hi, h⟩ := gi_some h
      refine aldg_50 C hj_21 hi dX0_stageBy_26 ?_
      refine v_iload_n 2 C dX0_stageBy_27 rfl ?_
      refine v_icmp_gt 37 C dX0_stageBy_28 (by decide) (fun c => ?_) (fun c => ?_)
      · have h := if_t h c
        refine v_iload 3 C dX0_stageBy_37 rfl ?_
        exact v_ireth h R1 rfl dX0_stageBy_39
      · have h := if_f h c
        refine v_iinc (L1 := [(0, _), (1, _), (3, _), (4, _)]) 3 [1, 2, 3, 0] C dX0_stageBy_31 rfl ic_1 (by decide) rfl ?_
        refine v_goto 3 C dX0_stageBy_34 (by decide) ?_
        exact hr3 _ _ _ _ h
set_option maxRecDepth 4000 in
theorem t_X0_stageBy {x1 x2 x3 s fin : _} {r : Int32} (h : f_X0_stageBy x1 x2 x3 s = some (r, fin)) : Ct yX0_stageBy cX0_stageBy 5 (some .int) 0 0 (fun w => [.ref (wA w 45), .int x1, .int x2, .int x3]) s (some (.int r)) fin := by
  refine Ct.ofI (by decide +kernel) (fun w => Nat.le_of_ble_eq_true rfl) (fun X C R1 => ?_)
  show V X s 0 [(0, .ref (wA (xw X) 45)), (1, .int x1), (2, .int x2), (3, .int x3)] []
  have C : Cx X "LitWindows$Crew" cX0_stageBy 5 0 0 := C
  refine v_iload_n 2 C dX0_stageBy_0 rfl ?_
  refine v_istore (L1 := [(0, _), (1, _), (2, _), (3, _), (4, _)]) [1, 2, 3, 4, 0] C dX0_stageBy_1 (by decide) rfl ?_
  refine v_sub [0, 1, 3, 4] (L1 := [(0, _), (1, _), (3, _), (4, _)]) rfl ?_
  exact tl_X0_stageBy_3 C R1  FU _ _ _ _ h
set_option maxRecDepth 4000 in
theorem tl_X0_nearest_2  {X : CX} {r : Int32} {fin : St} (C : Cx X "LitWindows$Crew" cX0_nearest 3 1 21) (R1 : RtI X cX0_nearest .int r fin)  : ∀ (n : Nat) (x1 : Int32) (x2 : Int32) (s : St), l_X0_nearest_2  n x1 x2 s = some (r, fin) → V X s 2 [(0, .ref (wA (xw X) 45)), (1, .int x1), (2, .int x2)] [] := by
  intro n
  induction n with
  | zero => intro x1 x2 s h; exact none_no h
  | succ n hr2 =>
    intro x1 x2 s h
    have h : b_X0_nearest_2  (l_X0_nearest_2  n) x1 x2 s = some (r, fin) := h
    refine v_iload_n 2 C dX0_nearest_2 rfl ?_
    refine v_aload_n 0 C dX0_nearest_3 rfl ?_
    refine g_45_0 C wf_RX0_26 dX0_nearest_4 ?_
    refine g_8_2 C wf_RX0_38 dX0_nearest_7 ?_
    refine v_icmp_ge 39 C dX0_nearest_10 (by decide) (fun c => ?_) (fun c => ?_)
    · have h := if_t h c
      refine v_iconst C dX0_nearest_39 ic_0 ?_
      exact v_ireth h R1 rfl dX0_nearest_40
    · have h := if_f h c
      refine v_iload_n 1 C dX0_nearest_13 rfl ?_
      refine v_aload_n 0 C dX0_nearest_14 rfl ?_
      refine g_45_3 C wf_RX0_9 dX0_nearest_15 ?_
      refine v_iload_n 2 C dX0_nearest_18 rfl ?_
      obtain ⟨hi, h⟩ := gi_some h
      refine ald_46 C hi dX0_nearest_19 ?_
      obtain ⟨r_20, s_20, e_20, h⟩ := bd_some h
      refine v_callNi [] C (t_X10_hasBit e_20) mw_X10_hasBit (by decide) ⟨by decide, by decide⟩ rfl (Nat.le_of_ble_eq_true rfl) rfl dX0_nearest_20 ?_
      refine v_if_eq 33 C dX0_nearest_23 (by decide) (fun c => ?_) (fun c => ?_)
      · have h := if_t h c
        refine v_iinc (L1 := [(0, _), (1, _), (2, _)]) 2 [1, 2, 0] C dX0_nearest_33 rfl ic_1 (by decide) rfl ?_
        refine v_goto 2 C dX0_nearest_36 (by decide) ?_
        exact hr2 _ _ _ h
      · have h := if_f h c
        refine v_aload_n 0 C dX0_nearest_26 rfl ?_
        refine g_45_3 C wf_RX0_9 dX0_nearest_27 ?_
        refine v_iload_n 2 C dX0_nearest_30 rfl ?_
        obtain ⟨hi, h⟩ := gi_some h
        refine ald_46 C hi dX0_nearest_31 ?_
        exact v_ireth h R1 rfl dX0_nearest_32
set_option maxRecDepth 4000 in
theorem t_X0_nearest {x1 s fin : _} {r : Int32} (h : f_X0_nearest x1 s = some (r, fin)) : Ct yX0_nearest cX0_nearest 3 (some .int) 1 21 (fun w => [.ref (wA w 45), .int x1]) s (some (.int r)) fin := by
  refine Ct.ofI (by decide +kernel) (fun w => Nat.le_of_ble_eq_true rfl) (fun X C R1 => ?_)
  show V X s 0 [(0, .ref (wA (xw X) 45)), (1, .int x1)] []
  have C : Cx X "LitWindows$Crew" cX0_nearest 3 1 21 := C
  refine v_iconst C dX0_nearest_0 ic_0 ?_
  refine v_istore_n (L1 := [(0, _), (1, _), (2, _)]) [1, 2, 0] C dX0_nearest_1 (by decide) rfl ?_
  exact tl_X0_nearest_2 C R1  FU _ _ _ h
set_option maxRecDepth 4000 in
theorem tl_X0_countMayBe_4  {X : CX} {r : Int32} {fin : St} (C : Cx X "LitWindows$Crew" cX0_countMayBe 4 0 0) (R1 : RtI X cX0_countMayBe .int r fin)  : ∀ (n : Nat) (x1 : Int32) (x2 : Int32) (x3 : Int32) (s : St), l_X0_countMayBe_4  n x1 x2 x3 s = some (r, fin) → V X s 4 [(0, .ref (wA (xw X) 45)), (1, .int x1), (2, .int x2), (3, .int x3)] [] := by
  intro n
  induction n with
  | zero => intro x1 x2 x3 s h; exact none_no h
  | succ n hr4 =>
    intro x1 x2 x3 s h
    have h : b_X0_countMayBe_4  (l_X0_countMayBe_4  n) x1 x2 x3 s = some (r, fin) := h
    refine v_iload_n 3 C dX0_countMayBe_4 rfl ?_
    refine v_aload_n 0 C dX0_countMayBe_5 rfl ?_
    refine g_45_0 C wf_RX0_26 dX0_countMayBe_6 ?_
    refine g_8_0 C wf_RX0_57 dX0_countMayBe_9 ?_
    refine v_icmp_ge 40 C dX0_countMayBe_12 (by decide) (fun c => ?_) (fun c => ?_)
    · have h := if_t h c
      refine v_iload_n 2 C dX0_countMayBe_40 rfl ?_
      exact v_ireth h R1 rfl dX0_countMayBe_41
    · have h := if_f h c
      refine v_iload_n 1 C dX0_countMayBe_15 rfl ?_
      refine v_aload_n 0 C dX0_countMayBe_16 rfl ?_
      refine g_45_2 C wf_RX0_34 dX0_countMayBe_17 ?_
      refine g_42_2 C wf_RX0_99 dX0_countMayBe_20 ?_
      refine v_iload_n 3 C dX0_countMayBe_23 rfl ?_
      obtain ⟨hi, h⟩ := gi_some h
      refine ald_43 C hi dX0_countMayBe_24 ?_
      refine v_iconst C dX0_countMayBe_25 ic_m1 ?_
      refine v_ixor C dX0_countMayBe_26 ?_
      refine v_iand C dX0_countMayBe_27 ?_
      refine v_if_ne 34 C dX0_countMayBe_28 (by decide) (fun c => ?_) (fun c => ?_)
      · have h := if_f h c
        refine v_iinc (L1 := [(0, _), (1, _), (2, _), (3, _)]) 3 [1, 2, 3, 0] C dX0_countMayBe_34 rfl ic_1 (by decide) rfl ?_
        refine v_goto 4 C dX0_countMayBe_37 (by decide) ?_
        exact hr4 _ _ _ _ h
      · have h := if_t h c
        refine v_iinc (L1 := [(0, _), (1, _), (2, _), (3, _)]) 2 [1, 2, 0, 3] C dX0_countMayBe_31 rfl ic_1 (by decide) rfl ?_
        refine v_iinc (L1 := [(0, _), (1, _), (2, _), (3, _)]) 3 [1, 2, 3, 0] C dX0_countMayBe_34 rfl ic_1 (by decide) rfl ?_
        refine v_goto 4 C dX0_countMayBe_37 (by decide) ?_
        exact hr4 _ _ _ _ h
set_option maxRecDepth 4000 in
theorem t_X0_countMayBe {x1 s fin : _} {r : Int32} (h : f_X0_countMayBe x1 s = some (r, fin)) : Ct yX0_countMayBe cX0_countMayBe 4 (some .int) 0 0 (fun w => [.ref (wA w 45), .int x1]) s (some (.int r)) fin := by
  refine Ct.ofI (by decide +kernel) (fun w => Nat.le_of_ble_eq_true rfl) (fun X C R1 => ?_)
  show V X s 0 [(0, .ref (wA (xw X) 45)), (1, .int x1)] []
  have C : Cx X "LitWindows$Crew" cX0_countMayBe 4 0 0 := C
  refine v_iconst C dX0_countMayBe_0 ic_0 ?_
  refine v_istore_n (L1 := [(0, _), (1, _), (2, _)]) [1, 2, 0] C dX0_countMayBe_1 (by decide) rfl ?_
  refine v_iconst C dX0_countMayBe_2 ic_0 ?_
  refine v_istore_n (L1 := [(0, _), (1, _), (2, _), (3, _)]) [1, 2, 3, 0] C dX0_countMayBe_3 (by decide) rfl ?_
  exact tl_X0_countMayBe_4 C R1  FU _ _ _ _ h
set_option maxRecDepth 4000 in
theorem tl_X0_tell_11  {X : CX} {r : Int32} {fin : St} (C : Cx X "LitWindows$Crew" cX0_tell 8 2 43) (R1 : RtI X cX0_tell .int r fin)  : ∀ (n : Nat) (x1 : Int32) (x2 : Int32) (x3 : Int32) (x4 : Int32) (x5 : Int32) (x6 : Int32) (s : St), l_X0_tell_11  n x1 x2 x3 x4 x5 x6 s = some (r, fin) → V X s 11 [(0, .ref (wA (xw X) 45)), (1, .int x1), (2, .int x2), (3, .int x3), (4, .int x4), (5, .int x5), (6, .int x6)] [] := by
  intro n
  induction n with
  | zero => intro x1 x2 x3 x4 x5 x6 s h; exact none_no h
  | succ n hr11 =>
    intro x1 x2 x3 x4 x5 x6 s h
    have h : b_X0_tell_11  (l_X0_tell_11  n) x1 x2 x3 x4 x5 x6 s = some (r, fin) := h
    refine v_iload 6 C dX0_tell_11 rfl ?_
    refine v_bipush C dX0_tell_13 bp_25 ?_
    refine v_icmp_ge 134 C dX0_tell_15 (by decide) (fun c => ?_) (fun c => ?_)
    · have h := if_t h c
      refine v_iconst C dX0_tell_134 ic_m1 ?_
      exact v_ireth h R1 rfl dX0_tell_135
    · have h := if_f h c
      refine v_aload_n 0 C dX0_tell_18 rfl ?_
      refine v_iload_n 1 C dX0_tell_19 rfl ?_
      refine v_iload 4 C dX0_tell_20 rfl ?_
      refine v_iload_n 3 C dX0_tell_22 rfl ?_
      obtain ⟨r_23, s_23, e_23, h⟩ := bd_some h
      refine v_callVi [] C (t_X0_stageBy e_23) mw_X0_stageBy (at_45 _ _) rfl wm_RX0_82 ⟨by decide, by decide⟩ rfl (Nat.le_of_ble_eq_true rfl) rfl dX0_tell_23 ?_
      refine v_istore (L1 := [(0, _), (1, _), (2, _), (3, _), (4, _), (5, _), (6, _)]) [1, 2, 3, 4, 0, 5, 6] C dX0_tell_26 (by decide) rfl ?_
      refine v_aload_n 0 C dX0_tell_28 rfl ?_
      refine g_45_5 C wf_RX0_20 dX0_tell_29 ?_
      refine v_iload_n 1 C dX0_tell_32 rfl ?_
      obtain ⟨hj_33, h⟩ := gi_some h
      refine aald_48 C hj_33 dX0_tell_33 ?_
      refine v_iload 4 C dX0_tell_34 rfl ?_
      obtain ⟨hi, h⟩ := gi_some h
      refine aldg_62 C hj_33 hi dX0_tell_36 ?_
      refine v_iload 5 C dX0_tell_37 rfl ?_
      refine v_iconst C dX0_tell_39 ic_m1 ?_
      refine v_ixor C dX0_tell_40 ?_
      refine v_iand C dX0_tell_41 ?_
      refine v_istore (L1 := [(0, _), (1, _), (2, _), (3, _), (4, _), (5, _), (6, _), (7, _)]) [1, 2, 3, 4, 5, 6, 7, 0] C dX0_tell_42 (by decide) rfl ?_
      refine v_iload 7 C dX0_tell_44 rfl ?_
      refine v_if_eq 98 C dX0_tell_46 (by decide) (fun c => ?_) (fun c => ?_)
      · have h := if_t h c
        refine v_iload 4 C dX0_tell_98 rfl ?_
        refine v_iconst C dX0_tell_100 ic_1 ?_
        refine v_iadd C dX0_tell_101 ?_
        refine v_aload_n 0 C dX0_tell_102 rfl ?_
        refine g_45_6 C wf_RX0_23 dX0_tell_103 ?_
        refine v_iload_n 1 C dX0_tell_106 rfl ?_
        obtain ⟨hi, h⟩ := gi_some h
        refine ald_49 C hi dX0_tell_107 ?_
        refine v_icmp_ge 126 C dX0_tell_108 (by decide) (fun c => ?_) (fun c => ?_)
        · have h := if_t h c
          refine v_iconst C dX0_tell_126 ic_m1 ?_
          exact v_ireth h R1 rfl dX0_tell_127
        · have h := if_f h c
          refine v_aload_n 0 C dX0_tell_111 rfl ?_
          refine g_45_4 C wf_RX0_17 dX0_tell_112 ?_
          refine v_iload_n 1 C dX0_tell_115 rfl ?_
          obtain ⟨hj_116, h⟩ := gi_some h
          refine aald_47 C hj_116 dX0_tell_116 ?_
          refine v_iload 4 C dX0_tell_117 rfl ?_
          refine v_iconst C dX0_tell_119 ic_1 ?_
          refine v_iadd C dX0_tell_120 ?_
          obtain ⟨hi, h⟩ := gi_some h
          refine aldg_50 C hj_116 hi dX0_tell_121 ?_
          refine v_istore_n (L1 := [(0, _), (1, _), (2, _), (3, _), (4, _), (5, _), (6, _), (7, _)]) [1, 2, 3, 0, 4, 5, 6, 7] C dX0_tell_122 (by decide) rfl ?_
          refine v_goto 128 C dX0_tell_123 (by decide) ?_
          refine v_iinc (L1 := [(0, _), (1, _), (2, _), (3, _), (4, _), (5, _), (6, _), (7, _)]) 6 [1, 2, 3, 4, 5, 6, 0, 7] C dX0_tell_128 rfl ic_1 (by decide) rfl ?_
          refine v_goto 11 C dX0_tell_131 (by decide) ?_
          refine v_sub [0, 1, 2, 3, 4, 5, 6] (L1 := [(0, _), (1, _), (2, _), (3, _), (4, _), (5, _), (6, _)]) rfl ?_
          exact hr11 _ _ _ _ _ _ _ h
      · have h := if_f h c
        refine v_iload_n 3 C dX0_tell_49 rfl ?_
        refine v_iload_n 2 C dX0_tell_50 rfl ?_
        refine v_iadd C dX0_tell_51 ?_
        refine v_istore_n (L1 := [(0, _), (1, _), (2, _), (3, _), (4, _), (5, _), (6, _), (7, _)]) [1, 2, 3, 0, 4, 5, 6, 7] C dX0_tell_52 (by decide) rfl ?_
        refine v_iload 5 C dX0_tell_53 rfl ?_
        refine v_iconst C dX0_tell_55 ic_1 ?_
        refine v_aload_n 0 C dX0_tell_56 rfl ?_
        refine v_iload 7 C dX0_tell_57 rfl ?_
        obtain ⟨r_59, s_59, e_59, h⟩ := bd_some h
        refine v_callVi [_, _] C (t_X0_nearest e_59) mw_X0_nearest (at_45 _ _) rfl wm_RX0_86 ⟨by decide, by decide⟩ rfl (Nat.le_of_ble_eq_true rfl) rfl dX0_tell_59 ?_
        refine v_ishl C dX0_tell_62 ?_
        refine v_ior C dX0_tell_63 ?_
        refine v_istore (L1 := [(0, _), (1, _), (2, _), (3, _), (4, _), (5, _), (6, _), (7, _)]) [1, 2, 3, 4, 5, 0, 6, 7] C dX0_tell_64 (by decide) rfl ?_
        refine v_iload_n 3 C dX0_tell_66 rfl ?_
        refine v_aload_n 0 C dX0_tell_67 rfl ?_
        refine g_45_2 C wf_RX0_34 dX0_tell_68 ?_
        refine g_42_4 C wf_RX0_89 dX0_tell_71 ?_
        refine v_icmp_le 79 C dX0_tell_74 (by decide) (fun c => ?_) (fun c => ?_)
        · have h := if_t h c
          refine v_aload_n 0 C dX0_tell_79 rfl ?_
          refine v_iload 5 C dX0_tell_80 rfl ?_
          refine v_aload_n 0 C dX0_tell_82 rfl ?_
          refine g_45_7 C wf_RX0_55 dX0_tell_83 ?_
          refine v_iconst C dX0_tell_86 ic_m1 ?_
          refine v_ixor C dX0_tell_87 ?_
          refine v_iand C dX0_tell_88 ?_
          obtain ⟨r_89, s_89, e_89, h⟩ := bd_some h
          refine v_callVi [] C (t_X0_countMayBe e_89) mw_X0_countMayBe (at_45 _ _) rfl wm_RX0_92 ⟨by decide, by decide⟩ rfl (Nat.le_of_ble_eq_true rfl) rfl dX0_tell_89 ?_
          refine v_iconst C dX0_tell_92 ic_1 ?_
          refine v_icmp_ne 128 C dX0_tell_93 (by decide) (fun c => ?_) (fun c => ?_)
          · have h := if_f h c
            refine v_iinc (L1 := [(0, _), (1, _), (2, _), (3, _), (4, _), (5, _), (6, _), (7, _)]) 6 [1, 2, 3, 4, 5, 6, 0, 7] C dX0_tell_128 rfl ic_1 (by decide) rfl ?_
            refine v_goto 11 C dX0_tell_131 (by decide) ?_
            refine v_sub [0, 1, 2, 3, 4, 5, 6] (L1 := [(0, _), (1, _), (2, _), (3, _), (4, _), (5, _), (6, _)]) rfl ?_
            exact hr11 _ _ _ _ _ _ _ h
          · have h := if_t h c
            refine v_iload_n 3 C dX0_tell_96 rfl ?_
            exact v_ireth h R1 rfl dX0_tell_97
        · have h := if_f h c
          refine v_iconst C dX0_tell_77 ic_m1 ?_
          exact v_ireth h R1 rfl dX0_tell_78
set_option maxRecDepth 4000 in
theorem t_X0_tell {x1 x2 s fin : _} {r : Int32} (h : f_X0_tell x1 x2 s = some (r, fin)) : Ct yX0_tell cX0_tell 8 (some .int) 2 43 (fun w => [.ref (wA w 45), .int x1, .int x2]) s (some (.int r)) fin := by
  refine Ct.ofI (by decide +kernel) (fun w => Nat.le_of_ble_eq_true rfl) (fun X C R1 => ?_)
  show V X s 0 [(0, .ref (wA (xw X) 45)), (1, .int x1), (2, .int x2)] []
  have C : Cx X "LitWindows$Crew" cX0_tell 8 2 43 := C
  refine v_iconst C dX0_tell_0 ic_0 ?_
  refine v_istore_n (L1 := [(0, _), (1, _), (2, _), (3, _)]) [1, 2, 3, 0] C dX0_tell_1 (by decide) rfl ?_
  refine v_iconst C dX0_tell_2 ic_0 ?_
  refine v_istore (L1 := [(0, _), (1, _), (2, _), (3, _), (4, _)]) [1, 2, 3, 4, 0] C dX0_tell_3 (by decide) rfl ?_
  refine v_iconst C dX0_tell_5 ic_0 ?_
  refine v_istore (L1 := [(0, _), (1, _), (2, _), (3, _), (4, _), (5, _)]) [1, 2, 3, 4, 5, 0] C dX0_tell_6 (by decide) rfl ?_
  refine v_iconst C dX0_tell_8 ic_0 ?_
  refine v_istore (L1 := [(0, _), (1, _), (2, _), (3, _), (4, _), (5, _), (6, _)]) [1, 2, 3, 4, 5, 6, 0] C dX0_tell_9 (by decide) rfl ?_
  exact tl_X0_tell_11 C R1  FU _ _ _ _ _ _ _ h
set_option maxRecDepth 4000 in
theorem t_X10_told {x1 x2 s fin : _} {r : Int32} (h : f_X10_told x1 x2 s = some (r, fin)) : Ct yX10_told cX10_told 3 (some .int) 6 142 (fun w => [.ref (wA w 0), .int x1, .int x2]) s (some (.int r)) fin := by
  refine Ct.ofI (by decide +kernel) (fun w => Nat.le_of_ble_eq_true rfl) (fun X C R1 => ?_)
  show V X s 0 [(0, .ref (wA (xw X) 0)), (1, .int x1), (2, .int x2)] []
  have C : Cx X "LitWindows" cX10_told 3 6 142 := C
  refine v_aload_n 0 C dX10_told_0 rfl ?_
  refine v_iload_n 1 C dX10_told_1 rfl ?_
  obtain ⟨r_2, s_2, e_2, h⟩ := bd_some h
  refine v_callVi [] C (t_X10_isPoint e_2) mw_X10_isPoint (at_0 _ _) rfl wm_RX10_136 ⟨by decide, by decide⟩ rfl (Nat.le_of_ble_eq_true rfl) rfl dX10_told_2 ?_
  refine v_if_eq 15 C dX10_told_5 (by decide) (fun c => ?_) (fun c => ?_)
  · have h := if_t h c
    refine v_iconst C dX10_told_15 ic_m1 ?_
    exact v_ireth h R1 rfl dX10_told_16
  · have h := if_f h c
    refine v_iload_n 2 C dX10_told_8 rfl ?_
    obtain ⟨r_9, s_9, e_9, h⟩ := bd_some h
    refine v_callSi [] C (t_X10_isPace e_9) mw_X10_isPace wm_RX10_246 ⟨by decide, by decide⟩ rfl (Nat.le_of_ble_eq_true rfl) rfl dX10_told_9 ?_
    refine v_if_ne 17 C dX10_told_12 (by decide) (fun c => ?_) (fun c => ?_)
    · have h := if_f h c
      refine v_aload_n 0 C dX10_told_17 rfl ?_
      refine g_0_9 C wf_RX10_83 dX10_told_18 ?_
      obtain ⟨r_21, s_21, e_21, h⟩ := bd_some h
      refine v_callVv [] C (t_X0_prepare e_21) mw_X0_prepare (at_45 _ _) rfl wm_RX10_249 ⟨by decide, by decide⟩ rfl (Nat.le_of_ble_eq_true rfl) rfl dX10_told_21 ?_
      refine v_aload_n 0 C dX10_told_24 rfl ?_
      refine g_0_9 C wf_RX10_83 dX10_told_25 ?_
      refine v_iload_n 1 C dX10_told_28 rfl ?_
      refine v_iload_n 2 C dX10_told_29 rfl ?_
      obtain ⟨r_30, s_30, e_30, h⟩ := bd_some h
      refine v_callVi [] C (t_X0_tell e_30) mw_X0_tell (at_45 _ _) rfl wm_RX10_252 ⟨by decide, by decide⟩ rfl (Nat.le_of_ble_eq_true rfl) rfl dX10_told_30 ?_
      exact v_ireth h R1 rfl dX10_told_33
    · have h := if_t h c
      refine v_iconst C dX10_told_15 ic_m1 ?_
      exact v_ireth h R1 rfl dX10_told_16
set_option maxRecDepth 4000 in
theorem tl_X11_findShown_23 {rec6 : Int32 → St → Option (Unit × St)} {X : CX} {fin : St} (C : Cx X "LitWindowsModel" cX11_findShown 3 3 71) (R1 : RtV X cX11_findShown fin) (hr6 : ∀ (x1 : Int32) (s : St), rec6 x1 s = some ((), fin) → V X s 6 [(0, .ref (wA (xw X) 74)), (1, .int x1)] []) : ∀ (n : Nat) (x1 : Int32) (x2 : Int32) (s : St), l_X11_findShown_23 rec6 n x1 x2 s = some ((), fin) → V X s 23 [(0, .ref (wA (xw X) 74)), (1, .int x1), (2, .int x2)] [] := by
  intro n
  induction n with
  | zero => intro x1 x2 s h; exact none_no h
  | succ n hr23 =>
    intro x1 x2 s h
    have h : b_X11_findShown_23 rec6 (l_X11_findShown_23 rec6 n) x1 x2 s = some ((), fin) := h
    refine v_iload_n 2 C dX11_findShown_23 rfl ?_
    refine v_aload_n 0 C dX11_findShown_24 rfl ?_
    refine g_74_36 C wf_RX11_76 dX11_findShown_25 ?_
    refine v_icmp_gt 59 C dX11_findShown_28 (by decide) (fun c => ?_) (fun c => ?_)
    · have h := if_t h c
      refine v_iinc (L1 := [(0, _), (1, _), (2, _)]) 1 [1, 0, 2] C dX11_findShown_59 rfl ic_1 (by decide) rfl ?_
      refine v_goto 6 C dX11_findShown_62 (by decide) ?_
      refine v_sub [0, 1] (L1 := [(0, _), (1, _)]) rfl ?_
      exact hr6 _ _ h
    · have h := if_f h c
      refine v_aload_n 0 C dX11_findShown_31 rfl ?_
      refine g_74_49 C wf_RX11_92 dX11_findShown_32 ?_
      refine v_sipush C dX11_findShown_35 sp_601 ?_
      refine v_iload_n 1 C dX11_findShown_38 rfl ?_
      refine v_imul C dX11_findShown_39 ?_
      refine v_iload_n 2 C dX11_findShown_40 rfl ?_
      refine v_iadd C dX11_findShown_41 ?_
      refine v_aload_n 0 C dX11_findShown_42 rfl ?_
      refine v_aload_n 0 C dX11_findShown_43 rfl ?_
      refine v_iload_n 2 C dX11_findShown_44 rfl ?_
      obtain ⟨r_45, s_45, e_45, h⟩ := bd_some h
      refine v_callVi [_, _, _] C (t_X11_litBits e_45) mw_X11_litBits (at_74 _ _) rfl wm_RX11_295 ⟨by decide, by decide⟩ rfl (Nat.le_of_ble_eq_true rfl) rfl dX11_findShown_45 ?_
      refine v_iconst C dX11_findShown_48 ic_0 ?_
      obtain ⟨r_49, s_49, e_49, h⟩ := bd_some h
      refine v_callVi [_, _] C (t_X11_shown e_49) mw_X11_shown (at_74 _ _) rfl wm_RX11_298 ⟨by decide, by decide⟩ rfl (Nat.le_of_ble_eq_true rfl) rfl dX11_findShown_49 ?_
      obtain ⟨hi, h⟩ := gi_some h
      refine ast_100 C hi dX11_findShown_52 ?_
      refine v_iinc (L1 := [(0, _), (1, _), (2, _)]) 2 [1, 2, 0] C dX11_findShown_53 rfl ic_1 (by decide) rfl ?_
      refine v_goto 23 C dX11_findShown_56 (by decide) ?_
      exact hr23 _ _ _ h
set_option maxRecDepth 4000 in
theorem tl_X11_findShown_6  {X : CX} {fin : St} (C : Cx X "LitWindowsModel" cX11_findShown 3 3 71) (R1 : RtV X cX11_findShown fin)  : ∀ (n : Nat) (x1 : Int32) (s : St), l_X11_findShown_6  n x1 s = some ((), fin) → V X s 6 [(0, .ref (wA (xw X) 74)), (1, .int x1)] [] := by
  intro n
  induction n with
  | zero => intro x1 s h; exact none_no h
  | succ n hr6 =>
    intro x1 s h
    have h : b_X11_findShown_6  (l_X11_findShown_6  n) x1 s = some ((), fin) := h
    refine v_iload_n 1 C dX11_findShown_6 rfl ?_
    refine v_aload_n 0 C dX11_findShown_7 rfl ?_
    refine g_74_18 C wf_RX11_215 dX11_findShown_8 ?_
    refine v_icmp_ge 65 C dX11_findShown_11 (by decide) (fun c => ?_) (fun c => ?_)
    · have h := if_t h c
      exact v_vreth h R1 dX11_findShown_65
    · have h := if_f h c
      refine v_aload_n 0 C dX11_findShown_14 rfl ?_
      refine v_iconst C dX11_findShown_15 ic_1 ?_
      refine v_iload_n 1 C dX11_findShown_16 rfl ?_
      refine v_ishl C dX11_findShown_17 ?_
      obtain ⟨r_18, s_18, e_18, h⟩ := bd_some h
      refine v_callVv [] C (t_X11_findFails e_18) mw_X11_findFails (at_74 _ _) rfl wm_RX11_244 ⟨by decide, by decide⟩ rfl (Nat.le_of_ble_eq_true rfl) rfl dX11_findShown_18 ?_
      refine v_iconst C dX11_findShown_21 ic_0 ?_
      refine v_istore_n (L1 := [(0, _), (1, _), (2, _)]) [1, 2, 0] C dX11_findShown_22 (by decide) rfl ?_
      exact tl_X11_findShown_23 C R1 hr6 FU _ _ _ h
set_option maxRecDepth 4000 in
theorem t_X11_findShown { s fin : _} (h : f_X11_findShown  s = some ((), fin)) : Ct yX11_findShown cX11_findShown 3 none 3 71 (fun w => [.ref (wA w 74)]) s none fin := by
  refine Ct.ofV (by decide +kernel) (fun w => Nat.le_of_ble_eq_true rfl) (fun X C R1 => ?_)
  show V X s 0 [(0, .ref (wA (xw X) 74))] []
  have C : Cx X "LitWindowsModel" cX11_findShown 3 3 71 := C
  refine v_aload_n 0 C dX11_findShown_0 rfl ?_
  obtain ⟨r_1, s_1, e_1, h⟩ := bd_some h
  refine v_callVv [] C (t_X11_findSigns e_1) mw_X11_findSigns (at_74 _ _) rfl wm_RX11_301 ⟨by decide, by decide⟩ rfl (Nat.le_of_ble_eq_true rfl) rfl dX11_findShown_1 ?_
  refine v_iconst C dX11_findShown_4 ic_0 ?_
  refine v_istore_n (L1 := [(0, _), (1, _)]) [1, 0] C dX11_findShown_5 (by decide) rfl ?_
  exact tl_X11_findShown_6 C R1  FU _ _ h
set_option maxRecDepth 4000 in
theorem tl_X11_mayBe_41  {X : CX} {r : Int32} {fin : St} (C : Cx X "LitWindowsModel" cX11_mayBe 5 0 0) (R1 : RtI X cX11_mayBe .int r fin)  : ∀ (n : Nat) (x2 : Int32) (x3 : Int32) (x4 : Int32) (s : St), l_X11_mayBe_41  n x2 x3 x4 s = some (r, fin) → V X s 41 [(0, .ref (wA (xw X) 74)), (2, .int x2), (3, .int x3), (4, .int x4)] [] := by
  intro n
  induction n with
  | zero => intro x2 x3 x4 s h; exact none_no h
  | succ n hr41 =>
    intro x2 x3 x4 s h
    have h : b_X11_mayBe_41  (l_X11_mayBe_41  n) x2 x3 x4 s = some (r, fin) := h
    refine v_iload 3 C dX11_mayBe_41 rfl ?_
    refine v_aload_n 0 C dX11_mayBe_43 rfl ?_
    refine g_74_18 C wf_RX11_215 dX11_mayBe_44 ?_
    refine v_icmp_ge 77 C dX11_mayBe_47 (by decide) (fun c => ?_) (fun c => ?_)
    · have h := if_t h c
      refine v_iload_n 2 C dX11_mayBe_77 rfl ?_
      exact v_ireth h R1 rfl dX11_mayBe_78
    · have h := if_f h c
      refine v_iload_n 2 C dX11_mayBe_50 rfl ?_
      refine v_aload_n 0 C dX11_mayBe_51 rfl ?_
      refine g_74_48 C wf_RX11_89 dX11_mayBe_52 ?_
      refine v_iload 3 C dX11_mayBe_55 rfl ?_
      obtain ⟨hi, h⟩ := gi_some h
      refine ald_99 C hi dX11_mayBe_57 ?_
      refine v_iload_n 1 C dX11_mayBe_58 rfl ?_
      refine v_iand C dX11_mayBe_59 ?_
      refine v_iload_n 1 C dX11_mayBe_60 rfl ?_
      refine v_icmp_ne 68 C dX11_mayBe_61 (by decide) (fun c => ?_) (fun c => ?_)
      · have h := if_f h c
        refine v_iconst C dX11_mayBe_68 ic_0 ?_
        refine v_iadd C dX11_mayBe_69 ?_
        refine v_istore_n (L1 := [(0, _), (2, _), (3, _), (4, _)]) [1, 2, 0, 3] C dX11_mayBe_70 (by decide) rfl ?_
        refine v_iinc (L1 := [(0, _), (2, _), (3, _), (4, _)]) 3 [1, 2, 3, 0] C dX11_mayBe_71 rfl ic_1 (by decide) rfl ?_
        refine v_goto 41 C dX11_mayBe_74 (by decide) ?_
        exact hr41 _ _ _ _ h
      · have h := if_t h c
        refine v_iconst C dX11_mayBe_64 ic_1 ?_
        refine v_goto 69 C dX11_mayBe_65 (by decide) ?_
        refine v_iadd C dX11_mayBe_69 ?_
        refine v_istore_n (L1 := [(0, _), (2, _), (3, _), (4, _)]) [1, 2, 0, 3] C dX11_mayBe_70 (by decide) rfl ?_
        refine v_iinc (L1 := [(0, _), (2, _), (3, _), (4, _)]) 3 [1, 2, 3, 0] C dX11_mayBe_71 rfl ic_1 (by decide) rfl ?_
        refine v_goto 41 C dX11_mayBe_74 (by decide) ?_
        exact hr41 _ _ _ _ h
set_option maxRecDepth 4000 in
theorem tl_X11_mayBe_4  {X : CX} {r : Int32} {fin : St} (C : Cx X "LitWindowsModel" cX11_mayBe 5 0 0) (R1 : RtI X cX11_mayBe .int r fin)  : ∀ (n : Nat) (x2 : Int32) (x3 : Int32) (s : St), l_X11_mayBe_4  n x2 x3 s = some (r, fin) → V X s 4 [(0, .ref (wA (xw X) 74)), (2, .int x2), (3, .int x3)] [] := by
  intro n
  induction n with
  | zero => intro x2 x3 s h; exact none_no h
  | succ n hr4 =>
    intro x2 x3 s h
    have h : b_X11_mayBe_4  (l_X11_mayBe_4  n) x2 x3 s = some (r, fin) := h
    refine v_iload_n 2 C dX11_mayBe_4 rfl ?_
    refine v_aload_n 0 C dX11_mayBe_5 rfl ?_
    refine g_74_24 C wf_RX11_221 dX11_mayBe_6 ?_
    refine v_icmp_ge 36 C dX11_mayBe_9 (by decide) (fun c => ?_) (fun c => ?_)
    · have h := if_t h c
      refine v_iconst C dX11_mayBe_36 ic_0 ?_
      refine v_istore_n (L1 := [(0, _), (2, _), (3, _)]) [1, 2, 0] C dX11_mayBe_37 (by decide) rfl ?_
      refine v_iconst C dX11_mayBe_38 ic_0 ?_
      refine v_istore (L1 := [(0, _), (2, _), (3, _), (4, _)]) [1, 2, 3, 0] C dX11_mayBe_39 (by decide) rfl ?_
      exact tl_X11_mayBe_41 C R1  FU _ _ _ _ h
    · have h := if_f h c
      refine v_aload_n 0 C dX11_mayBe_12 rfl ?_
      refine g_74_27 C wf_RX11_58 dX11_mayBe_13 ?_
      refine v_iload_n 2 C dX11_mayBe_16 rfl ?_
      obtain ⟨hi, h⟩ := gi_some h
      refine ald_90 C hi dX11_mayBe_17 ?_
      refine v_iconst C dX11_mayBe_18 ic_1 ?_
      refine v_icmp_ne 30 C dX11_mayBe_19 (by decide) (fun c => ?_) (fun c => ?_)
      · have h := if_f h c
        refine v_iinc (L1 := [(0, _), (2, _), (3, _)]) 2 [1, 2, 0] C dX11_mayBe_30 rfl ic_1 (by decide) rfl ?_
        refine v_goto 4 C dX11_mayBe_33 (by decide) ?_
        exact hr4 _ _ _ h
      · have h := if_t h c
        refine v_iload_n 1 C dX11_mayBe_22 rfl ?_
        refine v_iconst C dX11_mayBe_23 ic_1 ?_
        refine v_iload_n 2 C dX11_mayBe_24 rfl ?_
        refine v_ishl C dX11_mayBe_25 ?_
        refine v_iconst C dX11_mayBe_26 ic_m1 ?_
        refine v_ixor C dX11_mayBe_27 ?_
        refine v_iand C dX11_mayBe_28 ?_
        refine v_istore_n (L1 := [(0, _), (2, _), (3, _)]) [1, 0, 2] C dX11_mayBe_29 (by decide) rfl ?_
        refine v_iinc (L1 := [(0, _), (2, _), (3, _)]) 2 [1, 2, 0] C dX11_mayBe_30 rfl ic_1 (by decide) rfl ?_
        refine v_goto 4 C dX11_mayBe_33 (by decide) ?_
        exact hr4 _ _ _ h
set_option maxRecDepth 4000 in
theorem t_X11_mayBe {x1 s fin : _} {r : Int32} (h : f_X11_mayBe x1 s = some (r, fin)) : Ct yX11_mayBe cX11_mayBe 5 (some .int) 0 0 (fun w => [.ref (wA w 74), .int x1]) s (some (.int r)) fin := by
  refine Ct.ofI (by decide +kernel) (fun w => Nat.le_of_ble_eq_true rfl) (fun X C R1 => ?_)
  show V X s 0 [(0, .ref (wA (xw X) 74)), (1, .int x1)] []
  have C : Cx X "LitWindowsModel" cX11_mayBe 5 0 0 := C
  refine v_iload_n 1 C dX11_mayBe_0 rfl ?_
  refine v_istore_n (L1 := [(0, _), (1, _), (2, _)]) [1, 2, 0] C dX11_mayBe_1 (by decide) rfl ?_
  refine v_iconst C dX11_mayBe_2 ic_0 ?_
  refine v_istore_n (L1 := [(0, _), (1, _), (2, _), (3, _)]) [1, 2, 3, 0] C dX11_mayBe_3 (by decide) rfl ?_
  refine v_sub [0, 2, 3] (L1 := [(0, _), (2, _), (3, _)]) rfl ?_
  exact tl_X11_mayBe_4 C R1  FU _ _ _ h
set_option maxRecDepth 4000 in
theorem tl_X11_toldAt_50 {rec5 : Int32 → Int32 → Int32 → Int32 → St → Option (Int32 × St)} {X : CX} {r : Int32} {fin : St} (C : Cx X "LitWindowsModel" cX11_toldAt 8 1 24) (R1 : RtI X cX11_toldAt .int r fin) (hr5 : ∀ (x1 : Int32) (x2 : Int32) (x3 : Int32) (x4 : Int32) (s : St), rec5 x1 x2 x3 x4 s = some (r, fin) → V X s 5 [(0, .ref (wA (xw X) 74)), (1, .int x1), (2, .int x2), (3, .int x3), (4, .int x4)] []) : ∀ (n : Nat) (x1 : Int32) (x2 : Int32) (x3 : Int32) (x4 : Int32) (x5 : Int32) (x6 : Int32) (x7 : Int32) (s : St), l_X11_toldAt_50 rec5 n x1 x2 x3 x4 x5 x6 x7 s = some (r, fin) → V X s 50 [(0, .ref (wA (xw X) 74)), (1, .int x1), (2, .int x2), (3, .int x3), (4, .int x4), (5, .int x5), (6, .int x6), (7, .int x7)] [] := by
  intro n
  induction n with
  | zero => intro x1 x2 x3 x4 x5 x6 x7 s h; exact none_no h
  | succ n hr50 =>
    intro x1 x2 x3 x4 x5 x6 x7 s h
    have h : b_X11_toldAt_50 rec5 (l_X11_toldAt_50 rec5 n) x1 x2 x3 x4 x5 x6 x7 s = some (r, fin) := h
    refine v_iload 7 C dX11_toldAt_50 rfl ?_
    refine v_aload_n 0 C dX11_toldAt_52 rfl ?_
    refine g_74_24 C wf_RX11_221 dX11_toldAt_53 ?_
    refine v_icmp_ge 103 C dX11_toldAt_56 (by decide) (fun c => ?_) (fun c => ?_)
    · have h := if_t h c
      refine v_iload_n 3 C dX11_toldAt_103 rfl ?_
      refine v_iconst C dX11_toldAt_104 ic_1 ?_
      refine v_iload 6 C dX11_toldAt_105 rfl ?_
      refine v_ishl C dX11_toldAt_107 ?_
      refine v_ior C dX11_toldAt_108 ?_
      refine v_istore_n (L1 := [(0, _), (1, _), (2, _), (3, _), (4, _), (5, _), (6, _), (7, _)]) [1, 2, 3, 0, 4, 5, 6, 7] C dX11_toldAt_109 (by decide) rfl ?_
      refine v_iload 4 C dX11_toldAt_110 rfl ?_
      refine v_iload_n 2 C dX11_toldAt_112 rfl ?_
      refine v_iadd C dX11_toldAt_113 ?_
      refine v_istore (L1 := [(0, _), (1, _), (2, _), (3, _), (4, _), (5, _), (6, _), (7, _)]) [1, 2, 3, 4, 0, 5, 6, 7] C dX11_toldAt_114 (by decide) rfl ?_
      refine v_iload 4 C dX11_toldAt_116 rfl ?_
      refine v_aload_n 0 C dX11_toldAt_118 rfl ?_
      refine g_74_36 C wf_RX11_76 dX11_toldAt_119 ?_
      refine v_icmp_gt 137 C dX11_toldAt_122 (by decide) (fun c => ?_) (fun c => ?_)
      · have h := if_t h c
        refine v_goto 5 C dX11_toldAt_137 (by decide) ?_
        refine v_sub [0, 1, 2, 3, 4] (L1 := [(0, _), (1, _), (2, _), (3, _), (4, _)]) rfl ?_
        exact hr5 _ _ _ _ _ h
      · have h := if_f h c
        refine v_aload_n 0 C dX11_toldAt_125 rfl ?_
        refine v_iload_n 3 C dX11_toldAt_126 rfl ?_
        obtain ⟨r_127, s_127, e_127, h⟩ := bd_some h
        refine v_callVi [] C (t_X11_mayBe e_127) mw_X11_mayBe (at_74 _ _) rfl wm_RX11_317 ⟨by decide, by decide⟩ rfl (Nat.le_of_ble_eq_true rfl) rfl dX11_toldAt_127 ?_
        refine v_iconst C dX11_toldAt_130 ic_1 ?_
        refine v_icmp_ne 137 C dX11_toldAt_131 (by decide) (fun c => ?_) (fun c => ?_)
        · have h := if_f h c
          refine v_goto 5 C dX11_toldAt_137 (by decide) ?_
          refine v_sub [0, 1, 2, 3, 4] (L1 := [(0, _), (1, _), (2, _), (3, _), (4, _)]) rfl ?_
          exact hr5 _ _ _ _ _ h
        · have h := if_t h c
          refine v_iload 4 C dX11_toldAt_134 rfl ?_
          exact v_ireth h R1 rfl dX11_toldAt_136
    · have h := if_f h c
      refine v_iload 5 C dX11_toldAt_59 rfl ?_
      refine v_iload 7 C dX11_toldAt_61 rfl ?_
      refine v_ishr C dX11_toldAt_63 ?_
      refine v_iconst C dX11_toldAt_64 ic_1 ?_
      refine v_iand C dX11_toldAt_65 ?_
      refine v_iconst C dX11_toldAt_66 ic_1 ?_
      refine v_icmp_ne 97 C dX11_toldAt_67 (by decide) (fun c => ?_) (fun c => ?_)
      · have h := if_f h c
        refine v_iinc (L1 := [(0, _), (1, _), (2, _), (3, _), (4, _), (5, _), (6, _), (7, _)]) 7 [1, 2, 3, 4, 5, 6, 7, 0] C dX11_toldAt_97 rfl ic_1 (by decide) rfl ?_
        refine v_goto 50 C dX11_toldAt_100 (by decide) ?_
        exact hr50 _ _ _ _ _ _ _ _ h
      · have h := if_t h c
        refine v_iload 6 C dX11_toldAt_70 rfl ?_
        refine v_iconst C dX11_toldAt_72 ic_m1 ?_
        refine v_icmp_eq 93 C dX11_toldAt_73 (by decide) (fun c => ?_) (fun c => ?_)
        · have h := if_t h c
          refine v_iload 7 C dX11_toldAt_93 rfl ?_
          refine v_istore (L1 := [(0, _), (1, _), (2, _), (3, _), (4, _), (5, _), (6, _), (7, _)]) [1, 2, 3, 4, 5, 6, 0, 7] C dX11_toldAt_95 (by decide) rfl ?_
          refine v_iinc (L1 := [(0, _), (1, _), (2, _), (3, _), (4, _), (5, _), (6, _), (7, _)]) 7 [1, 2, 3, 4, 5, 6, 7, 0] C dX11_toldAt_97 rfl ic_1 (by decide) rfl ?_
          refine v_goto 50 C dX11_toldAt_100 (by decide) ?_
          exact hr50 _ _ _ _ _ _ _ _ h
        · have h := if_f h c
          refine v_aload_n 0 C dX11_toldAt_76 rfl ?_
          refine g_74_28 C wf_RX11_61 dX11_toldAt_77 ?_
          refine v_iload 7 C dX11_toldAt_80 rfl ?_
          obtain ⟨hi, h⟩ := gi_some h
          refine ald_91 C hi dX11_toldAt_82 ?_
          refine v_aload_n 0 C dX11_toldAt_83 rfl ?_
          refine g_74_28 C wf_RX11_61 dX11_toldAt_84 ?_
          refine v_iload 6 C dX11_toldAt_87 rfl ?_
          obtain ⟨hi, h⟩ := gi_some h
          refine ald_91 C hi dX11_toldAt_89 ?_
          refine v_icmp_ge 97 C dX11_toldAt_90 (by decide) (fun c => ?_) (fun c => ?_)
          · have h := if_t h c
            refine v_iinc (L1 := [(0, _), (1, _), (2, _), (3, _), (4, _), (5, _), (6, _), (7, _)]) 7 [1, 2, 3, 4, 5, 6, 7, 0] C dX11_toldAt_97 rfl ic_1 (by decide) rfl ?_
            refine v_goto 50 C dX11_toldAt_100 (by decide) ?_
            exact hr50 _ _ _ _ _ _ _ _ h
          · have h := if_f h c
            refine v_iload 7 C dX11_toldAt_93 rfl ?_
            refine v_istore (L1 := [(0, _), (1, _), (2, _), (3, _), (4, _), (5, _), (6, _), (7, _)]) [1, 2, 3, 4, 5, 6, 0, 7] C dX11_toldAt_95 (by decide) rfl ?_
            refine v_iinc (L1 := [(0, _), (1, _), (2, _), (3, _), (4, _), (5, _), (6, _), (7, _)]) 7 [1, 2, 3, 4, 5, 6, 7, 0] C dX11_toldAt_97 rfl ic_1 (by decide) rfl ?_
            refine v_goto 50 C dX11_toldAt_100 (by decide) ?_
            exact hr50 _ _ _ _ _ _ _ _ h
set_option maxRecDepth 4000 in
theorem tl_X11_toldAt_5  {X : CX} {r : Int32} {fin : St} (C : Cx X "LitWindowsModel" cX11_toldAt 8 1 24) (R1 : RtI X cX11_toldAt .int r fin)  : ∀ (n : Nat) (x1 : Int32) (x2 : Int32) (x3 : Int32) (x4 : Int32) (s : St), l_X11_toldAt_5  n x1 x2 x3 x4 s = some (r, fin) → V X s 5 [(0, .ref (wA (xw X) 74)), (1, .int x1), (2, .int x2), (3, .int x3), (4, .int x4)] [] := by
  intro n
  induction n with
  | zero => intro x1 x2 x3 x4 s h; exact none_no h
  | succ n hr5 =>
    intro x1 x2 x3 x4 s h
    have h : b_X11_toldAt_5  (l_X11_toldAt_5  n) x1 x2 x3 x4 s = some (r, fin) := h
    refine v_iload 4 C dX11_toldAt_5 rfl ?_
    refine v_aload_n 0 C dX11_toldAt_7 rfl ?_
    refine g_74_36 C wf_RX11_76 dX11_toldAt_8 ?_
    refine v_icmp_gt 140 C dX11_toldAt_11 (by decide) (fun c => ?_) (fun c => ?_)
    · have h := if_t h c
      refine v_iconst C dX11_toldAt_140 ic_m1 ?_
      exact v_ireth h R1 rfl dX11_toldAt_141
    · have h := if_f h c
      refine v_aload_n 0 C dX11_toldAt_14 rfl ?_
      refine g_74_49 C wf_RX11_92 dX11_toldAt_15 ?_
      refine v_sipush C dX11_toldAt_18 sp_601 ?_
      refine v_iload_n 1 C dX11_toldAt_21 rfl ?_
      refine v_imul C dX11_toldAt_22 ?_
      refine v_iload 4 C dX11_toldAt_23 rfl ?_
      refine v_iadd C dX11_toldAt_25 ?_
      obtain ⟨hi, h⟩ := gi_some h
      refine ald_100 C hi dX11_toldAt_26 ?_
      refine v_iload_n 3 C dX11_toldAt_27 rfl ?_
      refine v_iconst C dX11_toldAt_28 ic_m1 ?_
      refine v_ixor C dX11_toldAt_29 ?_
      refine v_iand C dX11_toldAt_30 ?_
      refine v_istore (L1 := [(0, _), (1, _), (2, _), (3, _), (4, _), (5, _)]) [1, 2, 3, 4, 5, 0] C dX11_toldAt_31 (by decide) rfl ?_
      refine v_iload 5 C dX11_toldAt_33 rfl ?_
      refine v_if_ne 44 C dX11_toldAt_35 (by decide) (fun c => ?_) (fun c => ?_)
      · have h := if_f h c
        refine v_iconst C dX11_toldAt_44 ic_m1 ?_
        refine v_istore (L1 := [(0, _), (1, _), (2, _), (3, _), (4, _), (5, _), (6, _)]) [1, 2, 3, 4, 5, 6, 0] C dX11_toldAt_45 (by decide) rfl ?_
        refine v_iconst C dX11_toldAt_47 ic_0 ?_
        refine v_istore (L1 := [(0, _), (1, _), (2, _), (3, _), (4, _), (5, _), (6, _), (7, _)]) [1, 2, 3, 4, 5, 6, 7, 0] C dX11_toldAt_48 (by decide) rfl ?_
        exact tl_X11_toldAt_50 C R1 hr5 FU _ _ _ _ _ _ _ _ h
      · have h := if_t h c
        refine v_iinc (L1 := [(0, _), (1, _), (2, _), (3, _), (4, _), (5, _)]) 4 [1, 2, 3, 4, 0, 5] C dX11_toldAt_38 rfl ic_1 (by decide) rfl ?_
        refine v_goto 5 C dX11_toldAt_41 (by decide) ?_
        refine v_sub [0, 1, 2, 3, 4] (L1 := [(0, _), (1, _), (2, _), (3, _), (4, _)]) rfl ?_
        exact hr5 _ _ _ _ _ h
set_option maxRecDepth 4000 in
theorem t_X11_toldAt {x1 x2 s fin : _} {r : Int32} (h : f_X11_toldAt x1 x2 s = some (r, fin)) : Ct yX11_toldAt cX11_toldAt 8 (some .int) 1 24 (fun w => [.ref (wA w 74), .int x1, .int x2]) s (some (.int r)) fin := by
  refine Ct.ofI (by decide +kernel) (fun w => Nat.le_of_ble_eq_true rfl) (fun X C R1 => ?_)
  show V X s 0 [(0, .ref (wA (xw X) 74)), (1, .int x1), (2, .int x2)] []
  have C : Cx X "LitWindowsModel" cX11_toldAt 8 1 24 := C
  refine v_iconst C dX11_toldAt_0 ic_0 ?_
  refine v_istore_n (L1 := [(0, _), (1, _), (2, _), (3, _)]) [1, 2, 3, 0] C dX11_toldAt_1 (by decide) rfl ?_
  refine v_iconst C dX11_toldAt_2 ic_0 ?_
  refine v_istore (L1 := [(0, _), (1, _), (2, _), (3, _), (4, _)]) [1, 2, 3, 4, 0] C dX11_toldAt_3 (by decide) rfl ?_
  exact tl_X11_toldAt_5 C R1  FU _ _ _ _ _ h
