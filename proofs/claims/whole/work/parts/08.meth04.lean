set_option maxRecDepth 4000 in
theorem t_X10_hasBit {x0 x1 s fin : _} {r : Int32} (h : f_X10_hasBit x0 x1 s = some (r, fin)) : Ct yX10_hasBit cX10_hasBit 2 (some .boolean) 0 0 (fun w => [.int x0, .int x1]) s (some (.int r)) fin := by
  refine Ct.ofI (by decide +kernel) (fun w => Nat.le_of_ble_eq_true rfl) (fun X C R1 => ?_)
  show V X s 0 [(0, .int x0), (1, .int x1)] []
  have C : Cx X "LitWindows" cX10_hasBit 2 0 0 := C
  refine v_iload_n 0 C dX10_hasBit_0 rfl ?_
  refine v_iload_n 1 C dX10_hasBit_1 rfl ?_
  refine v_ishr C dX10_hasBit_2 ?_
  refine v_iconst C dX10_hasBit_3 ic_1 ?_
  refine v_iand C dX10_hasBit_4 ?_
  refine v_if_eq 12 C dX10_hasBit_5 (by decide) (fun c => ?_) (fun c => ?_)
  · have h := if_t h c
    refine v_iconst C dX10_hasBit_12 ic_0 ?_
    exact v_ireth h R1 rfl dX10_hasBit_13
  · have h := if_f h c
    refine v_iconst C dX10_hasBit_8 ic_1 ?_
    refine v_goto 13 C dX10_hasBit_9 (by decide) ?_
    exact v_ireth h R1 rfl dX10_hasBit_13
set_option maxRecDepth 4000 in
theorem tl_X7_run_43  {X : CX} {fin : St} (C : Cx X "LitWindows$Spread" cX7_run 4 2 55) (R1 : RtV X cX7_run fin)  : ∀ (n : Nat) (x2 : Int32) (x3 : Int32) (s : St), l_X7_run_43  n x2 x3 s = some ((), fin) → V X s 43 [(0, .ref (wA (xw X) 28)), (2, .int x2), (3, .int x3)] [] := by
  intro n
  induction n with
  | zero => intro x2 x3 s h; exact none_no h
  | succ n hr43 =>
    intro x2 x3 s h
    have h : b_X7_run_43  (l_X7_run_43  n) x2 x3 s = some ((), fin) := h
    refine v_iload_n 2 C dX7_run_43 rfl ?_
    refine v_aload_n 0 C dX7_run_44 rfl ?_
    refine g_28_0 C wf_RX7_21 dX7_run_45 ?_
    refine g_8_0 C wf_RX7_25 dX7_run_48 ?_
    refine v_icmp_gt 73 C dX7_run_51 (by decide) (fun c => ?_) (fun c => ?_)
    · have h := if_t h c
      exact v_vreth h R1 dX7_run_73
    · have h := if_f h c
      refine v_iload_n 1 C dX7_run_54 rfl ?_
      refine v_if_eq 73 C dX7_run_55 (by decide) (fun c => ?_) (fun c => ?_)
      · have h := if_t h c
        exact v_vreth h R1 dX7_run_73
      · have h := if_f h c
        refine v_aload_n 0 C dX7_run_58 rfl ?_
        obtain ⟨r_59, s_59, e_59, h⟩ := bd_some h
        refine v_callVv [] C (t_X7_gather e_59) mw_X7_gather (at_28 _ _) rfl wm_RX7_36 ⟨by decide, by decide⟩ rfl (Nat.le_of_ble_eq_true rfl) rfl dX7_run_59 ?_
        refine v_aload_n 0 C dX7_run_62 rfl ?_
        obtain ⟨r_63, s_63, e_63, h⟩ := bd_some h
        refine v_callVi [] C (t_X7_settle e_63) mw_X7_settle (at_28 _ _) rfl wm_RX7_39 ⟨by decide, by decide⟩ rfl (Nat.le_of_ble_eq_true rfl) rfl dX7_run_63 ?_
        refine v_istore_n (L1 := [(0, _), (2, _), (3, _)]) [1, 0, 2] C dX7_run_66 (by decide) rfl ?_
        refine v_iinc (L1 := [(0, _), (2, _), (3, _)]) 2 [1, 2, 0] C dX7_run_67 rfl ic_1 (by decide) rfl ?_
        refine v_goto 43 C dX7_run_70 (by decide) ?_
        exact hr43 _ _ _ h
set_option maxRecDepth 4000 in
theorem tl_X7_run_2  {X : CX} {fin : St} (C : Cx X "LitWindows$Spread" cX7_run 4 2 55) (R1 : RtV X cX7_run fin)  : ∀ (n : Nat) (x1 : Int32) (x2 : Int32) (s : St), l_X7_run_2  n x1 x2 s = some ((), fin) → V X s 2 [(0, .ref (wA (xw X) 28)), (1, .int x1), (2, .int x2)] [] := by
  intro n
  induction n with
  | zero => intro x1 x2 s h; exact none_no h
  | succ n hr2 =>
    intro x1 x2 s h
    have h : b_X7_run_2  (l_X7_run_2  n) x1 x2 s = some ((), fin) := h
    refine v_iload_n 2 C dX7_run_2 rfl ?_
    refine v_aload_n 0 C dX7_run_3 rfl ?_
    refine g_28_0 C wf_RX7_21 dX7_run_4 ?_
    refine g_8_0 C wf_RX7_25 dX7_run_7 ?_
    refine v_icmp_ge 39 C dX7_run_10 (by decide) (fun c => ?_) (fun c => ?_)
    · have h := if_t h c
      refine v_iconst C dX7_run_39 ic_1 ?_
      refine v_istore_n (L1 := [(0, _), (1, _), (2, _)]) [1, 2, 0] C dX7_run_40 (by decide) rfl ?_
      refine v_iconst C dX7_run_41 ic_0 ?_
      refine v_istore_n (L1 := [(0, _), (1, _), (2, _), (3, _)]) [1, 2, 3, 0] C dX7_run_42 (by decide) rfl ?_
      refine v_sub [0, 2, 3] (L1 := [(0, _), (2, _), (3, _)]) rfl ?_
      exact tl_X7_run_43 C R1  FU _ _ _ h
    · have h := if_f h c
      refine v_aload_n 0 C dX7_run_13 rfl ?_
      refine g_28_1 C wf_RX7_9 dX7_run_14 ?_
      refine v_iload_n 2 C dX7_run_17 rfl ?_
      refine v_iload_n 1 C dX7_run_18 rfl ?_
      refine v_iload_n 2 C dX7_run_19 rfl ?_
      obtain ⟨r_20, s_20, e_20, h⟩ := bd_some h
      refine v_callNi [_, _] C (t_X10_hasBit e_20) mw_X10_hasBit (by decide) ⟨by decide, by decide⟩ rfl (Nat.le_of_ble_eq_true rfl) rfl dX7_run_20 ?_
      refine v_if_eq 30 C dX7_run_23 (by decide) (fun c => ?_) (fun c => ?_)
      · have h := if_t h c
        refine v_ldc C wc_RX7_35 dX7_run_30 ?_
        obtain ⟨hi, h⟩ := gi_some h
        refine ast_29 C hi dX7_run_32 ?_
        refine v_iinc (L1 := [(0, _), (1, _), (2, _)]) 2 [1, 2, 0] C dX7_run_33 rfl ic_1 (by decide) rfl ?_
        refine v_goto 2 C dX7_run_36 (by decide) ?_
        exact hr2 _ _ _ h
      · have h := if_f h c
        refine v_iconst C dX7_run_26 ic_0 ?_
        refine v_goto 32 C dX7_run_27 (by decide) ?_
        obtain ⟨hi, h⟩ := gi_some h
        refine ast_29 C hi dX7_run_32 ?_
        refine v_iinc (L1 := [(0, _), (1, _), (2, _)]) 2 [1, 2, 0] C dX7_run_33 rfl ic_1 (by decide) rfl ?_
        refine v_goto 2 C dX7_run_36 (by decide) ?_
        exact hr2 _ _ _ h
set_option maxRecDepth 4000 in
theorem t_X7_run {x1 s fin : _} (h : f_X7_run x1 s = some ((), fin)) : Ct yX7_run cX7_run 4 none 2 55 (fun w => [.ref (wA w 28), .int x1]) s none fin := by
  refine Ct.ofV (by decide +kernel) (fun w => Nat.le_of_ble_eq_true rfl) (fun X C R1 => ?_)
  show V X s 0 [(0, .ref (wA (xw X) 28)), (1, .int x1)] []
  have C : Cx X "LitWindows$Spread" cX7_run 4 2 55 := C
  refine v_iconst C dX7_run_0 ic_0 ?_
  refine v_istore_n (L1 := [(0, _), (1, _), (2, _)]) [1, 2, 0] C dX7_run_1 (by decide) rfl ?_
  exact tl_X7_run_2 C R1  FU _ _ _ h
set_option maxRecDepth 4000 in
theorem t_X10_orNone {x0 s fin : _} {r : Int32} (h : f_X10_orNone x0 s = some (r, fin)) : Ct yX10_orNone cX10_orNone 1 (some .int) 0 0 (fun w => [.int x0]) s (some (.int r)) fin := by
  refine Ct.ofI (by decide +kernel) (fun w => Nat.le_of_ble_eq_true rfl) (fun X C R1 => ?_)
  show V X s 0 [(0, .int x0)] []
  have C : Cx X "LitWindows" cX10_orNone 1 0 0 := C
  refine v_iload_n 0 C dX10_orNone_0 rfl ?_
  refine v_ldcw C wc_RX10_284 dX10_orNone_1 ?_
  refine v_icmp_lt 11 C dX10_orNone_4 (by decide) (fun c => ?_) (fun c => ?_)
  · have h := if_t h c
    refine v_iload_n 0 C dX10_orNone_11 rfl ?_
    exact v_ireth h R1 rfl dX10_orNone_12
  · have h := if_f h c
    refine v_iconst C dX10_orNone_7 ic_m1 ?_
    refine v_goto 12 C dX10_orNone_8 (by decide) ?_
    exact v_ireth h R1 rfl dX10_orNone_12
set_option maxRecDepth 4000 in
theorem t_X10_fails {x1 x2 s fin : _} {r : Int32} (h : f_X10_fails x1 x2 s = some (r, fin)) : Ct yX10_fails cX10_fails 3 (some .int) 3 78 (fun w => [.ref (wA w 0), .int x1, .int x2]) s (some (.int r)) fin := by
  refine Ct.ofI (by decide +kernel) (fun w => Nat.le_of_ble_eq_true rfl) (fun X C R1 => ?_)
  show V X s 0 [(0, .ref (wA (xw X) 0)), (1, .int x1), (2, .int x2)] []
  have C : Cx X "LitWindows" cX10_fails 3 3 78 := C
  refine v_aload_n 0 C dX10_fails_0 rfl ?_
  refine v_iload_n 1 C dX10_fails_1 rfl ?_
  obtain ⟨r_2, s_2, e_2, h⟩ := bd_some h
  refine v_callVi [] C (t_X10_isHeap e_2) mw_X10_isHeap (at_0 _ _) rfl wm_RX10_133 ⟨by decide, by decide⟩ rfl (Nat.le_of_ble_eq_true rfl) rfl dX10_fails_2 ?_
  refine v_if_eq 16 C dX10_fails_5 (by decide) (fun c => ?_) (fun c => ?_)
  · have h := if_t h c
    refine v_iconst C dX10_fails_16 ic_m1 ?_
    exact v_ireth h R1 rfl dX10_fails_17
  · have h := if_f h c
    refine v_aload_n 0 C dX10_fails_8 rfl ?_
    refine v_iload_n 2 C dX10_fails_9 rfl ?_
    obtain ⟨r_10, s_10, e_10, h⟩ := bd_some h
    refine v_callVi [] C (t_X10_isPoint e_10) mw_X10_isPoint (at_0 _ _) rfl wm_RX10_136 ⟨by decide, by decide⟩ rfl (Nat.le_of_ble_eq_true rfl) rfl dX10_fails_10 ?_
    refine v_if_ne 18 C dX10_fails_13 (by decide) (fun c => ?_) (fun c => ?_)
    · have h := if_f h c
      refine v_aload_n 0 C dX10_fails_18 rfl ?_
      refine g_0_4 C wf_RX10_40 dX10_fails_19 ?_
      refine v_iload_n 1 C dX10_fails_22 rfl ?_
      obtain ⟨r_23, s_23, e_23, h⟩ := bd_some h
      refine v_callVv [] C (t_X7_run e_23) mw_X7_run (at_28 _ _) rfl wm_RX10_139 ⟨by decide, by decide⟩ rfl (Nat.le_of_ble_eq_true rfl) rfl dX10_fails_23 ?_
      refine v_aload_n 0 C dX10_fails_26 rfl ?_
      refine g_0_4 C wf_RX10_40 dX10_fails_27 ?_
      refine g_28_1 C wf_RX10_142 dX10_fails_30 ?_
      refine v_iload_n 2 C dX10_fails_33 rfl ?_
      obtain ⟨hi, h⟩ := gi_some h
      refine ald_29 C hi dX10_fails_34 ?_
      obtain ⟨r_35, s_35, e_35, h⟩ := bd_some h
      refine v_callSi [] C (t_X10_orNone e_35) mw_X10_orNone wm_RX10_145 ⟨by decide, by decide⟩ rfl (Nat.le_of_ble_eq_true rfl) rfl dX10_fails_35 ?_
      exact v_ireth h R1 rfl dX10_fails_38
    · have h := if_t h c
      refine v_iconst C dX10_fails_16 ic_m1 ?_
      exact v_ireth h R1 rfl dX10_fails_17
set_option maxRecDepth 4000 in
theorem t_X11_isHeap {x1 s fin : _} {r : Int32} (h : f_X11_isHeap x1 s = some (r, fin)) : Ct yX11_isHeap cX11_isHeap 2 (some .boolean) 1 22 (fun w => [.ref (wA w 74), .int x1]) s (some (.int r)) fin := by
  refine Ct.ofI (by decide +kernel) (fun w => Nat.le_of_ble_eq_true rfl) (fun X C R1 => ?_)
  show V X s 0 [(0, .ref (wA (xw X) 74)), (1, .int x1)] []
  have C : Cx X "LitWindowsModel" cX11_isHeap 2 1 22 := C
  refine v_aload_n 0 C dX11_isHeap_0 rfl ?_
  refine g_74_18 C wf_RX11_215 dX11_isHeap_1 ?_
  refine v_if_le 27 C dX11_isHeap_4 (by decide) (fun c => ?_) (fun c => ?_)
  · have h := if_t h c
    refine v_iconst C dX11_isHeap_27 ic_0 ?_
    exact v_ireth h R1 rfl dX11_isHeap_28
  · have h := if_f h c
    refine v_iload_n 1 C dX11_isHeap_7 rfl ?_
    refine v_iconst C dX11_isHeap_8 ic_0 ?_
    refine v_iconst C dX11_isHeap_9 ic_1 ?_
    refine v_aload_n 0 C dX11_isHeap_10 rfl ?_
    refine g_74_18 C wf_RX11_215 dX11_isHeap_11 ?_
    refine v_ishl C dX11_isHeap_14 ?_
    refine v_iconst C dX11_isHeap_15 ic_1 ?_
    refine v_isub C dX11_isHeap_16 ?_
    obtain ⟨r_17, s_17, e_17, h⟩ := bd_some h
    refine v_callSi [] C (t_X11_in e_17) mw_X11_in wm_RX11_98 ⟨by decide, by decide⟩ rfl (Nat.le_of_ble_eq_true rfl) rfl dX11_isHeap_17 ?_
    refine v_if_eq 27 C dX11_isHeap_20 (by decide) (fun c => ?_) (fun c => ?_)
    · have h := if_t h c
      refine v_iconst C dX11_isHeap_27 ic_0 ?_
      exact v_ireth h R1 rfl dX11_isHeap_28
    · have h := if_f h c
      refine v_iconst C dX11_isHeap_23 ic_1 ?_
      refine v_goto 28 C dX11_isHeap_24 (by decide) ?_
      exact v_ireth h R1 rfl dX11_isHeap_28
set_option maxRecDepth 4000 in
theorem t_X11_isPoint {x1 s fin : _} {r : Int32} (h : f_X11_isPoint x1 s = some (r, fin)) : Ct yX11_isPoint cX11_isPoint 2 (some .boolean) 1 22 (fun w => [.ref (wA w 74), .int x1]) s (some (.int r)) fin := by
  refine Ct.ofI (by decide +kernel) (fun w => Nat.le_of_ble_eq_true rfl) (fun X C R1 => ?_)
  show V X s 0 [(0, .ref (wA (xw X) 74)), (1, .int x1)] []
  have C : Cx X "LitWindowsModel" cX11_isPoint 2 1 22 := C
  refine v_iload_n 1 C dX11_isPoint_0 rfl ?_
  refine v_iconst C dX11_isPoint_1 ic_0 ?_
  refine v_aload_n 0 C dX11_isPoint_2 rfl ?_
  refine g_74_18 C wf_RX11_215 dX11_isPoint_3 ?_
  refine v_iconst C dX11_isPoint_6 ic_1 ?_
  refine v_isub C dX11_isPoint_7 ?_
  obtain ⟨r_8, s_8, e_8, h⟩ := bd_some h
  refine v_callSi [] C (t_X11_in e_8) mw_X11_in wm_RX11_98 ⟨by decide, by decide⟩ rfl (Nat.le_of_ble_eq_true rfl) rfl dX11_isPoint_8 ?_
  obtain ⟨hb, h⟩ := gb_some h
  exact v_ireth h R1 hb dX11_isPoint_11
set_option maxRecDepth 4000 in
theorem tj_X11_wouldFail_93 {rec11 : Int32 → Int32 → Int32 → Int32 → Int32 → St → Option (Int32 × St)} {X : CX} {r : Int32} {fin : St} (C : Cx X "LitWindowsModel" cX11_wouldFail 7 0 0) (R1 : RtI X cX11_wouldFail .int r fin) (hr11 : ∀ (x1 : Int32) (x2 : Int32) (x3 : Int32) (x4 : Int32) (x5 : Int32) (s : St), rec11 x1 x2 x3 x4 x5 s = some (r, fin) → V X s 11 [(0, .ref (wA (xw X) 74)), (1, .int x1), (2, .int x2), (3, .int x3), (4, .int x4), (5, .int x5)] []) {x1 x2 x4 x5 x6 t0 s : _} (h : j_X11_wouldFail_93 rec11 x1 x2 x4 x5 x6 t0 s = some (r, fin)) : V X s 93 [(0, .ref (wA (xw X) 74)), (1, .int x1), (2, .int x2), (4, .int x4), (5, .int x5), (6, .int x6)] [.int t0] := by
  refine v_istore_n (L1 := [(0, _), (1, _), (2, _), (3, _), (4, _), (5, _), (6, _)]) [1, 2, 3, 0, 4, 5, 6] C dX11_wouldFail_93 (by decide) rfl ?_
  refine v_iload 6 C dX11_wouldFail_94 rfl ?_
  refine v_iload 4 C dX11_wouldFail_96 rfl ?_
  refine v_icmp_le 106 C dX11_wouldFail_98 (by decide) (fun c => ?_) (fun c => ?_)
  · have h := if_t h c
    refine v_iload 4 C dX11_wouldFail_106 rfl ?_
    refine v_istore (L1 := [(0, _), (1, _), (2, _), (3, _), (4, _), (5, _), (6, _)]) [1, 2, 3, 4, 0, 5, 6] C dX11_wouldFail_108 (by decide) rfl ?_
    refine v_iinc (L1 := [(0, _), (1, _), (2, _), (3, _), (4, _), (5, _), (6, _)]) 5 [1, 2, 3, 4, 5, 0, 6] C dX11_wouldFail_110 rfl ic_1 (by decide) rfl ?_
    refine v_goto 11 C dX11_wouldFail_113 (by decide) ?_
    refine v_sub [0, 1, 2, 3, 4, 5] (L1 := [(0, _), (1, _), (2, _), (3, _), (4, _), (5, _)]) rfl ?_
    exact hr11 _ _ _ _ _ _ h
  · have h := if_f h c
    refine v_iload 6 C dX11_wouldFail_101 rfl ?_
    refine v_goto 108 C dX11_wouldFail_103 (by decide) ?_
    refine v_istore (L1 := [(0, _), (1, _), (2, _), (3, _), (4, _), (5, _), (6, _)]) [1, 2, 3, 4, 0, 5, 6] C dX11_wouldFail_108 (by decide) rfl ?_
    refine v_iinc (L1 := [(0, _), (1, _), (2, _), (3, _), (4, _), (5, _), (6, _)]) 5 [1, 2, 3, 4, 5, 0, 6] C dX11_wouldFail_110 rfl ic_1 (by decide) rfl ?_
    refine v_goto 11 C dX11_wouldFail_113 (by decide) ?_
    refine v_sub [0, 1, 2, 3, 4, 5] (L1 := [(0, _), (1, _), (2, _), (3, _), (4, _), (5, _)]) rfl ?_
    exact hr11 _ _ _ _ _ _ h
set_option maxRecDepth 4000 in
theorem tl_X11_wouldFail_11  {X : CX} {r : Int32} {fin : St} (C : Cx X "LitWindowsModel" cX11_wouldFail 7 0 0) (R1 : RtI X cX11_wouldFail .int r fin)  : ∀ (n : Nat) (x1 : Int32) (x2 : Int32) (x3 : Int32) (x4 : Int32) (x5 : Int32) (s : St), l_X11_wouldFail_11  n x1 x2 x3 x4 x5 s = some (r, fin) → V X s 11 [(0, .ref (wA (xw X) 74)), (1, .int x1), (2, .int x2), (3, .int x3), (4, .int x4), (5, .int x5)] [] := by
  intro n
  induction n with
  | zero => intro x1 x2 x3 x4 x5 s h; exact none_no h
  | succ n hr11 =>
    intro x1 x2 x3 x4 x5 s h
    have h : b_X11_wouldFail_11  (l_X11_wouldFail_11  n) x1 x2 x3 x4 x5 s = some (r, fin) := h
    refine v_iload 5 C dX11_wouldFail_11 rfl ?_
    refine v_aload_n 0 C dX11_wouldFail_13 rfl ?_
    refine g_74_20 C wf_RX11_218 dX11_wouldFail_14 ?_
    refine v_icmp_ge 116 C dX11_wouldFail_17 (by decide) (fun c => ?_) (fun c => ?_)
    · have h := if_t h c
      refine v_iload_n 2 C dX11_wouldFail_116 rfl ?_
      refine v_if_ne 125 C dX11_wouldFail_117 (by decide) (fun c => ?_) (fun c => ?_)
      · have h := if_f h c
        refine v_aload_n 0 C dX11_wouldFail_125 rfl ?_
        refine g_74_19 C wf_RX11_40 dX11_wouldFail_126 ?_
        refine v_iload_n 1 C dX11_wouldFail_129 rfl ?_
        obtain ⟨hi, h⟩ := gi_some h
        refine ald_84 C hi dX11_wouldFail_130 ?_
        refine v_if_eq 139 C dX11_wouldFail_131 (by decide) (fun c => ?_) (fun c => ?_)
        · have h := if_t h c
          refine v_iload_n 3 C dX11_wouldFail_139 rfl ?_
          exact v_ireth h R1 rfl dX11_wouldFail_140
        · have h := if_f h c
          refine v_iload 4 C dX11_wouldFail_134 rfl ?_
          refine v_goto 140 C dX11_wouldFail_136 (by decide) ?_
          exact v_ireth h R1 rfl dX11_wouldFail_140
      · have h := if_t h c
        refine v_ldc C wc_RX11_233 dX11_wouldFail_120 ?_
        refine v_goto 140 C dX11_wouldFail_122 (by decide) ?_
        exact v_ireth h R1 rfl dX11_wouldFail_140
    · have h := if_f h c
      refine v_aload_n 0 C dX11_wouldFail_20 rfl ?_
      refine g_74_22 C wf_RX11_46 dX11_wouldFail_21 ?_
      refine v_iload 5 C dX11_wouldFail_24 rfl ?_
      obtain ⟨hi, h⟩ := gi_some h
      refine ald_86 C hi dX11_wouldFail_26 ?_
      refine v_iload_n 1 C dX11_wouldFail_27 rfl ?_
      refine v_icmp_eq 34 C dX11_wouldFail_28 (by decide) (fun c => ?_) (fun c => ?_)
      · have h := if_t h c
        refine v_iinc (L1 := [(0, _), (1, _), (2, _), (3, _), (4, _), (5, _)]) 2 [1, 2, 0, 3, 4, 5] C dX11_wouldFail_34 rfl ic_1 (by decide) rfl ?_
        refine v_aload_n 0 C dX11_wouldFail_37 rfl ?_
        refine g_74_38 C wf_RX11_83 dX11_wouldFail_38 ?_
        refine v_aload_n 0 C dX11_wouldFail_41 rfl ?_
        refine g_74_21 C wf_RX11_43 dX11_wouldFail_42 ?_
        refine v_iload 5 C dX11_wouldFail_45 rfl ?_
        obtain ⟨hi, h⟩ := gi_some h
        refine ald_85 C hi dX11_wouldFail_47 ?_
        obtain ⟨hi, h⟩ := gi_some h
        refine ald_97 C hi dX11_wouldFail_48 ?_
        refine v_ldc C wc_RX11_233 dX11_wouldFail_49 ?_
        refine v_icmp_ne 59 C dX11_wouldFail_51 (by decide) (fun c => ?_) (fun c => ?_)
        · have h := if_f h c
          refine v_aload_n 0 C dX11_wouldFail_59 rfl ?_
          refine g_74_38 C wf_RX11_83 dX11_wouldFail_60 ?_
          refine v_aload_n 0 C dX11_wouldFail_63 rfl ?_
          refine g_74_21 C wf_RX11_43 dX11_wouldFail_64 ?_
          refine v_iload 5 C dX11_wouldFail_67 rfl ?_
          obtain ⟨hi, h⟩ := gi_some h
          refine ald_85 C hi dX11_wouldFail_69 ?_
          obtain ⟨hi, h⟩ := gi_some h
          refine ald_97 C hi dX11_wouldFail_70 ?_
          refine v_aload_n 0 C dX11_wouldFail_71 rfl ?_
          refine g_74_23 C wf_RX11_49 dX11_wouldFail_72 ?_
          refine v_iload 5 C dX11_wouldFail_75 rfl ?_
          obtain ⟨hi, h⟩ := gi_some h
          refine ald_87 C hi dX11_wouldFail_77 ?_
          refine v_iadd C dX11_wouldFail_78 ?_
          refine v_istore (L1 := [(0, _), (1, _), (2, _), (3, _), (4, _), (5, _), (6, _)]) [1, 2, 3, 4, 5, 6, 0] C dX11_wouldFail_79 (by decide) rfl ?_
          refine v_iload 6 C dX11_wouldFail_81 rfl ?_
          refine v_iload_n 3 C dX11_wouldFail_83 rfl ?_
          refine v_icmp_ge 92 C dX11_wouldFail_84 (by decide) (fun c => ?_) (fun c => ?_)
          · have h := if_t h c
            refine v_iload_n 3 C dX11_wouldFail_92 rfl ?_
            refine v_sub [0, 1, 2, 4, 5, 6] (L1 := [(0, _), (1, _), (2, _), (4, _), (5, _), (6, _)]) rfl ?_
            exact tj_X11_wouldFail_93 C R1 hr11 h
          · have h := if_f h c
            refine v_iload 6 C dX11_wouldFail_87 rfl ?_
            refine v_goto 93 C dX11_wouldFail_89 (by decide) ?_
            refine v_sub [0, 1, 2, 4, 5, 6] (L1 := [(0, _), (1, _), (2, _), (4, _), (5, _), (6, _)]) rfl ?_
            exact tj_X11_wouldFail_93 C R1 hr11 h
        · have h := if_t h c
          refine v_ldc C wc_RX11_233 dX11_wouldFail_54 ?_
          refine v_goto 79 C dX11_wouldFail_56 (by decide) ?_
          refine v_istore (L1 := [(0, _), (1, _), (2, _), (3, _), (4, _), (5, _), (6, _)]) [1, 2, 3, 4, 5, 6, 0] C dX11_wouldFail_79 (by decide) rfl ?_
          refine v_iload 6 C dX11_wouldFail_81 rfl ?_
          refine v_iload_n 3 C dX11_wouldFail_83 rfl ?_
          refine v_icmp_ge 92 C dX11_wouldFail_84 (by decide) (fun c => ?_) (fun c => ?_)
          · have h := if_t h c
            refine v_iload_n 3 C dX11_wouldFail_92 rfl ?_
            refine v_sub [0, 1, 2, 4, 5, 6] (L1 := [(0, _), (1, _), (2, _), (4, _), (5, _), (6, _)]) rfl ?_
            exact tj_X11_wouldFail_93 C R1 hr11 h
          · have h := if_f h c
            refine v_iload 6 C dX11_wouldFail_87 rfl ?_
            refine v_goto 93 C dX11_wouldFail_89 (by decide) ?_
            refine v_sub [0, 1, 2, 4, 5, 6] (L1 := [(0, _), (1, _), (2, _), (4, _), (5, _), (6, _)]) rfl ?_
            exact tj_X11_wouldFail_93 C R1 hr11 h
      · have h := if_f h c
        refine v_goto 110 C dX11_wouldFail_31 (by decide) ?_
        refine v_iinc (L1 := [(0, _), (1, _), (2, _), (3, _), (4, _), (5, _)]) 5 [1, 2, 3, 4, 5, 0] C dX11_wouldFail_110 rfl ic_1 (by decide) rfl ?_
        refine v_goto 11 C dX11_wouldFail_113 (by decide) ?_
        exact hr11 _ _ _ _ _ _ h
set_option maxRecDepth 4000 in
theorem t_X11_wouldFail {x1 s fin : _} {r : Int32} (h : f_X11_wouldFail x1 s = some (r, fin)) : Ct yX11_wouldFail cX11_wouldFail 7 (some .int) 0 0 (fun w => [.ref (wA w 74), .int x1]) s (some (.int r)) fin := by
  refine Ct.ofI (by decide +kernel) (fun w => Nat.le_of_ble_eq_true rfl) (fun X C R1 => ?_)
  show V X s 0 [(0, .ref (wA (xw X) 74)), (1, .int x1)] []
  have C : Cx X "LitWindowsModel" cX11_wouldFail 7 0 0 := C
  refine v_iconst C dX11_wouldFail_0 ic_0 ?_
  refine v_istore_n (L1 := [(0, _), (1, _), (2, _)]) [1, 2, 0] C dX11_wouldFail_1 (by decide) rfl ?_
  refine v_ldc C wc_RX11_233 dX11_wouldFail_2 ?_
  refine v_istore_n (L1 := [(0, _), (1, _), (2, _), (3, _)]) [1, 2, 3, 0] C dX11_wouldFail_4 (by decide) rfl ?_
  refine v_iconst C dX11_wouldFail_5 ic_0 ?_
  refine v_istore (L1 := [(0, _), (1, _), (2, _), (3, _), (4, _)]) [1, 2, 3, 4, 0] C dX11_wouldFail_6 (by decide) rfl ?_
  refine v_iconst C dX11_wouldFail_8 ic_0 ?_
  refine v_istore (L1 := [(0, _), (1, _), (2, _), (3, _), (4, _), (5, _)]) [1, 2, 3, 4, 5, 0] C dX11_wouldFail_9 (by decide) rfl ?_
  exact tl_X11_wouldFail_11 C R1  FU _ _ _ _ _ _ h
set_option maxRecDepth 4000 in
theorem tl_X11_findFails_52 {rec39 : Int32 → St → Option (Unit × St)} {X : CX} {fin : St} (C : Cx X "LitWindowsModel" cX11_findFails 5 1 26) (R1 : RtV X cX11_findFails fin) (hr39 : ∀ (x2 : Int32) (s : St), rec39 x2 s = some ((), fin) → V X s 39 [(0, .ref (wA (xw X) 74)), (2, .int x2)] []) : ∀ (n : Nat) (x2 : Int32) (x3 : Int32) (x4 : Int32) (s : St), l_X11_findFails_52 rec39 n x2 x3 x4 s = some ((), fin) → V X s 52 [(0, .ref (wA (xw X) 74)), (2, .int x2), (3, .int x3), (4, .int x4)] [] := by
  intro n
  induction n with
  | zero => intro x2 x3 x4 s h; exact none_no h
  | succ n hr52 =>
    intro x2 x3 x4 s h
    have h : b_X11_findFails_52 rec39 (l_X11_findFails_52 rec39 n) x2 x3 x4 s = some ((), fin) := h
    refine v_iload 3 C dX11_findFails_52 rfl ?_
    refine v_aload_n 0 C dX11_findFails_54 rfl ?_
    refine g_74_18 C wf_RX11_215 dX11_findFails_55 ?_
    refine v_icmp_ge 102 C dX11_findFails_58 (by decide) (fun c => ?_) (fun c => ?_)
    · have h := if_t h c
      refine v_iload_n 1 C dX11_findFails_102 rfl ?_
      refine v_iconst C dX11_findFails_103 ic_m1 ?_
      refine v_icmp_eq 114 C dX11_findFails_104 (by decide) (fun c => ?_) (fun c => ?_)
      · have h := if_t h c
        refine v_goto 39 C dX11_findFails_114 (by decide) ?_
        refine v_sub [0, 1] (L1 := [(0, _), (2, _)]) rfl ?_
        exact hr39 _ _ h
      · have h := if_f h c
        refine v_aload_n 0 C dX11_findFails_107 rfl ?_
        refine g_74_38 C wf_RX11_83 dX11_findFails_108 ?_
        refine v_iload_n 1 C dX11_findFails_111 rfl ?_
        refine v_iload_n 2 C dX11_findFails_112 rfl ?_
        obtain ⟨hi, h⟩ := gi_some h
        refine ast_97 C hi dX11_findFails_113 ?_
        refine v_goto 39 C dX11_findFails_114 (by decide) ?_
        refine v_sub [0, 1] (L1 := [(0, _), (2, _)]) rfl ?_
        exact hr39 _ _ h
    · have h := if_f h c
      refine v_aload_n 0 C dX11_findFails_61 rfl ?_
      refine g_74_38 C wf_RX11_83 dX11_findFails_62 ?_
      refine v_iload 3 C dX11_findFails_65 rfl ?_
      obtain ⟨hi, h⟩ := gi_some h
      refine ald_97 C hi dX11_findFails_67 ?_
      refine v_ldc C wc_RX11_233 dX11_findFails_68 ?_
      refine v_icmp_ne 96 C dX11_findFails_70 (by decide) (fun c => ?_) (fun c => ?_)
      · have h := if_f h c
        refine v_iinc (L1 := [(0, _), (2, _), (3, _), (4, _)]) 3 [1, 2, 3, 0] C dX11_findFails_96 rfl ic_1 (by decide) rfl ?_
        refine v_goto 52 C dX11_findFails_99 (by decide) ?_
        exact hr52 _ _ _ _ h
      · have h := if_t h c
        refine v_aload_n 0 C dX11_findFails_73 rfl ?_
        refine v_iload 3 C dX11_findFails_74 rfl ?_
        obtain ⟨r_76, s_76, e_76, h⟩ := bd_some h
        refine v_callVi [] C (t_X11_wouldFail e_76) mw_X11_wouldFail (at_74 _ _) rfl wm_RX11_234 ⟨by decide, by decide⟩ rfl (Nat.le_of_ble_eq_true rfl) rfl dX11_findFails_76 ?_
        refine v_iload_n 2 C dX11_findFails_79 rfl ?_
        refine v_icmp_lt 86 C dX11_findFails_80 (by decide) (fun c => ?_) (fun c => ?_)
        · have h := if_t h c
          refine v_aload_n 0 C dX11_findFails_86 rfl ?_
          refine v_iload 3 C dX11_findFails_87 rfl ?_
          obtain ⟨r_89, s_89, e_89, h⟩ := bd_some h
          refine v_callVi [] C (t_X11_wouldFail e_89) mw_X11_wouldFail (at_74 _ _) rfl wm_RX11_234 ⟨by decide, by decide⟩ rfl (Nat.le_of_ble_eq_true rfl) rfl dX11_findFails_89 ?_
          refine v_istore_n (L1 := [(0, _), (2, _), (3, _), (4, _)]) [1, 2, 0, 3] C dX11_findFails_92 (by decide) rfl ?_
          refine v_iload 3 C dX11_findFails_93 rfl ?_
          refine v_istore_n (L1 := [(0, _), (2, _), (3, _), (4, _)]) [1, 0, 2, 3] C dX11_findFails_95 (by decide) rfl ?_
          refine v_iinc (L1 := [(0, _), (2, _), (3, _), (4, _)]) 3 [1, 2, 3, 0] C dX11_findFails_96 rfl ic_1 (by decide) rfl ?_
          refine v_goto 52 C dX11_findFails_99 (by decide) ?_
          exact hr52 _ _ _ _ h
        · have h := if_f h c
          refine v_goto 96 C dX11_findFails_83 (by decide) ?_
          refine v_iinc (L1 := [(0, _), (2, _), (3, _), (4, _)]) 3 [1, 2, 3, 0] C dX11_findFails_96 rfl ic_1 (by decide) rfl ?_
          refine v_goto 52 C dX11_findFails_99 (by decide) ?_
          exact hr52 _ _ _ _ h
set_option maxRecDepth 4000 in
theorem tl_X11_findFails_39  {X : CX} {fin : St} (C : Cx X "LitWindowsModel" cX11_findFails 5 1 26) (R1 : RtV X cX11_findFails fin)  : ∀ (n : Nat) (x2 : Int32) (s : St), l_X11_findFails_39  n x2 s = some ((), fin) → V X s 39 [(0, .ref (wA (xw X) 74)), (2, .int x2)] [] := by
  intro n
  induction n with
  | zero => intro x2 s h; exact none_no h
  | succ n hr39 =>
    intro x2 s h
    have h : b_X11_findFails_39  (l_X11_findFails_39  n) x2 s = some ((), fin) := h
    refine v_iload_n 1 C dX11_findFails_39 rfl ?_
    refine v_iconst C dX11_findFails_40 ic_m1 ?_
    refine v_icmp_eq 117 C dX11_findFails_41 (by decide) (fun c => ?_) (fun c => ?_)
    · have h := if_t h c
      exact v_vreth h R1 dX11_findFails_117
    · have h := if_f h c
      refine v_iconst C dX11_findFails_44 ic_m1 ?_
      refine v_istore_n (L1 := [(0, _), (2, _)]) [1, 0] C dX11_findFails_45 (by decide) rfl ?_
      refine v_ldc C wc_RX11_233 dX11_findFails_46 ?_
      refine v_istore_n (L1 := [(0, _), (2, _), (3, _)]) [1, 2, 0] C dX11_findFails_48 (by decide) rfl ?_
      refine v_iconst C dX11_findFails_49 ic_0 ?_
      refine v_istore (L1 := [(0, _), (2, _), (3, _), (4, _)]) [1, 2, 3, 0] C dX11_findFails_50 (by decide) rfl ?_
      exact tl_X11_findFails_52 C R1 hr39 FU _ _ _ _ h
set_option maxRecDepth 4000 in
theorem tl_X11_findFails_2  {X : CX} {fin : St} (C : Cx X "LitWindowsModel" cX11_findFails 5 1 26) (R1 : RtV X cX11_findFails fin)  : ∀ (n : Nat) (x1 : Int32) (x2 : Int32) (s : St), l_X11_findFails_2  n x1 x2 s = some ((), fin) → V X s 2 [(0, .ref (wA (xw X) 74)), (1, .int x1), (2, .int x2)] [] := by
  intro n
  induction n with
  | zero => intro x1 x2 s h; exact none_no h
  | succ n hr2 =>
    intro x1 x2 s h
    have h : b_X11_findFails_2  (l_X11_findFails_2  n) x1 x2 s = some ((), fin) := h
    refine v_iload_n 2 C dX11_findFails_2 rfl ?_
    refine v_aload_n 0 C dX11_findFails_3 rfl ?_
    refine g_74_18 C wf_RX11_215 dX11_findFails_4 ?_
    refine v_icmp_ge 37 C dX11_findFails_7 (by decide) (fun c => ?_) (fun c => ?_)
    · have h := if_t h c
      refine v_iconst C dX11_findFails_37 ic_0 ?_
      refine v_istore_n (L1 := [(0, _), (1, _), (2, _)]) [1, 2, 0] C dX11_findFails_38 (by decide) rfl ?_
      refine v_sub [0, 2] (L1 := [(0, _), (2, _)]) rfl ?_
      exact tl_X11_findFails_39 C R1  FU _ _ h
    · have h := if_f h c
      refine v_aload_n 0 C dX11_findFails_10 rfl ?_
      refine g_74_38 C wf_RX11_83 dX11_findFails_11 ?_
      refine v_iload_n 2 C dX11_findFails_14 rfl ?_
      refine v_iload_n 1 C dX11_findFails_15 rfl ?_
      refine v_iload_n 2 C dX11_findFails_16 rfl ?_
      refine v_ishr C dX11_findFails_17 ?_
      refine v_iconst C dX11_findFails_18 ic_1 ?_
      refine v_iand C dX11_findFails_19 ?_
      refine v_iconst C dX11_findFails_20 ic_1 ?_
      refine v_icmp_ne 28 C dX11_findFails_21 (by decide) (fun c => ?_) (fun c => ?_)
      · have h := if_f h c
        refine v_ldc C wc_RX11_233 dX11_findFails_28 ?_
        obtain ⟨hi, h⟩ := gi_some h
        refine ast_97 C hi dX11_findFails_30 ?_
        refine v_iinc (L1 := [(0, _), (1, _), (2, _)]) 2 [1, 2, 0] C dX11_findFails_31 rfl ic_1 (by decide) rfl ?_
        refine v_goto 2 C dX11_findFails_34 (by decide) ?_
        exact hr2 _ _ _ h
      · have h := if_t h c
        refine v_iconst C dX11_findFails_24 ic_0 ?_
        refine v_goto 30 C dX11_findFails_25 (by decide) ?_
        obtain ⟨hi, h⟩ := gi_some h
        refine ast_97 C hi dX11_findFails_30 ?_
        refine v_iinc (L1 := [(0, _), (1, _), (2, _)]) 2 [1, 2, 0] C dX11_findFails_31 rfl ic_1 (by decide) rfl ?_
        refine v_goto 2 C dX11_findFails_34 (by decide) ?_
        exact hr2 _ _ _ h
set_option maxRecDepth 4000 in
theorem t_X11_findFails {x1 s fin : _} (h : f_X11_findFails x1 s = some ((), fin)) : Ct yX11_findFails cX11_findFails 5 none 1 26 (fun w => [.ref (wA w 74), .int x1]) s none fin := by
  refine Ct.ofV (by decide +kernel) (fun w => Nat.le_of_ble_eq_true rfl) (fun X C R1 => ?_)
  show V X s 0 [(0, .ref (wA (xw X) 74)), (1, .int x1)] []
  have C : Cx X "LitWindowsModel" cX11_findFails 5 1 26 := C
  refine v_iconst C dX11_findFails_0 ic_0 ?_
  refine v_istore_n (L1 := [(0, _), (1, _), (2, _)]) [1, 2, 0] C dX11_findFails_1 (by decide) rfl ?_
  exact tl_X11_findFails_2 C R1  FU _ _ _ h
set_option maxRecDepth 4000 in
theorem t_X11_fails {x1 x2 s fin : _} {r : Int32} (h : f_X11_fails x1 x2 s = some (r, fin)) : Ct yX11_fails cX11_fails 3 (some .int) 2 50 (fun w => [.ref (wA w 74), .int x1, .int x2]) s (some (.int r)) fin := by
  refine Ct.ofI (by decide +kernel) (fun w => Nat.le_of_ble_eq_true rfl) (fun X C R1 => ?_)
  show V X s 0 [(0, .ref (wA (xw X) 74)), (1, .int x1), (2, .int x2)] []
  have C : Cx X "LitWindowsModel" cX11_fails 3 2 50 := C
  refine v_aload_n 0 C dX11_fails_0 rfl ?_
  refine v_iload_n 1 C dX11_fails_1 rfl ?_
  obtain ⟨r_2, s_2, e_2, h⟩ := bd_some h
  refine v_callVi [] C (t_X11_isHeap e_2) mw_X11_isHeap (at_74 _ _) rfl wm_RX11_238 ⟨by decide, by decide⟩ rfl (Nat.le_of_ble_eq_true rfl) rfl dX11_fails_2 ?_
  refine v_if_eq 16 C dX11_fails_5 (by decide) (fun c => ?_) (fun c => ?_)
  · have h := if_t h c
    refine v_iconst C dX11_fails_16 ic_m1 ?_
    exact v_ireth h R1 rfl dX11_fails_17
  · have h := if_f h c
    refine v_aload_n 0 C dX11_fails_8 rfl ?_
    refine v_iload_n 2 C dX11_fails_9 rfl ?_
    obtain ⟨r_10, s_10, e_10, h⟩ := bd_some h
    refine v_callVi [] C (t_X11_isPoint e_10) mw_X11_isPoint (at_74 _ _) rfl wm_RX11_241 ⟨by decide, by decide⟩ rfl (Nat.le_of_ble_eq_true rfl) rfl dX11_fails_10 ?_
    refine v_if_ne 18 C dX11_fails_13 (by decide) (fun c => ?_) (fun c => ?_)
    · have h := if_f h c
      refine v_aload_n 0 C dX11_fails_18 rfl ?_
      refine v_iload_n 1 C dX11_fails_19 rfl ?_
      obtain ⟨r_20, s_20, e_20, h⟩ := bd_some h
      refine v_callVv [] C (t_X11_findFails e_20) mw_X11_findFails (at_74 _ _) rfl wm_RX11_244 ⟨by decide, by decide⟩ rfl (Nat.le_of_ble_eq_true rfl) rfl dX11_fails_20 ?_
      refine v_aload_n 0 C dX11_fails_23 rfl ?_
      refine g_74_38 C wf_RX11_83 dX11_fails_24 ?_
      refine v_iload_n 2 C dX11_fails_27 rfl ?_
      obtain ⟨hi, h⟩ := gi_some h
      refine ald_97 C hi dX11_fails_28 ?_
      refine v_ldc C wc_RX11_233 dX11_fails_29 ?_
      refine v_icmp_ne 38 C dX11_fails_31 (by decide) (fun c => ?_) (fun c => ?_)
      · have h := if_f h c
        refine v_aload_n 0 C dX11_fails_38 rfl ?_
        refine g_74_38 C wf_RX11_83 dX11_fails_39 ?_
        refine v_iload_n 2 C dX11_fails_42 rfl ?_
        obtain ⟨hi, h⟩ := gi_some h
        refine ald_97 C hi dX11_fails_43 ?_
        exact v_ireth h R1 rfl dX11_fails_44
      · have h := if_t h c
        refine v_iconst C dX11_fails_34 ic_m1 ?_
        refine v_goto 44 C dX11_fails_35 (by decide) ?_
        exact v_ireth h R1 rfl dX11_fails_44
    · have h := if_t h c
      refine v_iconst C dX11_fails_16 ic_m1 ?_
      exact v_ireth h R1 rfl dX11_fails_17
set_option maxRecDepth 4000 in
theorem t_X7_windowTime {x1 s fin : _} {r : Int32} (h : f_X7_windowTime x1 s = some (r, fin)) : Ct yX7_windowTime cX7_windowTime 2 (some .int) 1 32 (fun w => [.ref (wA w 28), .int x1]) s (some (.int r)) fin := by
  refine Ct.ofI (by decide +kernel) (fun w => Nat.le_of_ble_eq_true rfl) (fun X C R1 => ?_)
  show V X s 0 [(0, .ref (wA (xw X) 28)), (1, .int x1)] []
  have C : Cx X "LitWindows$Spread" cX7_windowTime 2 1 32 := C
  refine v_aload_n 0 C dX7_windowTime_0 rfl ?_
  refine g_28_1 C wf_RX7_9 dX7_windowTime_1 ?_
  refine v_aload_n 0 C dX7_windowTime_4 rfl ?_
  refine g_28_0 C wf_RX7_21 dX7_windowTime_5 ?_
  refine g_8_8 C wf_RX7_74 dX7_windowTime_8 ?_
  refine v_iload_n 1 C dX7_windowTime_11 rfl ?_
  obtain ⟨hi, h⟩ := gi_some h
  refine ald_13 C hi dX7_windowTime_12 ?_
  obtain ⟨hi, h⟩ := gi_some h
  refine ald_29 C hi dX7_windowTime_13 ?_
  refine v_aload_n 0 C dX7_windowTime_14 rfl ?_
  refine g_28_0 C wf_RX7_21 dX7_windowTime_15 ?_
  refine g_8_9 C wf_RX7_77 dX7_windowTime_18 ?_
  refine v_iload_n 1 C dX7_windowTime_21 rfl ?_
  obtain ⟨hi, h⟩ := gi_some h
  refine ald_14 C hi dX7_windowTime_22 ?_
  refine v_iadd C dX7_windowTime_23 ?_
  refine v_ldc C wc_RX7_35 dX7_windowTime_24 ?_
  refine v_jmin C wm_RX7_61 (by decide) (Nat.le_of_ble_eq_true rfl) dX7_windowTime_26 ?_
  exact v_ireth h R1 rfl dX7_windowTime_29
set_option maxRecDepth 4000 in
theorem tl_X2_light_10  {X : CX} {fin : St} (C : Cx X "LitWindows$Lamps" cX2_light 3 3 78) (R1 : RtV X cX2_light fin)  : ∀ (n : Nat) (x2 : Int32) (s : St), l_X2_light_10  n x2 s = some ((), fin) → V X s 10 [(0, .ref (wA (xw X) 32)), (2, .int x2)] [] := by
  intro n
  induction n with
  | zero => intro x2 s h; exact none_no h
  | succ n hr10 =>
    intro x2 s h
    have h : b_X2_light_10  (l_X2_light_10  n) x2 s = some ((), fin) := h
    refine v_iload_n 1 C dX2_light_10 rfl ?_
    refine v_aload_n 0 C dX2_light_11 rfl ?_
    refine g_32_0 C wf_RX2_18 dX2_light_12 ?_
    refine g_8_2 C wf_RX2_42 dX2_light_15 ?_
    refine v_icmp_ge 75 C dX2_light_18 (by decide) (fun c => ?_) (fun c => ?_)
    · have h := if_t h c
      exact v_vreth h R1 dX2_light_75
    · have h := if_f h c
      refine v_aload_n 0 C dX2_light_21 rfl ?_
      refine g_32_2 C wf_RX2_9 dX2_light_22 ?_
      refine v_iload_n 1 C dX2_light_25 rfl ?_
      obtain ⟨hi, h⟩ := gi_some h
      refine ald_33 C hi dX2_light_26 ?_
      refine v_if_ne 47 C dX2_light_27 (by decide) (fun c => ?_) (fun c => ?_)
      · have h := if_f h c
        refine v_aload_n 0 C dX2_light_47 rfl ?_
        refine g_32_3 C wf_RX2_15 dX2_light_48 ?_
        refine v_iload_n 1 C dX2_light_51 rfl ?_
        refine v_aload_n 0 C dX2_light_52 rfl ?_
        refine g_32_2 C wf_RX2_9 dX2_light_53 ?_
        refine v_iload_n 1 C dX2_light_56 rfl ?_
        obtain ⟨hi, h⟩ := gi_some h
        refine ald_33 C hi dX2_light_57 ?_
        refine v_iconst C dX2_light_58 ic_1 ?_
        refine v_icmp_ne 66 C dX2_light_59 (by decide) (fun c => ?_) (fun c => ?_)
        · have h := if_f h c
          refine v_ldc C wc_RX2_51 dX2_light_66 ?_
          obtain ⟨hi, h⟩ := gi_some h
          refine ast_34 C hi dX2_light_68 ?_
          refine v_iinc (L1 := [(0, _), (2, _)]) 1 [1, 0] C dX2_light_69 rfl ic_1 (by decide) rfl ?_
          refine v_goto 10 C dX2_light_72 (by decide) ?_
          exact hr10 _ _ h
        · have h := if_t h c
          refine v_iconst C dX2_light_62 ic_0 ?_
          refine v_goto 68 C dX2_light_63 (by decide) ?_
          obtain ⟨hi, h⟩ := gi_some h
          refine ast_34 C hi dX2_light_68 ?_
          refine v_iinc (L1 := [(0, _), (2, _)]) 1 [1, 0] C dX2_light_69 rfl ic_1 (by decide) rfl ?_
          refine v_goto 10 C dX2_light_72 (by decide) ?_
          exact hr10 _ _ h
      · have h := if_t h c
        refine v_aload_n 0 C dX2_light_30 rfl ?_
        refine g_32_3 C wf_RX2_15 dX2_light_31 ?_
        refine v_iload_n 1 C dX2_light_34 rfl ?_
        refine v_aload_n 0 C dX2_light_35 rfl ?_
        refine g_32_1 C wf_RX2_22 dX2_light_36 ?_
        refine v_iload_n 1 C dX2_light_39 rfl ?_
        obtain ⟨r_40, s_40, e_40, h⟩ := bd_some h
        refine v_callVi [_, _] C (t_X7_windowTime e_40) mw_X7_windowTime (at_28 _ _) rfl wm_RX2_47 ⟨by decide, by decide⟩ rfl (Nat.le_of_ble_eq_true rfl) rfl dX2_light_40 ?_
        obtain ⟨hi, h⟩ := gi_some h
        refine ast_34 C hi dX2_light_43 ?_
        refine v_goto 69 C dX2_light_44 (by decide) ?_
        refine v_iinc (L1 := [(0, _), (2, _)]) 1 [1, 0] C dX2_light_69 rfl ic_1 (by decide) rfl ?_
        refine v_goto 10 C dX2_light_72 (by decide) ?_
        exact hr10 _ _ h
set_option maxRecDepth 4000 in
theorem t_X2_light {x1 s fin : _} (h : f_X2_light x1 s = some ((), fin)) : Ct yX2_light cX2_light 3 none 3 78 (fun w => [.ref (wA w 32), .int x1]) s none fin := by
  refine Ct.ofV (by decide +kernel) (fun w => Nat.le_of_ble_eq_true rfl) (fun X C R1 => ?_)
  show V X s 0 [(0, .ref (wA (xw X) 32)), (1, .int x1)] []
  have C : Cx X "LitWindows$Lamps" cX2_light 3 3 78 := C
  refine v_aload_n 0 C dX2_light_0 rfl ?_
  refine g_32_1 C wf_RX2_22 dX2_light_1 ?_
  refine v_iload_n 1 C dX2_light_4 rfl ?_
  obtain ⟨r_5, s_5, e_5, h⟩ := bd_some h
  refine v_callVv [] C (t_X7_run e_5) mw_X7_run (at_28 _ _) rfl wm_RX2_36 ⟨by decide, by decide⟩ rfl (Nat.le_of_ble_eq_true rfl) rfl dX2_light_5 ?_
  refine v_iconst C dX2_light_8 ic_0 ?_
  refine v_istore_n (L1 := [(0, _), (1, _), (2, _)]) [1, 2, 0] C dX2_light_9 (by decide) rfl ?_
  refine v_sub [0, 2] (L1 := [(0, _), (2, _)]) rfl ?_
  exact tl_X2_light_10 C R1  FU _ _ h
set_option maxRecDepth 4000 in
theorem t_X10_lit {x1 x2 s fin : _} {r : Int32} (h : f_X10_lit x1 x2 s = some (r, fin)) : Ct yX10_lit cX10_lit 3 (some .int) 4 100 (fun w => [.ref (wA w 0), .int x1, .int x2]) s (some (.int r)) fin := by
  refine Ct.ofI (by decide +kernel) (fun w => Nat.le_of_ble_eq_true rfl) (fun X C R1 => ?_)
  show V X s 0 [(0, .ref (wA (xw X) 0)), (1, .int x1), (2, .int x2)] []
  have C : Cx X "LitWindows" cX10_lit 3 4 100 := C
  refine v_aload_n 0 C dX10_lit_0 rfl ?_
  refine v_iload_n 1 C dX10_lit_1 rfl ?_
  obtain ⟨r_2, s_2, e_2, h⟩ := bd_some h
  refine v_callVi [] C (t_X10_isHeap e_2) mw_X10_isHeap (at_0 _ _) rfl wm_RX10_133 ⟨by decide, by decide⟩ rfl (Nat.le_of_ble_eq_true rfl) rfl dX10_lit_2 ?_
  refine v_if_eq 16 C dX10_lit_5 (by decide) (fun c => ?_) (fun c => ?_)
  · have h := if_t h c
    refine v_iconst C dX10_lit_16 ic_m1 ?_
    exact v_ireth h R1 rfl dX10_lit_17
  · have h := if_f h c
    refine v_aload_n 0 C dX10_lit_8 rfl ?_
    refine v_iload_n 2 C dX10_lit_9 rfl ?_
    obtain ⟨r_10, s_10, e_10, h⟩ := bd_some h
    refine v_callVi [] C (t_X10_isWindow e_10) mw_X10_isWindow (at_0 _ _) rfl wm_RX10_116 ⟨by decide, by decide⟩ rfl (Nat.le_of_ble_eq_true rfl) rfl dX10_lit_10 ?_
    refine v_if_ne 18 C dX10_lit_13 (by decide) (fun c => ?_) (fun c => ?_)
    · have h := if_f h c
      refine v_aload_n 0 C dX10_lit_18 rfl ?_
      refine g_0_5 C wf_RX10_49 dX10_lit_19 ?_
      refine v_iload_n 1 C dX10_lit_22 rfl ?_
      obtain ⟨r_23, s_23, e_23, h⟩ := bd_some h
      refine v_callVv [] C (t_X2_light e_23) mw_X2_light (at_32 _ _) rfl wm_RX10_148 ⟨by decide, by decide⟩ rfl (Nat.le_of_ble_eq_true rfl) rfl dX10_lit_23 ?_
      refine v_aload_n 0 C dX10_lit_26 rfl ?_
      refine g_0_5 C wf_RX10_49 dX10_lit_27 ?_
      refine g_32_3 C wf_RX10_151 dX10_lit_30 ?_
      refine v_iload_n 2 C dX10_lit_33 rfl ?_
      obtain ⟨hi, h⟩ := gi_some h
      refine ald_34 C hi dX10_lit_34 ?_
      obtain ⟨r_35, s_35, e_35, h⟩ := bd_some h
      refine v_callSi [] C (t_X10_orNone e_35) mw_X10_orNone wm_RX10_145 ⟨by decide, by decide⟩ rfl (Nat.le_of_ble_eq_true rfl) rfl dX10_lit_35 ?_
      exact v_ireth h R1 rfl dX10_lit_38
    · have h := if_t h c
      refine v_iconst C dX10_lit_16 ic_m1 ?_
      exact v_ireth h R1 rfl dX10_lit_17
set_option maxRecDepth 4000 in
theorem tj_X11_litAt_30  {X : CX} {r : Int32} {fin : St} (C : Cx X "LitWindowsModel" cX11_litAt 3 0 0) (R1 : RtI X cX11_litAt .int r fin)  {x1 s : _} (h : j_X11_litAt_30  x1 s = some (r, fin)) : V X s 30 [(0, .ref (wA (xw X) 74)), (1, .int x1)] [] := by
  refine v_aload_n 0 C dX11_litAt_30 rfl ?_
  refine g_74_38 C wf_RX11_83 dX11_litAt_31 ?_
  refine v_aload_n 0 C dX11_litAt_34 rfl ?_
  refine g_74_25 C wf_RX11_52 dX11_litAt_35 ?_
  refine v_iload_n 1 C dX11_litAt_38 rfl ?_
  obtain ⟨hi, h⟩ := gi_some h
  refine ald_88 C hi dX11_litAt_39 ?_
  obtain ⟨hi, h⟩ := gi_some h
  refine ald_97 C hi dX11_litAt_40 ?_
  refine v_ldc C wc_RX11_233 dX11_litAt_41 ?_
  refine v_icmp_ne 51 C dX11_litAt_43 (by decide) (fun c => ?_) (fun c => ?_)
  · have h := if_f h c
    refine v_aload_n 0 C dX11_litAt_51 rfl ?_
    refine g_74_38 C wf_RX11_83 dX11_litAt_52 ?_
    refine v_aload_n 0 C dX11_litAt_55 rfl ?_
    refine g_74_25 C wf_RX11_52 dX11_litAt_56 ?_
    refine v_iload_n 1 C dX11_litAt_59 rfl ?_
    obtain ⟨hi, h⟩ := gi_some h
    refine ald_88 C hi dX11_litAt_60 ?_
    obtain ⟨hi, h⟩ := gi_some h
    refine ald_97 C hi dX11_litAt_61 ?_
    refine v_aload_n 0 C dX11_litAt_62 rfl ?_
    refine g_74_26 C wf_RX11_55 dX11_litAt_63 ?_
    refine v_iload_n 1 C dX11_litAt_66 rfl ?_
    obtain ⟨hi, h⟩ := gi_some h
    refine ald_89 C hi dX11_litAt_67 ?_
    refine v_iadd C dX11_litAt_68 ?_
    exact v_ireth h R1 rfl dX11_litAt_69
  · have h := if_t h c
    refine v_ldc C wc_RX11_233 dX11_litAt_46 ?_
    refine v_goto 69 C dX11_litAt_48 (by decide) ?_
    exact v_ireth h R1 rfl dX11_litAt_69
set_option maxRecDepth 4000 in
theorem t_X11_litAt {x1 x2 s fin : _} {r : Int32} (h : f_X11_litAt x1 x2 s = some (r, fin)) : Ct yX11_litAt cX11_litAt 3 (some .int) 0 0 (fun w => [.ref (wA w 74), .int x1, .int x2]) s (some (.int r)) fin := by
  refine Ct.ofI (by decide +kernel) (fun w => Nat.le_of_ble_eq_true rfl) (fun X C R1 => ?_)
  show V X s 0 [(0, .ref (wA (xw X) 74)), (1, .int x1), (2, .int x2)] []
  have C : Cx X "LitWindowsModel" cX11_litAt 3 0 0 := C
  refine v_iload_n 2 C dX11_litAt_0 rfl ?_
  refine v_if_eq 30 C dX11_litAt_1 (by decide) (fun c => ?_) (fun c => ?_)
  · have h := if_t h c
    refine v_sub [0, 1] (L1 := [(0, _), (1, _)]) rfl ?_
    exact tj_X11_litAt_30 C R1  h
  · have h := if_f h c
    refine v_aload_n 0 C dX11_litAt_4 rfl ?_
    refine g_74_27 C wf_RX11_58 dX11_litAt_5 ?_
    refine v_iload_n 1 C dX11_litAt_8 rfl ?_
    obtain ⟨hi, h⟩ := gi_some h
    refine ald_90 C hi dX11_litAt_9 ?_
    refine v_if_eq 30 C dX11_litAt_10 (by decide) (fun c => ?_) (fun c => ?_)
    · have h := if_t h c
      refine v_sub [0, 1] (L1 := [(0, _), (1, _)]) rfl ?_
      exact tj_X11_litAt_30 C R1  h
    · have h := if_f h c
      refine v_aload_n 0 C dX11_litAt_13 rfl ?_
      refine g_74_27 C wf_RX11_58 dX11_litAt_14 ?_
      refine v_iload_n 1 C dX11_litAt_17 rfl ?_
      obtain ⟨hi, h⟩ := gi_some h
      refine ald_90 C hi dX11_litAt_18 ?_
      refine v_iconst C dX11_litAt_19 ic_1 ?_
      refine v_icmp_ne 27 C dX11_litAt_20 (by decide) (fun c => ?_) (fun c => ?_)
      · have h := if_f h c
        refine v_ldc C wc_RX11_233 dX11_litAt_27 ?_
        exact v_ireth h R1 rfl dX11_litAt_29
      · have h := if_t h c
        refine v_iconst C dX11_litAt_23 ic_0 ?_
        refine v_goto 29 C dX11_litAt_24 (by decide) ?_
        exact v_ireth h R1 rfl dX11_litAt_29
set_option maxRecDepth 4000 in
theorem t_X11_lit {x1 x2 s fin : _} {r : Int32} (h : f_X11_lit x1 x2 s = some (r, fin)) : Ct yX11_lit cX11_lit 4 (some .int) 2 50 (fun w => [.ref (wA w 74), .int x1, .int x2]) s (some (.int r)) fin := by
  refine Ct.ofI (by decide +kernel) (fun w => Nat.le_of_ble_eq_true rfl) (fun X C R1 => ?_)
  show V X s 0 [(0, .ref (wA (xw X) 74)), (1, .int x1), (2, .int x2)] []
  have C : Cx X "LitWindowsModel" cX11_lit 4 2 50 := C
  refine v_aload_n 0 C dX11_lit_0 rfl ?_
  refine v_iload_n 1 C dX11_lit_1 rfl ?_
  obtain ⟨r_2, s_2, e_2, h⟩ := bd_some h
  refine v_callVi [] C (t_X11_isHeap e_2) mw_X11_isHeap (at_74 _ _) rfl wm_RX11_238 ⟨by decide, by decide⟩ rfl (Nat.le_of_ble_eq_true rfl) rfl dX11_lit_2 ?_
  refine v_if_eq 16 C dX11_lit_5 (by decide) (fun c => ?_) (fun c => ?_)
  · have h := if_t h c
    refine v_iconst C dX11_lit_16 ic_m1 ?_
    exact v_ireth h R1 rfl dX11_lit_17
  · have h := if_f h c
    refine v_aload_n 0 C dX11_lit_8 rfl ?_
    refine v_iload_n 2 C dX11_lit_9 rfl ?_
    obtain ⟨r_10, s_10, e_10, h⟩ := bd_some h
    refine v_callVi [] C (t_X11_isWindow e_10) mw_X11_isWindow (at_74 _ _) rfl wm_RX11_230 ⟨by decide, by decide⟩ rfl (Nat.le_of_ble_eq_true rfl) rfl dX11_lit_10 ?_
    refine v_if_ne 18 C dX11_lit_13 (by decide) (fun c => ?_) (fun c => ?_)
    · have h := if_f h c
      refine v_aload_n 0 C dX11_lit_18 rfl ?_
      refine v_iload_n 1 C dX11_lit_19 rfl ?_
      obtain ⟨r_20, s_20, e_20, h⟩ := bd_some h
      refine v_callVv [] C (t_X11_findFails e_20) mw_X11_findFails (at_74 _ _) rfl wm_RX11_244 ⟨by decide, by decide⟩ rfl (Nat.le_of_ble_eq_true rfl) rfl dX11_lit_20 ?_
      refine v_aload_n 0 C dX11_lit_23 rfl ?_
      refine v_iload_n 2 C dX11_lit_24 rfl ?_
      refine v_iconst C dX11_lit_25 ic_1 ?_
      obtain ⟨r_26, s_26, e_26, h⟩ := bd_some h
      refine v_callVi [] C (t_X11_litAt e_26) mw_X11_litAt (at_74 _ _) rfl wm_RX11_248 ⟨by decide, by decide⟩ rfl (Nat.le_of_ble_eq_true rfl) rfl dX11_lit_26 ?_
      refine v_istore_n (L1 := [(0, _), (1, _), (2, _), (3, _)]) [1, 2, 3, 0] C dX11_lit_29 (by decide) rfl ?_
      refine v_iload_n 3 C dX11_lit_30 rfl ?_
      refine v_ldc C wc_RX11_233 dX11_lit_31 ?_
      refine v_icmp_ne 40 C dX11_lit_33 (by decide) (fun c => ?_) (fun c => ?_)
      · have h := if_f h c
        refine v_iload_n 3 C dX11_lit_40 rfl ?_
        exact v_ireth h R1 rfl dX11_lit_41
      · have h := if_t h c
        refine v_iconst C dX11_lit_36 ic_m1 ?_
        refine v_goto 41 C dX11_lit_37 (by decide) ?_
        exact v_ireth h R1 rfl dX11_lit_41
    · have h := if_t h c
      refine v_iconst C dX11_lit_16 ic_m1 ?_
      exact v_ireth h R1 rfl dX11_lit_17
set_option maxRecDepth 4000 in
theorem tl_X2_firstOut_7  {X : CX} {r : Int32} {fin : St} (C : Cx X "LitWindows$Lamps" cX2_firstOut 4 0 0) (R1 : RtI X cX2_firstOut .int r fin)  : ∀ (n : Nat) (x1 : Int32) (x2 : Int32) (x3 : Int32) (s : St), l_X2_firstOut_7  n x1 x2 x3 s = some (r, fin) → V X s 7 [(0, .ref (wA (xw X) 32)), (1, .int x1), (2, .int x2), (3, .int x3)] [] := by
  intro n
  induction n with
  | zero => intro x1 x2 x3 s h; exact none_no h
  | succ n hr7 =>
    intro x1 x2 x3 s h
    have h : b_X2_firstOut_7  (l_X2_firstOut_7  n) x1 x2 x3 s = some (r, fin) := h
    refine v_iload_n 3 C dX2_firstOut_7 rfl ?_
    refine v_aload_n 0 C dX2_firstOut_8 rfl ?_
    refine g_32_0 C wf_RX2_18 dX2_firstOut_9 ?_
    refine g_8_2 C wf_RX2_42 dX2_firstOut_12 ?_
    refine v_icmp_ge 52 C dX2_firstOut_15 (by decide) (fun c => ?_) (fun c => ?_)
    · have h := if_t h c
      refine v_iload_n 1 C dX2_firstOut_52 rfl ?_
      exact v_ireth h R1 rfl dX2_firstOut_53
    · have h := if_f h c
      refine v_aload_n 0 C dX2_firstOut_18 rfl ?_
      refine g_32_2 C wf_RX2_9 dX2_firstOut_19 ?_
      refine v_iload_n 3 C dX2_firstOut_22 rfl ?_
      obtain ⟨hi, h⟩ := gi_some h
      refine ald_33 C hi dX2_firstOut_23 ?_
      refine v_if_ne 46 C dX2_firstOut_24 (by decide) (fun c => ?_) (fun c => ?_)
      · have h := if_f h c
        refine v_iinc (L1 := [(0, _), (1, _), (2, _), (3, _)]) 3 [1, 2, 3, 0] C dX2_firstOut_46 rfl ic_1 (by decide) rfl ?_
        refine v_goto 7 C dX2_firstOut_49 (by decide) ?_
        exact hr7 _ _ _ _ h
      · have h := if_t h c
        refine v_aload_n 0 C dX2_firstOut_27 rfl ?_
        refine g_32_3 C wf_RX2_15 dX2_firstOut_28 ?_
        refine v_iload_n 3 C dX2_firstOut_31 rfl ?_
        obtain ⟨hi, h⟩ := gi_some h
        refine ald_34 C hi dX2_firstOut_32 ?_
        refine v_iload_n 2 C dX2_firstOut_33 rfl ?_
        refine v_icmp_ge 46 C dX2_firstOut_34 (by decide) (fun c => ?_) (fun c => ?_)
        · have h := if_t h c
          refine v_iinc (L1 := [(0, _), (1, _), (2, _), (3, _)]) 3 [1, 2, 3, 0] C dX2_firstOut_46 rfl ic_1 (by decide) rfl ?_
          refine v_goto 7 C dX2_firstOut_49 (by decide) ?_
          exact hr7 _ _ _ _ h
        · have h := if_f h c
          refine v_iload_n 3 C dX2_firstOut_37 rfl ?_
          refine v_istore_n (L1 := [(0, _), (1, _), (2, _), (3, _)]) [1, 0, 2, 3] C dX2_firstOut_38 (by decide) rfl ?_
          refine v_aload_n 0 C dX2_firstOut_39 rfl ?_
          refine g_32_3 C wf_RX2_15 dX2_firstOut_40 ?_
          refine v_iload_n 3 C dX2_firstOut_43 rfl ?_
          obtain ⟨hi, h⟩ := gi_some h
          refine ald_34 C hi dX2_firstOut_44 ?_
          refine v_istore_n (L1 := [(0, _), (1, _), (2, _), (3, _)]) [1, 2, 0, 3] C dX2_firstOut_45 (by decide) rfl ?_
          refine v_iinc (L1 := [(0, _), (1, _), (2, _), (3, _)]) 3 [1, 2, 3, 0] C dX2_firstOut_46 rfl ic_1 (by decide) rfl ?_
          refine v_goto 7 C dX2_firstOut_49 (by decide) ?_
          exact hr7 _ _ _ _ h
set_option maxRecDepth 4000 in
theorem t_X2_firstOut { s fin : _} {r : Int32} (h : f_X2_firstOut  s = some (r, fin)) : Ct yX2_firstOut cX2_firstOut 4 (some .int) 0 0 (fun w => [.ref (wA w 32)]) s (some (.int r)) fin := by
  refine Ct.ofI (by decide +kernel) (fun w => Nat.le_of_ble_eq_true rfl) (fun X C R1 => ?_)
  show V X s 0 [(0, .ref (wA (xw X) 32))] []
  have C : Cx X "LitWindows$Lamps" cX2_firstOut 4 0 0 := C
  refine v_iconst C dX2_firstOut_0 ic_m1 ?_
  refine v_istore_n (L1 := [(0, _), (1, _)]) [1, 0] C dX2_firstOut_1 (by decide) rfl ?_
  refine v_ldc C wc_RX2_51 dX2_firstOut_2 ?_
  refine v_istore_n (L1 := [(0, _), (1, _), (2, _)]) [1, 2, 0] C dX2_firstOut_4 (by decide) rfl ?_
  refine v_iconst C dX2_firstOut_5 ic_0 ?_
  refine v_istore_n (L1 := [(0, _), (1, _), (2, _), (3, _)]) [1, 2, 3, 0] C dX2_firstOut_6 (by decide) rfl ?_
  exact tl_X2_firstOut_7 C R1  FU _ _ _ _ h
set_option maxRecDepth 4000 in
theorem t_X10_first {x1 x2 s fin : _} {r : Int32} (h : f_X10_first x1 x2 s = some (r, fin)) : Ct yX10_first cX10_first 4 (some .int) 4 100 (fun w => [.ref (wA w 0), .int x1, .int x2]) s (some (.int r)) fin := by
  refine Ct.ofI (by decide +kernel) (fun w => Nat.le_of_ble_eq_true rfl) (fun X C R1 => ?_)
  show V X s 0 [(0, .ref (wA (xw X) 0)), (1, .int x1), (2, .int x2)] []
  have C : Cx X "LitWindows" cX10_first 4 4 100 := C
  refine v_aload_n 0 C dX10_first_0 rfl ?_
  refine v_iload_n 1 C dX10_first_1 rfl ?_
  obtain ⟨r_2, s_2, e_2, h⟩ := bd_some h
  refine v_callVi [] C (t_X10_isHeap e_2) mw_X10_isHeap (at_0 _ _) rfl wm_RX10_133 ⟨by decide, by decide⟩ rfl (Nat.le_of_ble_eq_true rfl) rfl dX10_first_2 ?_
  refine v_if_eq 17 C dX10_first_5 (by decide) (fun c => ?_) (fun c => ?_)
  · have h := if_t h c
    refine v_iconst C dX10_first_17 ic_m1 ?_
    exact v_ireth h R1 rfl dX10_first_18
  · have h := if_f h c
    refine v_iload_n 2 C dX10_first_8 rfl ?_
    refine v_if_lt 17 C dX10_first_9 (by decide) (fun c => ?_) (fun c => ?_)
    · have h := if_t h c
      refine v_iconst C dX10_first_17 ic_m1 ?_
      exact v_ireth h R1 rfl dX10_first_18
    · have h := if_f h c
      refine v_iload_n 2 C dX10_first_12 rfl ?_
      refine v_iconst C dX10_first_13 ic_1 ?_
      refine v_icmp_le 19 C dX10_first_14 (by decide) (fun c => ?_) (fun c => ?_)
      · have h := if_t h c
        refine v_aload_n 0 C dX10_first_19 rfl ?_
        refine g_0_5 C wf_RX10_49 dX10_first_20 ?_
        refine v_iload_n 1 C dX10_first_23 rfl ?_
        obtain ⟨r_24, s_24, e_24, h⟩ := bd_some h
        refine v_callVv [] C (t_X2_light e_24) mw_X2_light (at_32 _ _) rfl wm_RX10_148 ⟨by decide, by decide⟩ rfl (Nat.le_of_ble_eq_true rfl) rfl dX10_first_24 ?_
        refine v_aload_n 0 C dX10_first_27 rfl ?_
        refine g_0_5 C wf_RX10_49 dX10_first_28 ?_
        obtain ⟨r_31, s_31, e_31, h⟩ := bd_some h
        refine v_callVi [] C (t_X2_firstOut e_31) mw_X2_firstOut (at_32 _ _) rfl wm_RX10_154 ⟨by decide, by decide⟩ rfl (Nat.le_of_ble_eq_true rfl) rfl dX10_first_31 ?_
        refine v_istore_n (L1 := [(0, _), (1, _), (2, _), (3, _)]) [1, 2, 3, 0] C dX10_first_34 (by decide) rfl ?_
        refine v_iload_n 3 C dX10_first_35 rfl ?_
        refine v_iconst C dX10_first_36 ic_m1 ?_
        refine v_icmp_eq 44 C dX10_first_37 (by decide) (fun c => ?_) (fun c => ?_)
        · have h := if_t h c
          refine v_iload_n 3 C dX10_first_44 rfl ?_
          exact v_ireth h R1 rfl dX10_first_45
        · have h := if_f h c
          refine v_iload_n 2 C dX10_first_40 rfl ?_
          refine v_if_ne 46 C dX10_first_41 (by decide) (fun c => ?_) (fun c => ?_)
          · have h := if_f h c
            refine v_iload_n 1 C dX10_first_46 rfl ?_
            refine v_aload_n 0 C dX10_first_47 rfl ?_
            refine g_0_2 C wf_RX10_28 dX10_first_48 ?_
            refine g_8_8 C wf_RX10_123 dX10_first_51 ?_
            refine v_iload_n 3 C dX10_first_54 rfl ?_
            obtain ⟨hi, h⟩ := gi_some h
            refine ald_13 C hi dX10_first_55 ?_
            obtain ⟨r_56, s_56, e_56, h⟩ := bd_some h
            refine v_callSi [] C (t_X10_hasBit e_56) mw_X10_hasBit wm_RX10_158 ⟨by decide, by decide⟩ rfl (Nat.le_of_ble_eq_true rfl) rfl dX10_first_56 ?_
            refine v_if_eq 66 C dX10_first_59 (by decide) (fun c => ?_) (fun c => ?_)
            · have h := if_t h c
              refine v_iconst C dX10_first_66 ic_1 ?_
              exact v_ireth h R1 rfl dX10_first_67
            · have h := if_f h c
              refine v_iconst C dX10_first_62 ic_0 ?_
              refine v_goto 67 C dX10_first_63 (by decide) ?_
              exact v_ireth h R1 rfl dX10_first_67
          · have h := if_t h c
            refine v_iload_n 3 C dX10_first_44 rfl ?_
            exact v_ireth h R1 rfl dX10_first_45
      · have h := if_f h c
        refine v_iconst C dX10_first_17 ic_m1 ?_
        exact v_ireth h R1 rfl dX10_first_18
set_option maxRecDepth 4000 in
theorem tl_X11_firstFrom_4  {X : CX} {r : Int32} {fin : St} (C : Cx X "LitWindowsModel" cX11_firstFrom 5 1 22) (R1 : RtI X cX11_firstFrom .int r fin)  : ∀ (n : Nat) (x1 : Int32) (x2 : Int32) (x3 : Int32) (s : St), l_X11_firstFrom_4  n x1 x2 x3 s = some (r, fin) → V X s 4 [(0, .ref (wA (xw X) 74)), (1, .int x1), (2, .int x2), (3, .int x3)] [] := by
  intro n
  induction n with
  | zero => intro x1 x2 x3 s h; exact none_no h
  | succ n hr4 =>
    intro x1 x2 x3 s h
    have h : b_X11_firstFrom_4  (l_X11_firstFrom_4  n) x1 x2 x3 s = some (r, fin) := h
    refine v_iload_n 3 C dX11_firstFrom_4 rfl ?_
    refine v_aload_n 0 C dX11_firstFrom_5 rfl ?_
    refine g_74_24 C wf_RX11_221 dX11_firstFrom_6 ?_
    refine v_icmp_ge 69 C dX11_firstFrom_9 (by decide) (fun c => ?_) (fun c => ?_)
    · have h := if_t h c
      refine v_iload_n 2 C dX11_firstFrom_69 rfl ?_
      exact v_ireth h R1 rfl dX11_firstFrom_70
    · have h := if_f h c
      refine v_aload_n 0 C dX11_firstFrom_12 rfl ?_
      refine v_iload_n 3 C dX11_firstFrom_13 rfl ?_
      refine v_iconst C dX11_firstFrom_14 ic_1 ?_
      obtain ⟨r_15, s_15, e_15, h⟩ := bd_some h
      refine v_callVi [] C (t_X11_litAt e_15) mw_X11_litAt (at_74 _ _) rfl wm_RX11_248 ⟨by decide, by decide⟩ rfl (Nat.le_of_ble_eq_true rfl) rfl dX11_firstFrom_15 ?_
      refine v_istore (L1 := [(0, _), (1, _), (2, _), (3, _), (4, _)]) [1, 2, 3, 4, 0] C dX11_firstFrom_18 (by decide) rfl ?_
      refine v_aload_n 0 C dX11_firstFrom_20 rfl ?_
      refine g_74_27 C wf_RX11_58 dX11_firstFrom_21 ?_
      refine v_iload_n 3 C dX11_firstFrom_24 rfl ?_
      obtain ⟨hi, h⟩ := gi_some h
      refine ald_90 C hi dX11_firstFrom_25 ?_
      refine v_if_ne 63 C dX11_firstFrom_26 (by decide) (fun c => ?_) (fun c => ?_)
      · have h := if_f h c
        refine v_iinc (L1 := [(0, _), (1, _), (2, _), (3, _), (4, _)]) 3 [1, 2, 3, 0, 4] C dX11_firstFrom_63 rfl ic_1 (by decide) rfl ?_
        refine v_goto 4 C dX11_firstFrom_66 (by decide) ?_
        refine v_sub [0, 1, 2, 3] (L1 := [(0, _), (1, _), (2, _), (3, _)]) rfl ?_
        exact hr4 _ _ _ _ h
      · have h := if_t h c
        refine v_iload 4 C dX11_firstFrom_29 rfl ?_
        refine v_ldc C wc_RX11_233 dX11_firstFrom_31 ?_
        refine v_icmp_eq 63 C dX11_firstFrom_33 (by decide) (fun c => ?_) (fun c => ?_)
        · have h := if_t h c
          refine v_iinc (L1 := [(0, _), (1, _), (2, _), (3, _), (4, _)]) 3 [1, 2, 3, 0, 4] C dX11_firstFrom_63 rfl ic_1 (by decide) rfl ?_
          refine v_goto 4 C dX11_firstFrom_66 (by decide) ?_
          refine v_sub [0, 1, 2, 3] (L1 := [(0, _), (1, _), (2, _), (3, _)]) rfl ?_
          exact hr4 _ _ _ _ h
        · have h := if_f h c
          refine v_iload 4 C dX11_firstFrom_36 rfl ?_
          refine v_iload_n 1 C dX11_firstFrom_38 rfl ?_
          refine v_icmp_ge 45 C dX11_firstFrom_39 (by decide) (fun c => ?_) (fun c => ?_)
          · have h := if_t h c
            refine v_iload_n 2 C dX11_firstFrom_45 rfl ?_
            refine v_iconst C dX11_firstFrom_46 ic_m1 ?_
            refine v_icmp_eq 61 C dX11_firstFrom_47 (by decide) (fun c => ?_) (fun c => ?_)
            · have h := if_t h c
              refine v_iload_n 3 C dX11_firstFrom_61 rfl ?_
              refine v_istore_n (L1 := [(0, _), (1, _), (2, _), (3, _), (4, _)]) [1, 2, 0, 3, 4] C dX11_firstFrom_62 (by decide) rfl ?_
              refine v_iinc (L1 := [(0, _), (1, _), (2, _), (3, _), (4, _)]) 3 [1, 2, 3, 0, 4] C dX11_firstFrom_63 rfl ic_1 (by decide) rfl ?_
              refine v_goto 4 C dX11_firstFrom_66 (by decide) ?_
              refine v_sub [0, 1, 2, 3] (L1 := [(0, _), (1, _), (2, _), (3, _)]) rfl ?_
              exact hr4 _ _ _ _ h
            · have h := if_f h c
              refine v_iload 4 C dX11_firstFrom_50 rfl ?_
              refine v_aload_n 0 C dX11_firstFrom_52 rfl ?_
              refine v_iload_n 2 C dX11_firstFrom_53 rfl ?_
              refine v_iconst C dX11_firstFrom_54 ic_1 ?_
              obtain ⟨r_55, s_55, e_55, h⟩ := bd_some h
              refine v_callVi [_] C (t_X11_litAt e_55) mw_X11_litAt (at_74 _ _) rfl wm_RX11_248 ⟨by decide, by decide⟩ rfl (Nat.le_of_ble_eq_true rfl) rfl dX11_firstFrom_55 ?_
              refine v_icmp_ge 63 C dX11_firstFrom_58 (by decide) (fun c => ?_) (fun c => ?_)
              · have h := if_t h c
                refine v_iinc (L1 := [(0, _), (1, _), (2, _), (3, _), (4, _)]) 3 [1, 2, 3, 0, 4] C dX11_firstFrom_63 rfl ic_1 (by decide) rfl ?_
                refine v_goto 4 C dX11_firstFrom_66 (by decide) ?_
                refine v_sub [0, 1, 2, 3] (L1 := [(0, _), (1, _), (2, _), (3, _)]) rfl ?_
                exact hr4 _ _ _ _ h
              · have h := if_f h c
                refine v_iload_n 3 C dX11_firstFrom_61 rfl ?_
                refine v_istore_n (L1 := [(0, _), (1, _), (2, _), (3, _), (4, _)]) [1, 2, 0, 3, 4] C dX11_firstFrom_62 (by decide) rfl ?_
                refine v_iinc (L1 := [(0, _), (1, _), (2, _), (3, _), (4, _)]) 3 [1, 2, 3, 0, 4] C dX11_firstFrom_63 rfl ic_1 (by decide) rfl ?_
                refine v_goto 4 C dX11_firstFrom_66 (by decide) ?_
                refine v_sub [0, 1, 2, 3] (L1 := [(0, _), (1, _), (2, _), (3, _)]) rfl ?_
                exact hr4 _ _ _ _ h
          · have h := if_f h c
            refine v_goto 63 C dX11_firstFrom_42 (by decide) ?_
            refine v_iinc (L1 := [(0, _), (1, _), (2, _), (3, _), (4, _)]) 3 [1, 2, 3, 0, 4] C dX11_firstFrom_63 rfl ic_1 (by decide) rfl ?_
            refine v_goto 4 C dX11_firstFrom_66 (by decide) ?_
            refine v_sub [0, 1, 2, 3] (L1 := [(0, _), (1, _), (2, _), (3, _)]) rfl ?_
            exact hr4 _ _ _ _ h
set_option maxRecDepth 4000 in
theorem t_X11_firstFrom {x1 s fin : _} {r : Int32} (h : f_X11_firstFrom x1 s = some (r, fin)) : Ct yX11_firstFrom cX11_firstFrom 5 (some .int) 1 22 (fun w => [.ref (wA w 74), .int x1]) s (some (.int r)) fin := by
  refine Ct.ofI (by decide +kernel) (fun w => Nat.le_of_ble_eq_true rfl) (fun X C R1 => ?_)
  show V X s 0 [(0, .ref (wA (xw X) 74)), (1, .int x1)] []
  have C : Cx X "LitWindowsModel" cX11_firstFrom 5 1 22 := C
  refine v_iconst C dX11_firstFrom_0 ic_m1 ?_
  refine v_istore_n (L1 := [(0, _), (1, _), (2, _)]) [1, 2, 0] C dX11_firstFrom_1 (by decide) rfl ?_
  refine v_iconst C dX11_firstFrom_2 ic_0 ?_
  refine v_istore_n (L1 := [(0, _), (1, _), (2, _), (3, _)]) [1, 2, 3, 0] C dX11_firstFrom_3 (by decide) rfl ?_
  exact tl_X11_firstFrom_4 C R1  FU _ _ _ _ h
set_option maxRecDepth 4000 in
theorem t_X11_first {x1 x2 s fin : _} {r : Int32} (h : f_X11_first x1 x2 s = some (r, fin)) : Ct yX11_first cX11_first 4 (some .int) 2 50 (fun w => [.ref (wA w 74), .int x1, .int x2]) s (some (.int r)) fin := by
  refine Ct.ofI (by decide +kernel) (fun w => Nat.le_of_ble_eq_true rfl) (fun X C R1 => ?_)
  show V X s 0 [(0, .ref (wA (xw X) 74)), (1, .int x1), (2, .int x2)] []
  have C : Cx X "LitWindowsModel" cX11_first 4 2 50 := C
  refine v_aload_n 0 C dX11_first_0 rfl ?_
  refine v_iload_n 1 C dX11_first_1 rfl ?_
  obtain ⟨r_2, s_2, e_2, h⟩ := bd_some h
  refine v_callVi [] C (t_X11_isHeap e_2) mw_X11_isHeap (at_74 _ _) rfl wm_RX11_238 ⟨by decide, by decide⟩ rfl (Nat.le_of_ble_eq_true rfl) rfl dX11_first_2 ?_
  refine v_if_eq 17 C dX11_first_5 (by decide) (fun c => ?_) (fun c => ?_)
  · have h := if_t h c
    refine v_iconst C dX11_first_17 ic_m1 ?_
    exact v_ireth h R1 rfl dX11_first_18
  · have h := if_f h c
    refine v_iload_n 2 C dX11_first_8 rfl ?_
    refine v_iconst C dX11_first_9 ic_0 ?_
    refine v_iconst C dX11_first_10 ic_1 ?_
    obtain ⟨r_11, s_11, e_11, h⟩ := bd_some h
    refine v_callSi [] C (t_X11_in e_11) mw_X11_in wm_RX11_98 ⟨by decide, by decide⟩ rfl (Nat.le_of_ble_eq_true rfl) rfl dX11_first_11 ?_
    refine v_if_ne 19 C dX11_first_14 (by decide) (fun c => ?_) (fun c => ?_)
    · have h := if_f h c
      refine v_aload_n 0 C dX11_first_19 rfl ?_
      refine v_iload_n 1 C dX11_first_20 rfl ?_
      obtain ⟨r_21, s_21, e_21, h⟩ := bd_some h
      refine v_callVv [] C (t_X11_findFails e_21) mw_X11_findFails (at_74 _ _) rfl wm_RX11_244 ⟨by decide, by decide⟩ rfl (Nat.le_of_ble_eq_true rfl) rfl dX11_first_21 ?_
      refine v_aload_n 0 C dX11_first_24 rfl ?_
      refine v_iconst C dX11_first_25 ic_0 ?_
      obtain ⟨r_26, s_26, e_26, h⟩ := bd_some h
      refine v_callVi [] C (t_X11_firstFrom e_26) mw_X11_firstFrom (at_74 _ _) rfl wm_RX11_252 ⟨by decide, by decide⟩ rfl (Nat.le_of_ble_eq_true rfl) rfl dX11_first_26 ?_
      refine v_istore_n (L1 := [(0, _), (1, _), (2, _), (3, _)]) [1, 2, 3, 0] C dX11_first_29 (by decide) rfl ?_
      refine v_iload_n 3 C dX11_first_30 rfl ?_
      refine v_iconst C dX11_first_31 ic_m1 ?_
      refine v_icmp_eq 39 C dX11_first_32 (by decide) (fun c => ?_) (fun c => ?_)
      · have h := if_t h c
        refine v_iload_n 3 C dX11_first_39 rfl ?_
        refine v_goto 61 C dX11_first_40 (by decide) ?_
        exact v_ireth h R1 rfl dX11_first_61
      · have h := if_f h c
        refine v_iload_n 2 C dX11_first_35 rfl ?_
        refine v_if_ne 43 C dX11_first_36 (by decide) (fun c => ?_) (fun c => ?_)
        · have h := if_f h c
          refine v_iload_n 1 C dX11_first_43 rfl ?_
          refine v_aload_n 0 C dX11_first_44 rfl ?_
          refine g_74_25 C wf_RX11_52 dX11_first_45 ?_
          refine v_iload_n 3 C dX11_first_48 rfl ?_
          obtain ⟨hi, h⟩ := gi_some h
          refine ald_88 C hi dX11_first_49 ?_
          refine v_ishr C dX11_first_50 ?_
          refine v_iconst C dX11_first_51 ic_1 ?_
          refine v_iand C dX11_first_52 ?_
          refine v_if_ne 60 C dX11_first_53 (by decide) (fun c => ?_) (fun c => ?_)
          · have h := if_f h c
            refine v_iconst C dX11_first_60 ic_0 ?_
            exact v_ireth h R1 rfl dX11_first_61
          · have h := if_t h c
            refine v_iconst C dX11_first_56 ic_1 ?_
            refine v_goto 61 C dX11_first_57 (by decide) ?_
            exact v_ireth h R1 rfl dX11_first_61
        · have h := if_t h c
          refine v_iload_n 3 C dX11_first_39 rfl ?_
          refine v_goto 61 C dX11_first_40 (by decide) ?_
          exact v_ireth h R1 rfl dX11_first_61
    · have h := if_t h c
      refine v_iconst C dX11_first_17 ic_m1 ?_
      exact v_ireth h R1 rfl dX11_first_18
set_option maxRecDepth 4000 in
theorem tl_X2_nextSound_5  {X : CX} {r : Int32} {fin : St} (C : Cx X "LitWindows$Lamps" cX2_nextSound 4 1 32) (R1 : RtI X cX2_nextSound .int r fin)  : ∀ (n : Nat) (x1 : Int32) (x2 : Int32) (x3 : Int32) (s : St), l_X2_nextSound_5  n x1 x2 x3 s = some (r, fin) → V X s 5 [(0, .ref (wA (xw X) 32)), (1, .int x1), (2, .int x2), (3, .int x3)] [] := by
  intro n
  induction n with
  | zero => intro x1 x2 x3 s h; exact none_no h
  | succ n hr5 =>
    intro x1 x2 x3 s h
    have h : b_X2_nextSound_5  (l_X2_nextSound_5  n) x1 x2 x3 s = some (r, fin) := h
    refine v_iload_n 3 C dX2_nextSound_5 rfl ?_
    refine v_aload_n 0 C dX2_nextSound_6 rfl ?_
    refine g_32_0 C wf_RX2_18 dX2_nextSound_7 ?_
    refine g_8_2 C wf_RX2_42 dX2_nextSound_10 ?_
    refine v_icmp_ge 52 C dX2_nextSound_13 (by decide) (fun c => ?_) (fun c => ?_)
    · have h := if_t h c
      refine v_iload_n 2 C dX2_nextSound_52 rfl ?_
      exact v_ireth h R1 rfl dX2_nextSound_53
    · have h := if_f h c
      refine v_aload_n 0 C dX2_nextSound_16 rfl ?_
      refine g_32_2 C wf_RX2_9 dX2_nextSound_17 ?_
      refine v_iload_n 3 C dX2_nextSound_20 rfl ?_
      obtain ⟨hi, h⟩ := gi_some h
      refine ald_33 C hi dX2_nextSound_21 ?_
      refine v_if_ne 46 C dX2_nextSound_22 (by decide) (fun c => ?_) (fun c => ?_)
      · have h := if_f h c
        refine v_iinc (L1 := [(0, _), (1, _), (2, _), (3, _)]) 3 [1, 2, 3, 0] C dX2_nextSound_46 rfl ic_1 (by decide) rfl ?_
        refine v_goto 5 C dX2_nextSound_49 (by decide) ?_
        exact hr5 _ _ _ _ h
      · have h := if_t h c
        refine v_aload_n 0 C dX2_nextSound_25 rfl ?_
        refine g_32_3 C wf_RX2_15 dX2_nextSound_26 ?_
        refine v_iload_n 3 C dX2_nextSound_29 rfl ?_
        obtain ⟨hi, h⟩ := gi_some h
        refine ald_34 C hi dX2_nextSound_30 ?_
        refine v_iload_n 1 C dX2_nextSound_31 rfl ?_
        refine v_icmp_lt 46 C dX2_nextSound_32 (by decide) (fun c => ?_) (fun c => ?_)
        · have h := if_t h c
          refine v_iinc (L1 := [(0, _), (1, _), (2, _), (3, _)]) 3 [1, 2, 3, 0] C dX2_nextSound_46 rfl ic_1 (by decide) rfl ?_
          refine v_goto 5 C dX2_nextSound_49 (by decide) ?_
          exact hr5 _ _ _ _ h
        · have h := if_f h c
          refine v_iload_n 2 C dX2_nextSound_35 rfl ?_
          refine v_aload_n 0 C dX2_nextSound_36 rfl ?_
          refine g_32_3 C wf_RX2_15 dX2_nextSound_37 ?_
          refine v_iload_n 3 C dX2_nextSound_40 rfl ?_
          obtain ⟨hi, h⟩ := gi_some h
          refine ald_34 C hi dX2_nextSound_41 ?_
          refine v_jmin C wm_RX2_68 (by decide) (Nat.le_of_ble_eq_true rfl) dX2_nextSound_42 ?_
          refine v_istore_n (L1 := [(0, _), (1, _), (2, _), (3, _)]) [1, 2, 0, 3] C dX2_nextSound_45 (by decide) rfl ?_
          refine v_iinc (L1 := [(0, _), (1, _), (2, _), (3, _)]) 3 [1, 2, 3, 0] C dX2_nextSound_46 rfl ic_1 (by decide) rfl ?_
          refine v_goto 5 C dX2_nextSound_49 (by decide) ?_
          exact hr5 _ _ _ _ h
set_option maxRecDepth 4000 in
theorem t_X2_nextSound {x1 s fin : _} {r : Int32} (h : f_X2_nextSound x1 s = some (r, fin)) : Ct yX2_nextSound cX2_nextSound 4 (some .int) 1 32 (fun w => [.ref (wA w 32), .int x1]) s (some (.int r)) fin := by
  refine Ct.ofI (by decide +kernel) (fun w => Nat.le_of_ble_eq_true rfl) (fun X C R1 => ?_)
  show V X s 0 [(0, .ref (wA (xw X) 32)), (1, .int x1)] []
  have C : Cx X "LitWindows$Lamps" cX2_nextSound 4 1 32 := C
  refine v_ldc C wc_RX2_51 dX2_nextSound_0 ?_
  refine v_istore_n (L1 := [(0, _), (1, _), (2, _)]) [1, 2, 0] C dX2_nextSound_2 (by decide) rfl ?_
  refine v_iconst C dX2_nextSound_3 ic_0 ?_
  refine v_istore_n (L1 := [(0, _), (1, _), (2, _), (3, _)]) [1, 2, 3, 0] C dX2_nextSound_4 (by decide) rfl ?_
  exact tl_X2_nextSound_5 C R1  FU _ _ _ _ h
set_option maxRecDepth 4000 in
theorem tl_X2_hornsBegun_11  {X : CX} {r : Int32} {fin : St} (C : Cx X "LitWindows$Lamps" cX2_hornsBegun 5 2 55) (R1 : RtI X cX2_hornsBegun .int r fin)  : ∀ (n : Nat) (x1 : Int32) (x2 : Int32) (x3 : Int32) (x4 : Int32) (s : St), l_X2_hornsBegun_11  n x1 x2 x3 x4 s = some (r, fin) → V X s 11 [(0, .ref (wA (xw X) 32)), (1, .int x1), (2, .int x2), (3, .int x3), (4, .int x4)] [] := by
  intro n
  induction n with
  | zero => intro x1 x2 x3 x4 s h; exact none_no h
  | succ n hr11 =>
    intro x1 x2 x3 x4 s h
    have h : b_X2_hornsBegun_11  (l_X2_hornsBegun_11  n) x1 x2 x3 x4 s = some (r, fin) := h
    refine v_iload 4 C dX2_hornsBegun_11 rfl ?_
    refine v_aload_n 0 C dX2_hornsBegun_13 rfl ?_
    refine g_32_0 C wf_RX2_18 dX2_hornsBegun_14 ?_
    refine g_8_2 C wf_RX2_42 dX2_hornsBegun_17 ?_
    refine v_icmp_ge 46 C dX2_hornsBegun_20 (by decide) (fun c => ?_) (fun c => ?_)
    · have h := if_t h c
      refine v_iload_n 2 C dX2_hornsBegun_46 rfl ?_
      exact v_ireth h R1 rfl dX2_hornsBegun_47
    · have h := if_f h c
      refine v_iload_n 3 C dX2_hornsBegun_23 rfl ?_
      refine v_ldc C wc_RX2_51 dX2_hornsBegun_24 ?_
      refine v_icmp_ge 46 C dX2_hornsBegun_26 (by decide) (fun c => ?_) (fun c => ?_)
      · have h := if_t h c
        refine v_iload_n 2 C dX2_hornsBegun_46 rfl ?_
        exact v_ireth h R1 rfl dX2_hornsBegun_47
      · have h := if_f h c
        refine v_iinc (L1 := [(0, _), (1, _), (2, _), (3, _), (4, _)]) 2 [1, 2, 0, 3, 4] C dX2_hornsBegun_29 rfl ic_1 (by decide) rfl ?_
        refine v_aload_n 0 C dX2_hornsBegun_32 rfl ?_
        refine v_iload_n 3 C dX2_hornsBegun_33 rfl ?_
        refine v_iload_n 1 C dX2_hornsBegun_34 rfl ?_
        refine v_iadd C dX2_hornsBegun_35 ?_
        obtain ⟨r_36, s_36, e_36, h⟩ := bd_some h
        refine v_callVi [] C (t_X2_nextSound e_36) mw_X2_nextSound (at_32 _ _) rfl wm_RX2_74 ⟨by decide, by decide⟩ rfl (Nat.le_of_ble_eq_true rfl) rfl dX2_hornsBegun_36 ?_
        refine v_istore_n (L1 := [(0, _), (1, _), (2, _), (3, _), (4, _)]) [1, 2, 3, 0, 4] C dX2_hornsBegun_39 (by decide) rfl ?_
        refine v_iinc (L1 := [(0, _), (1, _), (2, _), (3, _), (4, _)]) 4 [1, 2, 3, 4, 0] C dX2_hornsBegun_40 rfl ic_1 (by decide) rfl ?_
        refine v_goto 11 C dX2_hornsBegun_43 (by decide) ?_
        exact hr11 _ _ _ _ _ h
set_option maxRecDepth 4000 in
theorem t_X2_hornsBegun {x1 s fin : _} {r : Int32} (h : f_X2_hornsBegun x1 s = some (r, fin)) : Ct yX2_hornsBegun cX2_hornsBegun 5 (some .int) 2 55 (fun w => [.ref (wA w 32), .int x1]) s (some (.int r)) fin := by
  refine Ct.ofI (by decide +kernel) (fun w => Nat.le_of_ble_eq_true rfl) (fun X C R1 => ?_)
  show V X s 0 [(0, .ref (wA (xw X) 32)), (1, .int x1)] []
  have C : Cx X "LitWindows$Lamps" cX2_hornsBegun 5 2 55 := C
  refine v_iconst C dX2_hornsBegun_0 ic_0 ?_
  refine v_istore_n (L1 := [(0, _), (1, _), (2, _)]) [1, 2, 0] C dX2_hornsBegun_1 (by decide) rfl ?_
  refine v_aload_n 0 C dX2_hornsBegun_2 rfl ?_
  refine v_iconst C dX2_hornsBegun_3 ic_0 ?_
  obtain ⟨r_4, s_4, e_4, h⟩ := bd_some h
  refine v_callVi [] C (t_X2_nextSound e_4) mw_X2_nextSound (at_32 _ _) rfl wm_RX2_74 ⟨by decide, by decide⟩ rfl (Nat.le_of_ble_eq_true rfl) rfl dX2_hornsBegun_4 ?_
  refine v_istore_n (L1 := [(0, _), (1, _), (2, _), (3, _)]) [1, 2, 3, 0] C dX2_hornsBegun_7 (by decide) rfl ?_
  refine v_iconst C dX2_hornsBegun_8 ic_0 ?_
  refine v_istore (L1 := [(0, _), (1, _), (2, _), (3, _), (4, _)]) [1, 2, 3, 4, 0] C dX2_hornsBegun_9 (by decide) rfl ?_
  exact tl_X2_hornsBegun_11 C R1  FU _ _ _ _ _ h
set_option maxRecDepth 4000 in
theorem t_X10_horns {x1 x2 s fin : _} {r : Int32} (h : f_X10_horns x1 x2 s = some (r, fin)) : Ct yX10_horns cX10_horns 3 (some .int) 4 100 (fun w => [.ref (wA w 0), .int x1, .int x2]) s (some (.int r)) fin := by
  refine Ct.ofI (by decide +kernel) (fun w => Nat.le_of_ble_eq_true rfl) (fun X C R1 => ?_)
  show V X s 0 [(0, .ref (wA (xw X) 0)), (1, .int x1), (2, .int x2)] []
  have C : Cx X "LitWindows" cX10_horns 3 4 100 := C
  refine v_aload_n 0 C dX10_horns_0 rfl ?_
  refine v_iload_n 1 C dX10_horns_1 rfl ?_
  obtain ⟨r_2, s_2, e_2, h⟩ := bd_some h
  refine v_callVi [] C (t_X10_isHeap e_2) mw_X10_isHeap (at_0 _ _) rfl wm_RX10_133 ⟨by decide, by decide⟩ rfl (Nat.le_of_ble_eq_true rfl) rfl dX10_horns_2 ?_
  refine v_if_eq 19 C dX10_horns_5 (by decide) (fun c => ?_) (fun c => ?_)
  · have h := if_t h c
    refine v_iconst C dX10_horns_19 ic_m1 ?_
    exact v_ireth h R1 rfl dX10_horns_20
  · have h := if_f h c
    refine v_iload_n 2 C dX10_horns_8 rfl ?_
    refine v_iconst C dX10_horns_9 ic_1 ?_
    refine v_icmp_lt 19 C dX10_horns_10 (by decide) (fun c => ?_) (fun c => ?_)
    · have h := if_t h c
      refine v_iconst C dX10_horns_19 ic_m1 ?_
      exact v_ireth h R1 rfl dX10_horns_20
    · have h := if_f h c
      refine v_iload_n 2 C dX10_horns_13 rfl ?_
      refine v_bipush C dX10_horns_14 bp_60 ?_
      refine v_icmp_le 21 C dX10_horns_16 (by decide) (fun c => ?_) (fun c => ?_)
      · have h := if_t h c
        refine v_aload_n 0 C dX10_horns_21 rfl ?_
        refine g_0_5 C wf_RX10_49 dX10_horns_22 ?_
        refine v_iload_n 1 C dX10_horns_25 rfl ?_
        obtain ⟨r_26, s_26, e_26, h⟩ := bd_some h
        refine v_callVv [] C (t_X2_light e_26) mw_X2_light (at_32 _ _) rfl wm_RX10_148 ⟨by decide, by decide⟩ rfl (Nat.le_of_ble_eq_true rfl) rfl dX10_horns_26 ?_
        refine v_aload_n 0 C dX10_horns_29 rfl ?_
        refine g_0_5 C wf_RX10_49 dX10_horns_30 ?_
        refine v_iload_n 2 C dX10_horns_33 rfl ?_
        obtain ⟨r_34, s_34, e_34, h⟩ := bd_some h
        refine v_callVi [] C (t_X2_hornsBegun e_34) mw_X2_hornsBegun (at_32 _ _) rfl wm_RX10_162 ⟨by decide, by decide⟩ rfl (Nat.le_of_ble_eq_true rfl) rfl dX10_horns_34 ?_
        exact v_ireth h R1 rfl dX10_horns_37
      · have h := if_f h c
        refine v_iconst C dX10_horns_19 ic_m1 ?_
        exact v_ireth h R1 rfl dX10_horns_20
set_option maxRecDepth 4000 in
theorem tl_X11_horns_38  {X : CX} {r : Int32} {fin : St} (C : Cx X "LitWindowsModel" cX11_horns 6 2 50) (R1 : RtI X cX11_horns .int r fin)  : ∀ (n : Nat) (x2 : Int32) (x3 : Int32) (x5 : Int32) (s : St), l_X11_horns_38  n x2 x3 x5 s = some (r, fin) → V X s 38 [(0, .ref (wA (xw X) 74)), (2, .int x2), (3, .int x3), (5, .int x5)] [] := by
  intro n
  induction n with
  | zero => intro x2 x3 x5 s h; exact none_no h
  | succ n hr38 =>
    intro x2 x3 x5 s h
    have h : b_X11_horns_38  (l_X11_horns_38  n) x2 x3 x5 s = some (r, fin) := h
    refine v_iload 3 C dX11_horns_38 rfl ?_
    refine v_iconst C dX11_horns_40 ic_m1 ?_
    refine v_icmp_eq 69 C dX11_horns_41 (by decide) (fun c => ?_) (fun c => ?_)
    · have h := if_t h c
      refine v_iload_n 2 C dX11_horns_69 rfl ?_
      exact v_ireth h R1 rfl dX11_horns_70
    · have h := if_f h c
      refine v_iinc (L1 := [(0, _), (2, _), (3, _), (5, _)]) 2 [1, 2, 0, 3] C dX11_horns_44 rfl ic_1 (by decide) rfl ?_
      refine v_aload_n 0 C dX11_horns_47 rfl ?_
      refine v_iload 3 C dX11_horns_48 rfl ?_
      refine v_iconst C dX11_horns_50 ic_1 ?_
      obtain ⟨r_51, s_51, e_51, h⟩ := bd_some h
      refine v_callVi [] C (t_X11_litAt e_51) mw_X11_litAt (at_74 _ _) rfl wm_RX11_248 ⟨by decide, by decide⟩ rfl (Nat.le_of_ble_eq_true rfl) rfl dX11_horns_51 ?_
      refine v_iload_n 1 C dX11_horns_54 rfl ?_
      refine v_iadd C dX11_horns_55 ?_
      refine v_istore (L1 := [(0, _), (2, _), (3, _), (4, _), (5, _)]) [1, 2, 3, 0, 4] C dX11_horns_56 (by decide) rfl ?_
      refine v_aload_n 0 C dX11_horns_58 rfl ?_
      refine v_iload 3 C dX11_horns_59 rfl ?_
      obtain ⟨r_61, s_61, e_61, h⟩ := bd_some h
      refine v_callVi [] C (t_X11_firstFrom e_61) mw_X11_firstFrom (at_74 _ _) rfl wm_RX11_252 ⟨by decide, by decide⟩ rfl (Nat.le_of_ble_eq_true rfl) rfl dX11_horns_61 ?_
      refine v_istore (L1 := [(0, _), (2, _), (3, _), (4, _), (5, _)]) [1, 2, 3, 4, 0] C dX11_horns_64 (by decide) rfl ?_
      refine v_goto 38 C dX11_horns_66 (by decide) ?_
      refine v_sub [0, 1, 2, 4] (L1 := [(0, _), (2, _), (3, _), (5, _)]) rfl ?_
      exact hr38 _ _ _ _ h
set_option maxRecDepth 4000 in
theorem t_X11_horns {x1 x2 s fin : _} {r : Int32} (h : f_X11_horns x1 x2 s = some (r, fin)) : Ct yX11_horns cX11_horns 6 (some .int) 2 50 (fun w => [.ref (wA w 74), .int x1, .int x2]) s (some (.int r)) fin := by
  refine Ct.ofI (by decide +kernel) (fun w => Nat.le_of_ble_eq_true rfl) (fun X C R1 => ?_)
  show V X s 0 [(0, .ref (wA (xw X) 74)), (1, .int x1), (2, .int x2)] []
  have C : Cx X "LitWindowsModel" cX11_horns 6 2 50 := C
  refine v_aload_n 0 C dX11_horns_0 rfl ?_
  refine v_iload_n 1 C dX11_horns_1 rfl ?_
  obtain ⟨r_2, s_2, e_2, h⟩ := bd_some h
  refine v_callVi [] C (t_X11_isHeap e_2) mw_X11_isHeap (at_74 _ _) rfl wm_RX11_238 ⟨by decide, by decide⟩ rfl (Nat.le_of_ble_eq_true rfl) rfl dX11_horns_2 ?_
  refine v_if_eq 18 C dX11_horns_5 (by decide) (fun c => ?_) (fun c => ?_)
  · have h := if_t h c
    refine v_iconst C dX11_horns_18 ic_m1 ?_
    exact v_ireth h R1 rfl dX11_horns_19
  · have h := if_f h c
    refine v_iload_n 2 C dX11_horns_8 rfl ?_
    refine v_iconst C dX11_horns_9 ic_1 ?_
    refine v_bipush C dX11_horns_10 bp_60 ?_
    obtain ⟨r_12, s_12, e_12, h⟩ := bd_some h
    refine v_callSi [] C (t_X11_in e_12) mw_X11_in wm_RX11_98 ⟨by decide, by decide⟩ rfl (Nat.le_of_ble_eq_true rfl) rfl dX11_horns_12 ?_
    refine v_if_ne 20 C dX11_horns_15 (by decide) (fun c => ?_) (fun c => ?_)
    · have h := if_f h c
      refine v_aload_n 0 C dX11_horns_20 rfl ?_
      refine v_iload_n 1 C dX11_horns_21 rfl ?_
      obtain ⟨r_22, s_22, e_22, h⟩ := bd_some h
      refine v_callVv [] C (t_X11_findFails e_22) mw_X11_findFails (at_74 _ _) rfl wm_RX11_244 ⟨by decide, by decide⟩ rfl (Nat.le_of_ble_eq_true rfl) rfl dX11_horns_22 ?_
      refine v_iconst C dX11_horns_25 ic_0 ?_
      refine v_istore_n (L1 := [(0, _), (1, _), (2, _), (3, _)]) [1, 2, 3, 0] C dX11_horns_26 (by decide) rfl ?_
      refine v_iconst C dX11_horns_27 ic_0 ?_
      refine v_istore (L1 := [(0, _), (1, _), (2, _), (3, _), (4, _)]) [1, 2, 3, 4, 0] C dX11_horns_28 (by decide) rfl ?_
      refine v_aload_n 0 C dX11_horns_30 rfl ?_
      refine v_iload 4 C dX11_horns_31 rfl ?_
      obtain ⟨r_33, s_33, e_33, h⟩ := bd_some h
      refine v_callVi [] C (t_X11_firstFrom e_33) mw_X11_firstFrom (at_74 _ _) rfl wm_RX11_252 ⟨by decide, by decide⟩ rfl (Nat.le_of_ble_eq_true rfl) rfl dX11_horns_33 ?_
      refine v_istore (L1 := [(0, _), (1, _), (2, _), (3, _), (4, _), (5, _)]) [1, 2, 3, 4, 5, 0] C dX11_horns_36 (by decide) rfl ?_
      refine v_sub [0, 2, 3, 5] (L1 := [(0, _), (2, _), (3, _), (5, _)]) rfl ?_
      exact tl_X11_horns_38 C R1  FU _ _ _ _ h
    · have h := if_t h c
      refine v_iconst C dX11_horns_18 ic_m1 ?_
      exact v_ireth h R1 rfl dX11_horns_19
set_option maxRecDepth 4000 in
theorem t_X10_isSecond {x0 s fin : _} {r : Int32} (h : f_X10_isSecond x0 s = some (r, fin)) : Ct yX10_isSecond cX10_isSecond 1 (some .boolean) 0 0 (fun w => [.int x0]) s (some (.int r)) fin := by
  refine Ct.ofI (by decide +kernel) (fun w => Nat.le_of_ble_eq_true rfl) (fun X C R1 => ?_)
  show V X s 0 [(0, .int x0)] []
  have C : Cx X "LitWindows" cX10_isSecond 1 0 0 := C
  refine v_iload_n 0 C dX10_isSecond_0 rfl ?_
  refine v_if_lt 15 C dX10_isSecond_1 (by decide) (fun c => ?_) (fun c => ?_)
  · have h := if_t h c
    refine v_iconst C dX10_isSecond_15 ic_0 ?_
    exact v_ireth h R1 rfl dX10_isSecond_16
  · have h := if_f h c
    refine v_iload_n 0 C dX10_isSecond_4 rfl ?_
    refine v_sipush C dX10_isSecond_5 sp_999 ?_
    refine v_icmp_gt 15 C dX10_isSecond_8 (by decide) (fun c => ?_) (fun c => ?_)
    · have h := if_t h c
      refine v_iconst C dX10_isSecond_15 ic_0 ?_
      exact v_ireth h R1 rfl dX10_isSecond_16
    · have h := if_f h c
      refine v_iconst C dX10_isSecond_11 ic_1 ?_
      refine v_goto 16 C dX10_isSecond_12 (by decide) ?_
      exact v_ireth h R1 rfl dX10_isSecond_16
set_option maxRecDepth 4000 in
theorem t_X5_canAdd {x1 s fin : _} {r : Int32} (h : f_X5_canAdd x1 s = some (r, fin)) : Ct yX5_canAdd cX5_canAdd 2 (some .boolean) 0 0 (fun w => [.ref (wA w 35), .int x1]) s (some (.int r)) fin := by
  refine Ct.ofI (by decide +kernel) (fun w => Nat.le_of_ble_eq_true rfl) (fun X C R1 => ?_)
  show V X s 0 [(0, .ref (wA (xw X) 35)), (1, .int x1)] []
  have C : Cx X "LitWindows$Rows" cX5_canAdd 2 0 0 := C
  refine v_aload_n 0 C dX5_canAdd_0 rfl ?_
  refine g_35_2 C wf_RX5_18 dX5_canAdd_1 ?_
  refine v_bipush C dX5_canAdd_4 bp_60 ?_
  refine v_icmp_ge 35 C dX5_canAdd_6 (by decide) (fun c => ?_) (fun c => ?_)
  · have h := if_t h c
    refine v_iconst C dX5_canAdd_35 ic_0 ?_
    exact v_ireth h R1 rfl dX5_canAdd_36
  · have h := if_f h c
    refine v_aload_n 0 C dX5_canAdd_9 rfl ?_
    refine g_35_2 C wf_RX5_18 dX5_canAdd_10 ?_
    refine v_if_eq 31 C dX5_canAdd_13 (by decide) (fun c => ?_) (fun c => ?_)
    · have h := if_t h c
      refine v_iconst C dX5_canAdd_31 ic_1 ?_
      refine v_goto 36 C dX5_canAdd_32 (by decide) ?_
      exact v_ireth h R1 rfl dX5_canAdd_36
    · have h := if_f h c
      refine v_iload_n 1 C dX5_canAdd_16 rfl ?_
      refine v_aload_n 0 C dX5_canAdd_17 rfl ?_
      refine g_35_1 C wf_RX5_15 dX5_canAdd_18 ?_
      refine v_aload_n 0 C dX5_canAdd_21 rfl ?_
      refine g_35_2 C wf_RX5_18 dX5_canAdd_22 ?_
      refine v_iconst C dX5_canAdd_25 ic_1 ?_
      refine v_isub C dX5_canAdd_26 ?_
      obtain ⟨hi, h⟩ := gi_some h
      refine ald_37 C hi dX5_canAdd_27 ?_
      refine v_icmp_lt 35 C dX5_canAdd_28 (by decide) (fun c => ?_) (fun c => ?_)
      · have h := if_t h c
        refine v_iconst C dX5_canAdd_35 ic_0 ?_
        exact v_ireth h R1 rfl dX5_canAdd_36
      · have h := if_f h c
        refine v_iconst C dX5_canAdd_31 ic_1 ?_
        refine v_goto 36 C dX5_canAdd_32 (by decide) ?_
        exact v_ireth h R1 rfl dX5_canAdd_36
set_option maxRecDepth 4000 in
theorem t_X5_add {x1 x2 s fin : _} (h : f_X5_add x1 x2 s = some ((), fin)) : Ct yX5_add cX5_add 3 none 0 0 (fun w => [.ref (wA w 35), .int x1, .int x2]) s none fin := by
  refine Ct.ofV (by decide +kernel) (fun w => Nat.le_of_ble_eq_true rfl) (fun X C R1 => ?_)
  show V X s 0 [(0, .ref (wA (xw X) 35)), (1, .int x1), (2, .int x2)] []
  have C : Cx X "LitWindows$Rows" cX5_add 3 0 0 := C
  refine v_aload_n 0 C dX5_add_0 rfl ?_
  refine g_35_2 C wf_RX5_18 dX5_add_1 ?_
  refine v_bipush C dX5_add_4 bp_60 ?_
  refine v_icmp_ge 39 C dX5_add_6 (by decide) (fun c => ?_) (fun c => ?_)
  · have h := if_t h c
    exact v_vreth h R1 dX5_add_39
  · have h := if_f h c
    refine v_aload_n 0 C dX5_add_9 rfl ?_
    refine g_35_0 C wf_RX5_9 dX5_add_10 ?_
    refine v_aload_n 0 C dX5_add_13 rfl ?_
    refine g_35_2 C wf_RX5_18 dX5_add_14 ?_
    refine v_iload_n 1 C dX5_add_17 rfl ?_
    obtain ⟨hi, h⟩ := gi_some h
    refine ast_36 C hi dX5_add_18 ?_
    refine v_aload_n 0 C dX5_add_19 rfl ?_
    refine g_35_1 C wf_RX5_15 dX5_add_20 ?_
    refine v_aload_n 0 C dX5_add_23 rfl ?_
    refine g_35_2 C wf_RX5_18 dX5_add_24 ?_
    refine v_iload_n 2 C dX5_add_27 rfl ?_
    obtain ⟨hi, h⟩ := gi_some h
    refine ast_37 C hi dX5_add_28 ?_
    refine v_aload_n 0 C dX5_add_29 rfl ?_
    refine v_dupr C dX5_add_30 ?_
    refine g_35_2 C wf_RX5_18 dX5_add_31 ?_
    refine v_iconst C dX5_add_34 ic_1 ?_
    refine v_iadd C dX5_add_35 ?_
    refine p_35_2 C wf_RX5_18 dX5_add_36 ?_
    exact v_vreth h R1 dX5_add_39
set_option maxRecDepth 4000 in
theorem t_X10_log {x1 x2 s fin : _} {r : Int32} (h : f_X10_log x1 x2 s = some (r, fin)) : Ct yX10_log cX10_log 3 (some .int) 1 22 (fun w => [.ref (wA w 0), .int x1, .int x2]) s (some (.int r)) fin := by
  refine Ct.ofI (by decide +kernel) (fun w => Nat.le_of_ble_eq_true rfl) (fun X C R1 => ?_)
  show V X s 0 [(0, .ref (wA (xw X) 0)), (1, .int x1), (2, .int x2)] []
  have C : Cx X "LitWindows" cX10_log 3 1 22 := C
  refine v_aload_n 0 C dX10_log_0 rfl ?_
  refine v_iload_n 1 C dX10_log_1 rfl ?_
  obtain ⟨r_2, s_2, e_2, h⟩ := bd_some h
  refine v_callVi [] C (t_X10_isWindow e_2) mw_X10_isWindow (at_0 _ _) rfl wm_RX10_116 ⟨by decide, by decide⟩ rfl (Nat.le_of_ble_eq_true rfl) rfl dX10_log_2 ?_
  refine v_if_eq 26 C dX10_log_5 (by decide) (fun c => ?_) (fun c => ?_)
  · have h := if_t h c
    refine v_iconst C dX10_log_26 ic_m1 ?_
    exact v_ireth h R1 rfl dX10_log_27
  · have h := if_f h c
    refine v_iload_n 2 C dX10_log_8 rfl ?_
    obtain ⟨r_9, s_9, e_9, h⟩ := bd_some h
    refine v_callSi [] C (t_X10_isSecond e_9) mw_X10_isSecond wm_RX10_165 ⟨by decide, by decide⟩ rfl (Nat.le_of_ble_eq_true rfl) rfl dX10_log_9 ?_
    refine v_if_eq 26 C dX10_log_12 (by decide) (fun c => ?_) (fun c => ?_)
    · have h := if_t h c
      refine v_iconst C dX10_log_26 ic_m1 ?_
      exact v_ireth h R1 rfl dX10_log_27
    · have h := if_f h c
      refine v_aload_n 0 C dX10_log_15 rfl ?_
      refine g_0_6 C wf_RX10_56 dX10_log_16 ?_
      refine v_iload_n 2 C dX10_log_19 rfl ?_
      obtain ⟨r_20, s_20, e_20, h⟩ := bd_some h
      refine v_callVi [] C (t_X5_canAdd e_20) mw_X5_canAdd (at_35 _ _) rfl wm_RX10_168 ⟨by decide, by decide⟩ rfl (Nat.le_of_ble_eq_true rfl) rfl dX10_log_20 ?_
      refine v_if_ne 28 C dX10_log_23 (by decide) (fun c => ?_) (fun c => ?_)
      · have h := if_f h c
        refine v_aload_n 0 C dX10_log_28 rfl ?_
        refine g_0_6 C wf_RX10_56 dX10_log_29 ?_
        refine v_iload_n 1 C dX10_log_32 rfl ?_
        refine v_iload_n 2 C dX10_log_33 rfl ?_
        obtain ⟨r_34, s_34, e_34, h⟩ := bd_some h
        refine v_callVv [] C (t_X5_add e_34) mw_X5_add (at_35 _ _) rfl wm_RX10_171 ⟨by decide, by decide⟩ rfl (Nat.le_of_ble_eq_true rfl) rfl dX10_log_34 ?_
        refine v_aload_n 0 C dX10_log_37 rfl ?_
        refine g_0_6 C wf_RX10_56 dX10_log_38 ?_
        refine g_35_2 C wf_RX10_110 dX10_log_41 ?_
        exact v_ireth h R1 rfl dX10_log_44
      · have h := if_t h c
        refine v_iconst C dX10_log_26 ic_m1 ?_
        exact v_ireth h R1 rfl dX10_log_27
