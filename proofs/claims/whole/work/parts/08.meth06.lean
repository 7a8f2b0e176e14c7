set_option maxRecDepth 4000 in
theorem tj_X11_explains_202 {rec35 : Int32 → Int32 → St → Option (Unit × St)} {rec42 : Int32 → Int32 → Int32 → St → Option (Unit × St)} {X : CX} {fin : St} (C : Cx X "LitWindowsModel" cX11_explains 9 2 50) (R1 : RtV X cX11_explains fin) (hr35 : ∀ (x1 : Int32) (x2 : Int32) (s : St), rec35 x1 x2 s = some ((), fin) → V X s 35 [(0, .ref (wA (xw X) 74)), (1, .int x1), (2, .int x2)] []) (hr42 : ∀ (x1 : Int32) (x2 : Int32) (x3 : Int32) (s : St), rec42 x1 x2 x3 s = some ((), fin) → V X s 42 [(0, .ref (wA (xw X) 74)), (1, .int x1), (2, .int x2), (3, .int x3)] []) {x1 x2 x3 x6 s : _} (h : j_X11_explains_202 rec35 rec42 x1 x2 x3 x6 s = some ((), fin)) : V X s 202 [(0, .ref (wA (xw X) 74)), (1, .int x1), (2, .int x2), (3, .int x3), (6, .int x6)] [] := by
  unfold j_X11_explains_202 at h
  refine v_aload_n 0 C dX11_explains_202 rfl ?_
  refine v_dupr C dX11_explains_203 ?_
  refine g_74_44 C wf_RX11_280 dX11_explains_204 ?_
  refine v_iconst C dX11_explains_207 ic_1 ?_
  refine v_iadd C dX11_explains_208 ?_
  refine p_74_44 C wf_RX11_280 dX11_explains_209 ?_
  refine v_aload_n 0 C dX11_explains_212 rfl ?_
  refine v_dupr C dX11_explains_213 ?_
  refine g_74_45 C wf_RX11_283 dX11_explains_214 ?_
  refine v_iload_n 3 C dX11_explains_217 rfl ?_
  refine v_iand C dX11_explains_218 ?_
  refine p_74_45 C wf_RX11_283 dX11_explains_219 ?_
  refine v_aload_n 0 C dX11_explains_222 rfl ?_
  refine v_dupr C dX11_explains_223 ?_
  refine g_74_46 C wf_RX11_286 dX11_explains_224 ?_
  refine v_iload_n 3 C dX11_explains_227 rfl ?_
  refine v_ior C dX11_explains_228 ?_
  refine p_74_46 C wf_RX11_286 dX11_explains_229 ?_
  refine v_aload_n 0 C dX11_explains_232 rfl ?_
  refine v_dupr C dX11_explains_233 ?_
  refine g_74_47 C wf_RX11_289 dX11_explains_234 ?_
  refine v_iload 4 C dX11_explains_237 rfl ?_
  refine v_iand C dX11_explains_239 ?_
  refine p_74_47 C wf_RX11_289 dX11_explains_240 ?_
  refine v_iinc (L1 := [(0, _), (1, _), (2, _), (3, _), (6, _)]) 3 [1, 2, 3, 0, 4] C dX11_explains_243 rfl ic_1 (by decide) rfl ?_
  refine v_goto 42 C dX11_explains_246 (by decide) ?_
  refine v_sub [0, 1, 2, 3] (L1 := [(0, _), (1, _), (2, _), (3, _)]) rfl ?_
  exact hr42 _ _ _ _ h
set_option maxRecDepth 4000 in
theorem tl_X11_explains_81 {rec35 : Int32 → Int32 → St → Option (Unit × St)} {rec42 : Int32 → Int32 → Int32 → St → Option (Unit × St)} {X : CX} {fin : St} (C : Cx X "LitWindowsModel" cX11_explains 9 2 50) (R1 : RtV X cX11_explains fin) (hr35 : ∀ (x1 : Int32) (x2 : Int32) (s : St), rec35 x1 x2 s = some ((), fin) → V X s 35 [(0, .ref (wA (xw X) 74)), (1, .int x1), (2, .int x2)] []) (hr42 : ∀ (x1 : Int32) (x2 : Int32) (x3 : Int32) (s : St), rec42 x1 x2 x3 s = some ((), fin) → V X s 42 [(0, .ref (wA (xw X) 74)), (1, .int x1), (2, .int x2), (3, .int x3)] []) : ∀ (n : Nat) (x1 : Int32) (x2 : Int32) (x3 : Int32) (x4 : Int32) (x5 : Int32) (x6 : Int32) (x7 : Int32) (s : St), l_X11_explains_81 rec35 rec42 n x1 x2 x3 x4 x5 x6 x7 s = some ((), fin) → V X s 81 [(0, .ref (wA (xw X) 74)), (1, .int x1), (2, .int x2), (3, .int x3), (4, .int x4), (5, .int x5), (6, .int x6), (7, .int x7)] [] := by
  intro n
  induction n with
  | zero => intro x1 x2 x3 x4 x5 x6 x7 s h; exact none_no h
  | succ n hr81 =>
    intro x1 x2 x3 x4 x5 x6 x7 s h
    have h : b_X11_explains_81 rec35 rec42 (l_X11_explains_81 rec35 rec42 n) x1 x2 x3 x4 x5 x6 x7 s = some ((), fin) := h
    refine v_iload 7 C dX11_explains_81 rfl ?_
    refine v_iload_n 1 C dX11_explains_83 rfl ?_
    refine v_icmp_gt 138 C dX11_explains_84 (by decide) (fun c => ?_) (fun c => ?_)
    · have h := if_t h c
      refine v_iload 4 C dX11_explains_138 rfl ?_
      refine v_aload_n 0 C dX11_explains_140 rfl ?_
      refine g_74_40 C wf_RX11_261 dX11_explains_141 ?_
      refine v_icmp_le 150 C dX11_explains_144 (by decide) (fun c => ?_) (fun c => ?_)
      · have h := if_t h c
        refine v_iload 4 C dX11_explains_150 rfl ?_
        refine v_aload_n 0 C dX11_explains_152 rfl ?_
        refine g_74_40 C wf_RX11_261 dX11_explains_153 ?_
        refine v_icmp_ge 202 C dX11_explains_156 (by decide) (fun c => ?_) (fun c => ?_)
        · have h := if_t h c
          refine v_sub [0, 1, 2, 3, 6] (L1 := [(0, _), (1, _), (2, _), (3, _), (6, _)]) rfl ?_
          exact tj_X11_explains_202 C R1 hr35 hr42 h
        · have h := if_f h c
          refine v_aload_n 0 C dX11_explains_159 rfl ?_
          refine v_iload 4 C dX11_explains_160 rfl ?_
          refine p_74_40 C wf_RX11_261 dX11_explains_162 ?_
          refine v_aload_n 0 C dX11_explains_165 rfl ?_
          refine v_iload_n 3 C dX11_explains_166 rfl ?_
          refine p_74_41 C wf_RX11_271 dX11_explains_167 ?_
          refine v_aload_n 0 C dX11_explains_170 rfl ?_
          refine v_iload 5 C dX11_explains_171 rfl ?_
          refine p_74_42 C wf_RX11_274 dX11_explains_173 ?_
          refine v_aload_n 0 C dX11_explains_176 rfl ?_
          refine v_iload 6 C dX11_explains_177 rfl ?_
          refine p_74_43 C wf_RX11_277 dX11_explains_179 ?_
          refine v_aload_n 0 C dX11_explains_182 rfl ?_
          refine v_iconst C dX11_explains_183 ic_0 ?_
          refine p_74_44 C wf_RX11_280 dX11_explains_184 ?_
          refine v_aload_n 0 C dX11_explains_187 rfl ?_
          refine v_iconst C dX11_explains_188 ic_m1 ?_
          refine p_74_45 C wf_RX11_283 dX11_explains_189 ?_
          refine v_aload_n 0 C dX11_explains_192 rfl ?_
          refine v_iconst C dX11_explains_193 ic_0 ?_
          refine p_74_46 C wf_RX11_286 dX11_explains_194 ?_
          refine v_aload_n 0 C dX11_explains_197 rfl ?_
          refine v_iconst C dX11_explains_198 ic_m1 ?_
          refine p_74_47 C wf_RX11_289 dX11_explains_199 ?_
          refine v_sub [0, 1, 2, 3, 6] (L1 := [(0, _), (1, _), (2, _), (3, _), (6, _)]) rfl ?_
          exact tj_X11_explains_202 C R1 hr35 hr42 h
      · have h := if_f h c
        refine v_goto 243 C dX11_explains_147 (by decide) ?_
        refine v_iinc (L1 := [(0, _), (1, _), (2, _), (3, _), (4, _), (5, _), (6, _), (7, _)]) 3 [1, 2, 3, 0, 4, 5, 6, 7] C dX11_explains_243 rfl ic_1 (by decide) rfl ?_
        refine v_goto 42 C dX11_explains_246 (by decide) ?_
        refine v_sub [0, 1, 2, 3] (L1 := [(0, _), (1, _), (2, _), (3, _)]) rfl ?_
        exact hr42 _ _ _ _ h
    · have h := if_f h c
      refine v_aload_n 0 C dX11_explains_87 rfl ?_
      refine v_iload 7 C dX11_explains_88 rfl ?_
      refine v_iload_n 1 C dX11_explains_90 rfl ?_
      obtain ⟨r_91, s_91, e_91, h⟩ := bd_some h
      refine v_callVi [] C (t_X11_wrong e_91) mw_X11_wrong (at_74 _ _) rfl wm_RX11_267 ⟨by decide, by decide⟩ rfl (Nat.le_of_ble_eq_true rfl) rfl dX11_explains_91 ?_
      refine v_istore (L1 := [(0, _), (1, _), (2, _), (3, _), (4, _), (5, _), (6, _), (7, _), (8, _)]) [1, 2, 3, 4, 5, 6, 7, 8, 0] C dX11_explains_94 (by decide) rfl ?_
      refine v_iconst C dX11_explains_96 ic_2 ?_
      refine v_iload_n 2 C dX11_explains_97 rfl ?_
      refine v_imul C dX11_explains_98 ?_
      refine v_iload 8 C dX11_explains_99 rfl ?_
      obtain ⟨r_101, s_101, e_101, h⟩ := bd_some h
      refine v_callSi [_] C (t_X11_ones e_101) mw_X11_ones wm_RX11_264 ⟨by decide, by decide⟩ rfl (Nat.le_of_ble_eq_true rfl) rfl dX11_explains_101 ?_
      refine v_iadd C dX11_explains_104 ?_
      refine v_iload 4 C dX11_explains_105 rfl ?_
      refine v_icmp_lt 113 C dX11_explains_107 (by decide) (fun c => ?_) (fun c => ?_)
      · have h := if_t h c
        refine v_iconst C dX11_explains_113 ic_2 ?_
        refine v_iload_n 2 C dX11_explains_114 rfl ?_
        refine v_imul C dX11_explains_115 ?_
        refine v_iload 8 C dX11_explains_116 rfl ?_
        obtain ⟨r_118, s_118, e_118, h⟩ := bd_some h
        refine v_callSi [_] C (t_X11_ones e_118) mw_X11_ones wm_RX11_264 ⟨by decide, by decide⟩ rfl (Nat.le_of_ble_eq_true rfl) rfl dX11_explains_118 ?_
        refine v_iadd C dX11_explains_121 ?_
        refine v_istore (L1 := [(0, _), (1, _), (2, _), (3, _), (4, _), (5, _), (6, _), (7, _), (8, _)]) [1, 2, 3, 4, 0, 5, 6, 7, 8] C dX11_explains_122 (by decide) rfl ?_
        refine v_iload 7 C dX11_explains_124 rfl ?_
        refine v_istore (L1 := [(0, _), (1, _), (2, _), (3, _), (4, _), (5, _), (6, _), (7, _), (8, _)]) [1, 2, 3, 4, 5, 0, 6, 7, 8] C dX11_explains_126 (by decide) rfl ?_
        refine v_iload 8 C dX11_explains_128 rfl ?_
        refine v_istore (L1 := [(0, _), (1, _), (2, _), (3, _), (4, _), (5, _), (6, _), (7, _), (8, _)]) [1, 2, 3, 4, 5, 6, 0, 7, 8] C dX11_explains_130 (by decide) rfl ?_
        refine v_iinc (L1 := [(0, _), (1, _), (2, _), (3, _), (4, _), (5, _), (6, _), (7, _), (8, _)]) 7 [1, 2, 3, 4, 5, 6, 7, 0, 8] C dX11_explains_132 rfl ic_1 (by decide) rfl ?_
        refine v_goto 81 C dX11_explains_135 (by decide) ?_
        refine v_sub [0, 1, 2, 3, 4, 5, 6, 7] (L1 := [(0, _), (1, _), (2, _), (3, _), (4, _), (5, _), (6, _), (7, _)]) rfl ?_
        exact hr81 _ _ _ _ _ _ _ _ h
      · have h := if_f h c
        refine v_goto 132 C dX11_explains_110 (by decide) ?_
        refine v_iinc (L1 := [(0, _), (1, _), (2, _), (3, _), (4, _), (5, _), (6, _), (7, _), (8, _)]) 7 [1, 2, 3, 4, 5, 6, 7, 0, 8] C dX11_explains_132 rfl ic_1 (by decide) rfl ?_
        refine v_goto 81 C dX11_explains_135 (by decide) ?_
        refine v_sub [0, 1, 2, 3, 4, 5, 6, 7] (L1 := [(0, _), (1, _), (2, _), (3, _), (4, _), (5, _), (6, _), (7, _)]) rfl ?_
        exact hr81 _ _ _ _ _ _ _ _ h
set_option maxRecDepth 4000 in
theorem tl_X11_explains_42 {rec35 : Int32 → Int32 → St → Option (Unit × St)} {X : CX} {fin : St} (C : Cx X "LitWindowsModel" cX11_explains 9 2 50) (R1 : RtV X cX11_explains fin) (hr35 : ∀ (x1 : Int32) (x2 : Int32) (s : St), rec35 x1 x2 s = some ((), fin) → V X s 35 [(0, .ref (wA (xw X) 74)), (1, .int x1), (2, .int x2)] []) : ∀ (n : Nat) (x1 : Int32) (x2 : Int32) (x3 : Int32) (s : St), l_X11_explains_42 rec35 n x1 x2 x3 s = some ((), fin) → V X s 42 [(0, .ref (wA (xw X) 74)), (1, .int x1), (2, .int x2), (3, .int x3)] [] := by
  intro n
  induction n with
  | zero => intro x1 x2 x3 s h; exact none_no h
  | succ n hr42 =>
    intro x1 x2 x3 s h
    have h : b_X11_explains_42 rec35 (l_X11_explains_42 rec35 n) x1 x2 x3 s = some ((), fin) := h
    refine v_iload_n 3 C dX11_explains_42 rfl ?_
    refine v_iconst C dX11_explains_43 ic_1 ?_
    refine v_aload_n 0 C dX11_explains_44 rfl ?_
    refine g_74_18 C wf_RX11_215 dX11_explains_45 ?_
    refine v_ishl C dX11_explains_48 ?_
    refine v_icmp_ge 249 C dX11_explains_49 (by decide) (fun c => ?_) (fun c => ?_)
    · have h := if_t h c
      refine v_iinc (L1 := [(0, _), (1, _), (2, _), (3, _)]) 2 [1, 2, 0, 3] C dX11_explains_249 rfl ic_1 (by decide) rfl ?_
      refine v_goto 35 C dX11_explains_252 (by decide) ?_
      refine v_sub [0, 1, 2] (L1 := [(0, _), (1, _), (2, _)]) rfl ?_
      exact hr35 _ _ _ h
    · have h := if_f h c
      refine v_iload_n 3 C dX11_explains_52 rfl ?_
      obtain ⟨r_53, s_53, e_53, h⟩ := bd_some h
      refine v_callSi [] C (t_X11_ones e_53) mw_X11_ones wm_RX11_264 ⟨by decide, by decide⟩ rfl (Nat.le_of_ble_eq_true rfl) rfl dX11_explains_53 ?_
      refine v_iload_n 2 C dX11_explains_56 rfl ?_
      refine v_icmp_eq 63 C dX11_explains_57 (by decide) (fun c => ?_) (fun c => ?_)
      · have h := if_t h c
        refine v_aload_n 0 C dX11_explains_63 rfl ?_
        refine v_iload_n 3 C dX11_explains_64 rfl ?_
        obtain ⟨r_65, s_65, e_65, h⟩ := bd_some h
        refine v_callVv [] C (t_X11_findFails e_65) mw_X11_findFails (at_74 _ _) rfl wm_RX11_244 ⟨by decide, by decide⟩ rfl (Nat.le_of_ble_eq_true rfl) rfl dX11_explains_65 ?_
        refine v_ldc C wc_RX11_233 dX11_explains_68 ?_
        refine v_istore (L1 := [(0, _), (1, _), (2, _), (3, _), (4, _)]) [1, 2, 3, 4, 0] C dX11_explains_70 (by decide) rfl ?_
        refine v_iconst C dX11_explains_72 ic_0 ?_
        refine v_istore (L1 := [(0, _), (1, _), (2, _), (3, _), (4, _), (5, _)]) [1, 2, 3, 4, 5, 0] C dX11_explains_73 (by decide) rfl ?_
        refine v_iconst C dX11_explains_75 ic_0 ?_
        refine v_istore (L1 := [(0, _), (1, _), (2, _), (3, _), (4, _), (5, _), (6, _)]) [1, 2, 3, 4, 5, 6, 0] C dX11_explains_76 (by decide) rfl ?_
        refine v_iconst C dX11_explains_78 ic_0 ?_
        refine v_istore (L1 := [(0, _), (1, _), (2, _), (3, _), (4, _), (5, _), (6, _), (7, _)]) [1, 2, 3, 4, 5, 6, 7, 0] C dX11_explains_79 (by decide) rfl ?_
        exact tl_X11_explains_81 C R1 hr35 hr42 FU _ _ _ _ _ _ _ _ h
      · have h := if_f h c
        refine v_goto 243 C dX11_explains_60 (by decide) ?_
        refine v_iinc (L1 := [(0, _), (1, _), (2, _), (3, _)]) 3 [1, 2, 3, 0] C dX11_explains_243 rfl ic_1 (by decide) rfl ?_
        refine v_goto 42 C dX11_explains_246 (by decide) ?_
        exact hr42 _ _ _ _ h
set_option maxRecDepth 4000 in
theorem tl_X11_explains_35  {X : CX} {fin : St} (C : Cx X "LitWindowsModel" cX11_explains 9 2 50) (R1 : RtV X cX11_explains fin)  : ∀ (n : Nat) (x1 : Int32) (x2 : Int32) (s : St), l_X11_explains_35  n x1 x2 s = some ((), fin) → V X s 35 [(0, .ref (wA (xw X) 74)), (1, .int x1), (2, .int x2)] [] := by
  intro n
  induction n with
  | zero => intro x1 x2 s h; exact none_no h
  | succ n hr35 =>
    intro x1 x2 s h
    have h : b_X11_explains_35  (l_X11_explains_35  n) x1 x2 s = some ((), fin) := h
    refine v_iload_n 2 C dX11_explains_35 rfl ?_
    refine v_iconst C dX11_explains_36 ic_3 ?_
    refine v_icmp_gt 255 C dX11_explains_37 (by decide) (fun c => ?_) (fun c => ?_)
    · have h := if_t h c
      exact v_vreth h R1 dX11_explains_255
    · have h := if_f h c
      refine v_iconst C dX11_explains_40 ic_0 ?_
      refine v_istore_n (L1 := [(0, _), (1, _), (2, _), (3, _)]) [1, 2, 3, 0] C dX11_explains_41 (by decide) rfl ?_
      exact tl_X11_explains_42 C R1 hr35 FU _ _ _ _ h
set_option maxRecDepth 4000 in
theorem t_X11_explains { s fin : _} (h : f_X11_explains  s = some ((), fin)) : Ct yX11_explains cX11_explains 9 none 2 50 (fun w => [.ref (wA w 74)]) s none fin := by
  refine Ct.ofV (by decide +kernel) (fun w => Nat.le_of_ble_eq_true rfl) (fun X C R1 => ?_)
  show V X s 0 [(0, .ref (wA (xw X) 74))] []
  have C : Cx X "LitWindowsModel" cX11_explains 9 2 50 := C
  refine v_aload_n 0 C dX11_explains_0 rfl ?_
  obtain ⟨r_1, s_1, e_1, h⟩ := bd_some h
  refine v_callVv [] C (t_X11_findFirstRows e_1) mw_X11_findFirstRows (at_74 _ _) rfl wm_RX11_258 ⟨by decide, by decide⟩ rfl (Nat.le_of_ble_eq_true rfl) rfl dX11_explains_1 ?_
  refine v_aload_n 0 C dX11_explains_4 rfl ?_
  refine g_74_32 C wf_RX11_227 dX11_explains_5 ?_
  refine v_if_ne 15 C dX11_explains_8 (by decide) (fun c => ?_) (fun c => ?_)
  · have h := if_f h c
    refine v_aload_n 0 C dX11_explains_15 rfl ?_
    refine g_74_34 C wf_RX11_73 dX11_explains_16 ?_
    refine v_aload_n 0 C dX11_explains_19 rfl ?_
    refine g_74_32 C wf_RX11_227 dX11_explains_20 ?_
    refine v_iconst C dX11_explains_23 ic_1 ?_
    refine v_isub C dX11_explains_24 ?_
    obtain ⟨hi, h⟩ := gi_some h
    refine ald_95 C hi dX11_explains_25 ?_
    refine v_istore_n (L1 := [(0, _), (1, _)]) [1, 0] C dX11_explains_26 (by decide) rfl ?_
    refine v_aload_n 0 C dX11_explains_27 rfl ?_
    refine v_ldc C wc_RX11_233 dX11_explains_28 ?_
    refine p_74_40 C wf_RX11_261 dX11_explains_30 ?_
    refine v_iconst C dX11_explains_33 ic_0 ?_
    refine v_istore_n (L1 := [(0, _), (1, _), (2, _)]) [1, 2, 0] C dX11_explains_34 (by decide) rfl ?_
    exact tl_X11_explains_35 C R1  FU _ _ _ h
  · have h := if_t h c
    refine v_iconst C dX11_explains_11 ic_0 ?_
    refine v_goto 26 C dX11_explains_12 (by decide) ?_
    refine v_istore_n (L1 := [(0, _), (1, _)]) [1, 0] C dX11_explains_26 (by decide) rfl ?_
    refine v_aload_n 0 C dX11_explains_27 rfl ?_
    refine v_ldc C wc_RX11_233 dX11_explains_28 ?_
    refine p_74_40 C wf_RX11_261 dX11_explains_30 ?_
    refine v_iconst C dX11_explains_33 ic_0 ?_
    refine v_istore_n (L1 := [(0, _), (1, _), (2, _)]) [1, 2, 0] C dX11_explains_34 (by decide) rfl ?_
    exact tl_X11_explains_35 C R1  FU _ _ _ h
set_option maxRecDepth 4000 in
theorem t_X11_explain {x1 s fin : _} {r : Int32} (h : f_X11_explain x1 s = some (r, fin)) : Ct yX11_explain cX11_explain 2 (some .int) 3 78 (fun w => [.ref (wA w 74), .int x1]) s (some (.int r)) fin := by
  refine Ct.ofI (by decide +kernel) (fun w => Nat.le_of_ble_eq_true rfl) (fun X C R1 => ?_)
  show V X s 0 [(0, .ref (wA (xw X) 74)), (1, .int x1)] []
  have C : Cx X "LitWindowsModel" cX11_explain 2 3 78 := C
  refine v_aload_n 0 C dX11_explain_0 rfl ?_
  refine g_74_18 C wf_RX11_215 dX11_explain_1 ?_
  refine v_if_eq 17 C dX11_explain_4 (by decide) (fun c => ?_) (fun c => ?_)
  · have h := if_t h c
    refine v_iconst C dX11_explain_17 ic_m1 ?_
    exact v_ireth h R1 rfl dX11_explain_18
  · have h := if_f h c
    refine v_iload_n 1 C dX11_explain_7 rfl ?_
    refine v_iconst C dX11_explain_8 ic_0 ?_
    refine v_bipush C dX11_explain_9 bp_7 ?_
    obtain ⟨r_11, s_11, e_11, h⟩ := bd_some h
    refine v_callSi [] C (t_X11_in e_11) mw_X11_in wm_RX11_98 ⟨by decide, by decide⟩ rfl (Nat.le_of_ble_eq_true rfl) rfl dX11_explain_11 ?_
    refine v_if_ne 19 C dX11_explain_14 (by decide) (fun c => ?_) (fun c => ?_)
    · have h := if_f h c
      refine v_aload_n 0 C dX11_explain_19 rfl ?_
      obtain ⟨r_20, s_20, e_20, h⟩ := bd_some h
      refine v_callVv [] C (t_X11_explains e_20) mw_X11_explains (at_74 _ _) rfl wm_RX11_292 ⟨by decide, by decide⟩ rfl (Nat.le_of_ble_eq_true rfl) rfl dX11_explain_20 ?_
      refine v_iload_n 1 C dX11_explain_23 rfl ?_
      by_cases c0 : x1 = 0
      · have h := if_t h c0
        refine v_tswI 68 C dX11_explain_24 (by rw [c0]; decide) (by rw [c0]; decide) (by rw [c0]; rfl) (by decide) ?_
        refine v_aload_n 0 C dX11_explain_68 rfl ?_
        refine g_74_40 C wf_RX11_261 dX11_explain_69 ?_
        exact v_ireth h R1 rfl dX11_explain_72
      have h := if_f h c0
      by_cases c1 : x1 = 1
      · have h := if_t h c1
        refine v_tswI 73 C dX11_explain_24 (by rw [c1]; decide) (by rw [c1]; decide) (by rw [c1]; rfl) (by decide) ?_
        refine v_aload_n 0 C dX11_explain_73 rfl ?_
        refine g_74_41 C wf_RX11_271 dX11_explain_74 ?_
        exact v_ireth h R1 rfl dX11_explain_77
      have h := if_f h c1
      by_cases c2 : x1 = 2
      · have h := if_t h c2
        refine v_tswI 78 C dX11_explain_24 (by rw [c2]; decide) (by rw [c2]; decide) (by rw [c2]; rfl) (by decide) ?_
        refine v_aload_n 0 C dX11_explain_78 rfl ?_
        refine g_74_42 C wf_RX11_274 dX11_explain_79 ?_
        exact v_ireth h R1 rfl dX11_explain_82
      have h := if_f h c2
      by_cases c3 : x1 = 3
      · have h := if_t h c3
        refine v_tswI 83 C dX11_explain_24 (by rw [c3]; decide) (by rw [c3]; decide) (by rw [c3]; rfl) (by decide) ?_
        refine v_aload_n 0 C dX11_explain_83 rfl ?_
        refine g_74_43 C wf_RX11_277 dX11_explain_84 ?_
        exact v_ireth h R1 rfl dX11_explain_87
      have h := if_f h c3
      by_cases c4 : x1 = 4
      · have h := if_t h c4
        refine v_tswI 88 C dX11_explain_24 (by rw [c4]; decide) (by rw [c4]; decide) (by rw [c4]; rfl) (by decide) ?_
        refine v_aload_n 0 C dX11_explain_88 rfl ?_
        refine g_74_44 C wf_RX11_280 dX11_explain_89 ?_
        exact v_ireth h R1 rfl dX11_explain_92
      have h := if_f h c4
      by_cases c5 : x1 = 5
      · have h := if_t h c5
        refine v_tswI 93 C dX11_explain_24 (by rw [c5]; decide) (by rw [c5]; decide) (by rw [c5]; rfl) (by decide) ?_
        refine v_aload_n 0 C dX11_explain_93 rfl ?_
        refine g_74_45 C wf_RX11_283 dX11_explain_94 ?_
        exact v_ireth h R1 rfl dX11_explain_97
      have h := if_f h c5
      by_cases c6 : x1 = 6
      · have h := if_t h c6
        refine v_tswI 98 C dX11_explain_24 (by rw [c6]; decide) (by rw [c6]; decide) (by rw [c6]; rfl) (by decide) ?_
        refine v_aload_n 0 C dX11_explain_98 rfl ?_
        refine g_74_46 C wf_RX11_286 dX11_explain_99 ?_
        exact v_ireth h R1 rfl dX11_explain_102
      have h := if_f h c6
      have q0 := lv_neT c0 (show (0 : Int32).toInt = 0 by decide)
      have q1 := lv_neT c1 (show (1 : Int32).toInt = 1 by decide)
      have q2 := lv_neT c2 (show (2 : Int32).toInt = 2 by decide)
      have q3 := lv_neT c3 (show (3 : Int32).toInt = 3 by decide)
      have q4 := lv_neT c4 (show (4 : Int32).toInt = 4 by decide)
      have q5 := lv_neT c5 (show (5 : Int32).toInt = 5 by decide)
      have q6 := lv_neT c6 (show (6 : Int32).toInt = 6 by decide)
      refine v_tswO 103 C dX11_explain_24 (by omega) (by decide) ?_
      refine v_aload_n 0 C dX11_explain_103 rfl ?_
      refine g_74_47 C wf_RX11_289 dX11_explain_104 ?_
      exact v_ireth h R1 rfl dX11_explain_107
    · have h := if_t h c
      refine v_iconst C dX11_explain_17 ic_m1 ?_
      exact v_ireth h R1 rfl dX11_explain_18
set_option maxRecDepth 4000 in
theorem t_X10_altered {x1 x2 s fin : _} {r : Int32} (h : f_X10_altered x1 x2 s = some (r, fin)) : Ct yX10_altered cX10_altered 3 (some .int) 5 126 (fun w => [.ref (wA w 0), .int x1, .int x2]) s (some (.int r)) fin := by
  refine Ct.ofI (by decide +kernel) (fun w => Nat.le_of_ble_eq_true rfl) (fun X C R1 => ?_)
  show V X s 0 [(0, .ref (wA (xw X) 0)), (1, .int x1), (2, .int x2)] []
  have C : Cx X "LitWindows" cX10_altered 3 5 126 := C
  refine v_iload_n 1 C dX10_altered_0 rfl ?_
  refine v_if_lt 22 C dX10_altered_1 (by decide) (fun c => ?_) (fun c => ?_)
  · have h := if_t h c
    refine v_iconst C dX10_altered_22 ic_m1 ?_
    exact v_ireth h R1 rfl dX10_altered_23
  · have h := if_f h c
    refine v_iload_n 1 C dX10_altered_4 rfl ?_
    refine v_aload_n 0 C dX10_altered_5 rfl ?_
    refine g_0_6 C wf_RX10_56 dX10_altered_6 ?_
    refine g_35_2 C wf_RX10_110 dX10_altered_9 ?_
    refine v_icmp_ge 22 C dX10_altered_12 (by decide) (fun c => ?_) (fun c => ?_)
    · have h := if_t h c
      refine v_iconst C dX10_altered_22 ic_m1 ?_
      exact v_ireth h R1 rfl dX10_altered_23
    · have h := if_f h c
      refine v_iload_n 2 C dX10_altered_15 rfl ?_
      obtain ⟨r_16, s_16, e_16, h⟩ := bd_some h
      refine v_callSi [] C (t_X10_isSecond e_16) mw_X10_isSecond wm_RX10_165 ⟨by decide, by decide⟩ rfl (Nat.le_of_ble_eq_true rfl) rfl dX10_altered_16 ?_
      refine v_if_ne 24 C dX10_altered_19 (by decide) (fun c => ?_) (fun c => ?_)
      · have h := if_f h c
        refine v_aload_n 0 C dX10_altered_24 rfl ?_
        refine g_0_7 C wf_RX10_65 dX10_altered_25 ?_
        refine v_iload_n 1 C dX10_altered_28 rfl ?_
        refine v_iload_n 2 C dX10_altered_29 rfl ?_
        obtain ⟨r_30, s_30, e_30, h⟩ := bd_some h
        refine v_callVv [] C (t_X1_search e_30) mw_X1_search (at_38 _ _) rfl wm_RX10_185 ⟨by decide, by decide⟩ rfl (Nat.le_of_ble_eq_true rfl) rfl dX10_altered_30 ?_
        refine v_aload_n 0 C dX10_altered_33 rfl ?_
        refine g_0_7 C wf_RX10_65 dX10_altered_34 ?_
        refine g_38_10 C wf_RX10_188 dX10_altered_37 ?_
        exact v_ireth h R1 rfl dX10_altered_40
      · have h := if_t h c
        refine v_iconst C dX10_altered_22 ic_m1 ?_
        exact v_ireth h R1 rfl dX10_altered_23
set_option maxRecDepth 4000 in
theorem t_X11_altered {x1 x2 s fin : _} {r : Int32} (h : f_X11_altered x1 x2 s = some (r, fin)) : Ct yX11_altered cX11_altered 4 (some .int) 3 78 (fun w => [.ref (wA w 74), .int x1, .int x2]) s (some (.int r)) fin := by
  refine Ct.ofI (by decide +kernel) (fun w => Nat.le_of_ble_eq_true rfl) (fun X C R1 => ?_)
  show V X s 0 [(0, .ref (wA (xw X) 74)), (1, .int x1), (2, .int x2)] []
  have C : Cx X "LitWindowsModel" cX11_altered 4 3 78 := C
  refine v_iload_n 1 C dX11_altered_0 rfl ?_
  refine v_iconst C dX11_altered_1 ic_0 ?_
  refine v_aload_n 0 C dX11_altered_2 rfl ?_
  refine g_74_32 C wf_RX11_227 dX11_altered_3 ?_
  refine v_iconst C dX11_altered_6 ic_1 ?_
  refine v_isub C dX11_altered_7 ?_
  obtain ⟨r_8, s_8, e_8, h⟩ := bd_some h
  refine v_callSi [] C (t_X11_in e_8) mw_X11_in wm_RX11_98 ⟨by decide, by decide⟩ rfl (Nat.le_of_ble_eq_true rfl) rfl dX11_altered_8 ?_
  refine v_if_eq 25 C dX11_altered_11 (by decide) (fun c => ?_) (fun c => ?_)
  · have h := if_t h c
    refine v_iconst C dX11_altered_25 ic_m1 ?_
    exact v_ireth h R1 rfl dX11_altered_26
  · have h := if_f h c
    refine v_iload_n 2 C dX11_altered_14 rfl ?_
    refine v_iconst C dX11_altered_15 ic_0 ?_
    refine v_sipush C dX11_altered_16 sp_999 ?_
    obtain ⟨r_19, s_19, e_19, h⟩ := bd_some h
    refine v_callSi [] C (t_X11_in e_19) mw_X11_in wm_RX11_98 ⟨by decide, by decide⟩ rfl (Nat.le_of_ble_eq_true rfl) rfl dX11_altered_19 ?_
    refine v_if_ne 27 C dX11_altered_22 (by decide) (fun c => ?_) (fun c => ?_)
    · have h := if_f h c
      refine v_aload_n 0 C dX11_altered_27 rfl ?_
      refine g_74_34 C wf_RX11_73 dX11_altered_28 ?_
      refine v_iload_n 1 C dX11_altered_31 rfl ?_
      obtain ⟨hi, h⟩ := gi_some h
      refine ald_95 C hi dX11_altered_32 ?_
      refine v_istore_n (L1 := [(0, _), (1, _), (2, _), (3, _)]) [1, 2, 3, 0] C dX11_altered_33 (by decide) rfl ?_
      refine v_aload_n 0 C dX11_altered_34 rfl ?_
      refine g_74_34 C wf_RX11_73 dX11_altered_35 ?_
      refine v_iload_n 1 C dX11_altered_38 rfl ?_
      refine v_iload_n 2 C dX11_altered_39 rfl ?_
      obtain ⟨hi, h⟩ := gi_some h
      refine ast_95 C hi dX11_altered_40 ?_
      refine v_aload_n 0 C dX11_altered_41 rfl ?_
      obtain ⟨r_42, s_42, e_42, h⟩ := bd_some h
      refine v_callVv [] C (t_X11_explains e_42) mw_X11_explains (at_74 _ _) rfl wm_RX11_292 ⟨by decide, by decide⟩ rfl (Nat.le_of_ble_eq_true rfl) rfl dX11_altered_42 ?_
      refine v_aload_n 0 C dX11_altered_45 rfl ?_
      refine g_74_34 C wf_RX11_73 dX11_altered_46 ?_
      refine v_iload_n 1 C dX11_altered_49 rfl ?_
      refine v_iload_n 3 C dX11_altered_50 rfl ?_
      obtain ⟨hi, h⟩ := gi_some h
      refine ast_95 C hi dX11_altered_51 ?_
      refine v_aload_n 0 C dX11_altered_52 rfl ?_
      refine g_74_40 C wf_RX11_261 dX11_altered_53 ?_
      exact v_ireth h R1 rfl dX11_altered_56
    · have h := if_t h c
      refine v_iconst C dX11_altered_25 ic_m1 ?_
      exact v_ireth h R1 rfl dX11_altered_26
set_option maxRecDepth 4000 in
theorem t_X10_rest {x1 x2 s fin : _} {r : Int32} (h : f_X10_rest x1 x2 s = some (r, fin)) : Ct yX10_rest cX10_rest 3 (some .boolean) 1 21 (fun w => [.ref (wA w 0), .int x1, .int x2]) s (some (.int r)) fin := by
  refine Ct.ofI (by decide +kernel) (fun w => Nat.le_of_ble_eq_true rfl) (fun X C R1 => ?_)
  show V X s 0 [(0, .ref (wA (xw X) 0)), (1, .int x1), (2, .int x2)] []
  have C : Cx X "LitWindows" cX10_rest 3 1 21 := C
  refine v_iload_n 1 C dX10_rest_0 rfl ?_
  refine v_if_lt 30 C dX10_rest_1 (by decide) (fun c => ?_) (fun c => ?_)
  · have h := if_t h c
    refine v_iconst C dX10_rest_30 ic_0 ?_
    exact v_ireth h R1 rfl dX10_rest_31
  · have h := if_f h c
    refine v_iload_n 1 C dX10_rest_4 rfl ?_
    refine v_aload_n 0 C dX10_rest_5 rfl ?_
    refine g_0_2 C wf_RX10_28 dX10_rest_6 ?_
    refine g_8_3 C wf_RX10_212 dX10_rest_9 ?_
    refine v_icmp_ge 30 C dX10_rest_12 (by decide) (fun c => ?_) (fun c => ?_)
    · have h := if_t h c
      refine v_iconst C dX10_rest_30 ic_0 ?_
      exact v_ireth h R1 rfl dX10_rest_31
    · have h := if_f h c
      refine v_aload_n 0 C dX10_rest_15 rfl ?_
      refine g_0_5 C wf_RX10_49 dX10_rest_16 ?_
      refine g_32_4 C wf_RX10_215 dX10_rest_19 ?_
      refine v_iload_n 1 C dX10_rest_22 rfl ?_
      obtain ⟨r_23, s_23, e_23, h⟩ := bd_some h
      refine v_callSi [] C (t_X10_hasBit e_23) mw_X10_hasBit wm_RX10_158 ⟨by decide, by decide⟩ rfl (Nat.le_of_ble_eq_true rfl) rfl dX10_rest_23 ?_
      refine v_iload_n 2 C dX10_rest_26 rfl ?_
      refine v_icmp_ne 32 C dX10_rest_27 (by decide) (fun c => ?_) (fun c => ?_)
      · have h := if_f h c
        refine v_aload_n 0 C dX10_rest_32 rfl ?_
        refine g_0_5 C wf_RX10_49 dX10_rest_33 ?_
        refine v_dupr C dX10_rest_36 ?_
        refine g_32_4 C wf_RX10_215 dX10_rest_37 ?_
        refine v_iconst C dX10_rest_40 ic_1 ?_
        refine v_iload_n 1 C dX10_rest_41 rfl ?_
        refine v_ishl C dX10_rest_42 ?_
        refine v_ixor C dX10_rest_43 ?_
        refine p_32_4 C wf_RX10_215 dX10_rest_44 ?_
        refine v_iconst C dX10_rest_47 ic_1 ?_
        exact v_ireth h R1 rfl dX10_rest_48
      · have h := if_t h c
        refine v_iconst C dX10_rest_30 ic_0 ?_
        exact v_ireth h R1 rfl dX10_rest_31
set_option maxRecDepth 4000 in
theorem t_X11_rest {x1 x2 s fin : _} {r : Int32} (h : f_X11_rest x1 x2 s = some (r, fin)) : Ct yX11_rest cX11_rest 3 (some .boolean) 1 22 (fun w => [.ref (wA w 74), .int x1, .int x2]) s (some (.int r)) fin := by
  refine Ct.ofI (by decide +kernel) (fun w => Nat.le_of_ble_eq_true rfl) (fun X C R1 => ?_)
  show V X s 0 [(0, .ref (wA (xw X) 74)), (1, .int x1), (2, .int x2)] []
  have C : Cx X "LitWindowsModel" cX11_rest 3 1 22 := C
  refine v_iload_n 1 C dX11_rest_0 rfl ?_
  refine v_iconst C dX11_rest_1 ic_0 ?_
  refine v_aload_n 0 C dX11_rest_2 rfl ?_
  refine g_74_29 C wf_RX11_224 dX11_rest_3 ?_
  refine v_iconst C dX11_rest_6 ic_1 ?_
  refine v_isub C dX11_rest_7 ?_
  obtain ⟨r_8, s_8, e_8, h⟩ := bd_some h
  refine v_callSi [] C (t_X11_in e_8) mw_X11_in wm_RX11_98 ⟨by decide, by decide⟩ rfl (Nat.le_of_ble_eq_true rfl) rfl dX11_rest_8 ?_
  refine v_if_eq 24 C dX11_rest_11 (by decide) (fun c => ?_) (fun c => ?_)
  · have h := if_t h c
    refine v_iconst C dX11_rest_24 ic_0 ?_
    exact v_ireth h R1 rfl dX11_rest_25
  · have h := if_f h c
    refine v_aload_n 0 C dX11_rest_14 rfl ?_
    refine g_74_31 C wf_RX11_67 dX11_rest_15 ?_
    refine v_iload_n 1 C dX11_rest_18 rfl ?_
    obtain ⟨hi, h⟩ := gi_some h
    refine ald_93 C hi dX11_rest_19 ?_
    refine v_iload_n 2 C dX11_rest_20 rfl ?_
    refine v_icmp_ne 26 C dX11_rest_21 (by decide) (fun c => ?_) (fun c => ?_)
    · have h := if_f h c
      refine v_aload_n 0 C dX11_rest_26 rfl ?_
      refine g_74_31 C wf_RX11_67 dX11_rest_27 ?_
      refine v_iload_n 1 C dX11_rest_30 rfl ?_
      refine v_iload_n 2 C dX11_rest_31 rfl ?_
      obtain ⟨hi, h⟩ := gi_some h
      refine ast_93 C hi dX11_rest_32 ?_
      refine v_iconst C dX11_rest_33 ic_1 ?_
      exact v_ireth h R1 rfl dX11_rest_34
    · have h := if_t h c
      refine v_iconst C dX11_rest_24 ic_0 ?_
      exact v_ireth h R1 rfl dX11_rest_25
set_option maxRecDepth 4000 in
theorem t_X10_till {x1 s fin : _} {r : Int32} (h : f_X10_till x1 s = some (r, fin)) : Ct yX10_till cX10_till 2 (some .boolean) 0 0 (fun w => [.ref (wA w 0), .int x1]) s (some (.int r)) fin := by
  refine Ct.ofI (by decide +kernel) (fun w => Nat.le_of_ble_eq_true rfl) (fun X C R1 => ?_)
  show V X s 0 [(0, .ref (wA (xw X) 0)), (1, .int x1)] []
  have C : Cx X "LitWindows" cX10_till 2 0 0 := C
  refine v_iload_n 1 C dX10_till_0 rfl ?_
  refine v_iconst C dX10_till_1 ic_1 ?_
  refine v_icmp_lt 12 C dX10_till_2 (by decide) (fun c => ?_) (fun c => ?_)
  · have h := if_t h c
    refine v_iconst C dX10_till_12 ic_0 ?_
    exact v_ireth h R1 rfl dX10_till_13
  · have h := if_f h c
    refine v_iload_n 1 C dX10_till_5 rfl ?_
    refine v_sipush C dX10_till_6 sp_600 ?_
    refine v_icmp_le 14 C dX10_till_9 (by decide) (fun c => ?_) (fun c => ?_)
    · have h := if_t h c
      refine v_aload_n 0 C dX10_till_14 rfl ?_
      refine g_0_8 C wf_RX10_74 dX10_till_15 ?_
      refine v_iload_n 1 C dX10_till_18 rfl ?_
      refine p_42_4 C wf_RX10_218 dX10_till_19 ?_
      refine v_iconst C dX10_till_22 ic_1 ?_
      exact v_ireth h R1 rfl dX10_till_23
    · have h := if_f h c
      refine v_iconst C dX10_till_12 ic_0 ?_
      exact v_ireth h R1 rfl dX10_till_13
set_option maxRecDepth 4000 in
theorem t_X11_till {x1 s fin : _} {r : Int32} (h : f_X11_till x1 s = some (r, fin)) : Ct yX11_till cX11_till 2 (some .boolean) 1 22 (fun w => [.ref (wA w 74), .int x1]) s (some (.int r)) fin := by
  refine Ct.ofI (by decide +kernel) (fun w => Nat.le_of_ble_eq_true rfl) (fun X C R1 => ?_)
  show V X s 0 [(0, .ref (wA (xw X) 74)), (1, .int x1)] []
  have C : Cx X "LitWindowsModel" cX11_till 2 1 22 := C
  refine v_iload_n 1 C dX11_till_0 rfl ?_
  refine v_iconst C dX11_till_1 ic_1 ?_
  refine v_sipush C dX11_till_2 sp_600 ?_
  obtain ⟨r_5, s_5, e_5, h⟩ := bd_some h
  refine v_callSi [] C (t_X11_in e_5) mw_X11_in wm_RX11_98 ⟨by decide, by decide⟩ rfl (Nat.le_of_ble_eq_true rfl) rfl dX11_till_5 ?_
  refine v_if_ne 13 C dX11_till_8 (by decide) (fun c => ?_) (fun c => ?_)
  · have h := if_f h c
    refine v_aload_n 0 C dX11_till_13 rfl ?_
    refine v_iload_n 1 C dX11_till_14 rfl ?_
    refine p_74_36 C wf_RX11_76 dX11_till_15 ?_
    refine v_iconst C dX11_till_18 ic_1 ?_
    exact v_ireth h R1 rfl dX11_till_19
  · have h := if_t h c
    refine v_iconst C dX11_till_11 ic_0 ?_
    exact v_ireth h R1 rfl dX11_till_12
set_option maxRecDepth 4000 in
theorem tl_X2_litAt_4  {X : CX} {r : Int32} {fin : St} (C : Cx X "LitWindows$Lamps" cX2_litAt 4 0 0) (R1 : RtI X cX2_litAt .int r fin)  : ∀ (n : Nat) (x1 : Int32) (x2 : Int32) (x3 : Int32) (s : St), l_X2_litAt_4  n x1 x2 x3 s = some (r, fin) → V X s 4 [(0, .ref (wA (xw X) 32)), (1, .int x1), (2, .int x2), (3, .int x3)] [] := by
  intro n
  induction n with
  | zero => intro x1 x2 x3 s h; exact none_no h
  | succ n hr4 =>
    intro x1 x2 x3 s h
    have h : b_X2_litAt_4  (l_X2_litAt_4  n) x1 x2 x3 s = some (r, fin) := h
    refine v_iload_n 3 C dX2_litAt_4 rfl ?_
    refine v_aload_n 0 C dX2_litAt_5 rfl ?_
    refine g_32_0 C wf_RX2_18 dX2_litAt_6 ?_
    refine g_8_2 C wf_RX2_42 dX2_litAt_9 ?_
    refine v_icmp_ge 37 C dX2_litAt_12 (by decide) (fun c => ?_) (fun c => ?_)
    · have h := if_t h c
      refine v_iload_n 2 C dX2_litAt_37 rfl ?_
      exact v_ireth h R1 rfl dX2_litAt_38
    · have h := if_f h c
      refine v_aload_n 0 C dX2_litAt_15 rfl ?_
      refine g_32_3 C wf_RX2_15 dX2_litAt_16 ?_
      refine v_iload_n 3 C dX2_litAt_19 rfl ?_
      obtain ⟨hi, h⟩ := gi_some h
      refine ald_34 C hi dX2_litAt_20 ?_
      refine v_iload_n 1 C dX2_litAt_21 rfl ?_
      refine v_icmp_gt 31 C dX2_litAt_22 (by decide) (fun c => ?_) (fun c => ?_)
      · have h := if_t h c
        refine v_iinc (L1 := [(0, _), (1, _), (2, _), (3, _)]) 3 [1, 2, 3, 0] C dX2_litAt_31 rfl ic_1 (by decide) rfl ?_
        refine v_goto 4 C dX2_litAt_34 (by decide) ?_
        exact hr4 _ _ _ _ h
      · have h := if_f h c
        refine v_iload_n 2 C dX2_litAt_25 rfl ?_
        refine v_iconst C dX2_litAt_26 ic_1 ?_
        refine v_iload_n 3 C dX2_litAt_27 rfl ?_
        refine v_ishl C dX2_litAt_28 ?_
        refine v_ior C dX2_litAt_29 ?_
        refine v_istore_n (L1 := [(0, _), (1, _), (2, _), (3, _)]) [1, 2, 0, 3] C dX2_litAt_30 (by decide) rfl ?_
        refine v_iinc (L1 := [(0, _), (1, _), (2, _), (3, _)]) 3 [1, 2, 3, 0] C dX2_litAt_31 rfl ic_1 (by decide) rfl ?_
        refine v_goto 4 C dX2_litAt_34 (by decide) ?_
        exact hr4 _ _ _ _ h
set_option maxRecDepth 4000 in
theorem t_X2_litAt {x1 s fin : _} {r : Int32} (h : f_X2_litAt x1 s = some (r, fin)) : Ct yX2_litAt cX2_litAt 4 (some .int) 0 0 (fun w => [.ref (wA w 32), .int x1]) s (some (.int r)) fin := by
  refine Ct.ofI (by decide +kernel) (fun w => Nat.le_of_ble_eq_true rfl) (fun X C R1 => ?_)
  show V X s 0 [(0, .ref (wA (xw X) 32)), (1, .int x1)] []
  have C : Cx X "LitWindows$Lamps" cX2_litAt 4 0 0 := C
  refine v_iconst C dX2_litAt_0 ic_0 ?_
  refine v_istore_n (L1 := [(0, _), (1, _), (2, _)]) [1, 2, 0] C dX2_litAt_1 (by decide) rfl ?_
  refine v_iconst C dX2_litAt_2 ic_0 ?_
  refine v_istore_n (L1 := [(0, _), (1, _), (2, _), (3, _)]) [1, 2, 3, 0] C dX2_litAt_3 (by decide) rfl ?_
  exact tl_X2_litAt_4 C R1  FU _ _ _ _ h
set_option maxRecDepth 4000 in
theorem tj_X2_shownOf_70 {rec5 : Int32 → Int32 → Int32 → Int32 → St → Option (Int32 × St)} {X : CX} {r : Int32} {fin : St} (C : Cx X "LitWindows$Lamps" cX2_shownOf 6 1 21) (R1 : RtI X cX2_shownOf .int r fin) (hr5 : ∀ (x1 : Int32) (x2 : Int32) (x3 : Int32) (x4 : Int32) (s : St), rec5 x1 x2 x3 x4 s = some (r, fin) → V X s 5 [(0, .ref (wA (xw X) 32)), (1, .int x1), (2, .int x2), (3, .int x3), (4, .int x4)] []) {x1 x2 x3 x4 t0 s : _} (h : j_X2_shownOf_70 rec5 x1 x2 x3 x4 t0 s = some (r, fin)) : V X s 70 [(0, .ref (wA (xw X) 32)), (1, .int x1), (2, .int x2), (3, .int x3), (4, .int x4)] [.int t0] := by
  refine v_istore (L1 := [(0, _), (1, _), (2, _), (3, _), (4, _), (5, _)]) [1, 2, 3, 4, 5, 0] C dX2_shownOf_70 (by decide) rfl ?_
  refine v_iload 5 C dX2_shownOf_72 rfl ?_
  refine v_if_eq 101 C dX2_shownOf_74 (by decide) (fun c => ?_) (fun c => ?_)
  · have h := if_t h c
    refine v_iinc (L1 := [(0, _), (1, _), (2, _), (3, _), (4, _), (5, _)]) 4 [1, 2, 3, 4, 0, 5] C dX2_shownOf_101 rfl ic_1 (by decide) rfl ?_
    refine v_goto 5 C dX2_shownOf_104 (by decide) ?_
    refine v_sub [0, 1, 2, 3, 4] (L1 := [(0, _), (1, _), (2, _), (3, _), (4, _)]) rfl ?_
    exact hr5 _ _ _ _ _ h
  · have h := if_f h c
    refine v_iload_n 2 C dX2_shownOf_77 rfl ?_
    refine v_iload 4 C dX2_shownOf_78 rfl ?_
    obtain ⟨r_80, s_80, e_80, h⟩ := bd_some h
    refine v_callNi [] C (t_X10_hasBit e_80) mw_X10_hasBit (by decide) ⟨by decide, by decide⟩ rfl (Nat.le_of_ble_eq_true rfl) rfl dX2_shownOf_80 ?_
    refine v_if_ne 101 C dX2_shownOf_83 (by decide) (fun c => ?_) (fun c => ?_)
    · have h := if_f h c
      refine v_iinc (L1 := [(0, _), (1, _), (2, _), (3, _), (4, _), (5, _)]) 4 [1, 2, 3, 4, 0, 5] C dX2_shownOf_101 rfl ic_1 (by decide) rfl ?_
      refine v_goto 5 C dX2_shownOf_104 (by decide) ?_
      refine v_sub [0, 1, 2, 3, 4] (L1 := [(0, _), (1, _), (2, _), (3, _), (4, _)]) rfl ?_
      exact hr5 _ _ _ _ _ h
    · have h := if_t h c
      refine v_iload_n 3 C dX2_shownOf_86 rfl ?_
      refine v_iconst C dX2_shownOf_87 ic_1 ?_
      refine v_aload_n 0 C dX2_shownOf_88 rfl ?_
      refine g_32_0 C wf_RX2_18 dX2_shownOf_89 ?_
      refine g_8_10 C wf_RX2_65 dX2_shownOf_92 ?_
      refine v_iload 4 C dX2_shownOf_95 rfl ?_
      obtain ⟨hi, h⟩ := gi_some h
      refine ald_15 C hi dX2_shownOf_97 ?_
      refine v_ishl C dX2_shownOf_98 ?_
      refine v_ior C dX2_shownOf_99 ?_
      refine v_istore_n (L1 := [(0, _), (1, _), (2, _), (3, _), (4, _), (5, _)]) [1, 2, 3, 0, 4, 5] C dX2_shownOf_100 (by decide) rfl ?_
      refine v_iinc (L1 := [(0, _), (1, _), (2, _), (3, _), (4, _), (5, _)]) 4 [1, 2, 3, 4, 0, 5] C dX2_shownOf_101 rfl ic_1 (by decide) rfl ?_
      refine v_goto 5 C dX2_shownOf_104 (by decide) ?_
      refine v_sub [0, 1, 2, 3, 4] (L1 := [(0, _), (1, _), (2, _), (3, _), (4, _)]) rfl ?_
      exact hr5 _ _ _ _ _ h
set_option maxRecDepth 4000 in
theorem tl_X2_shownOf_5  {X : CX} {r : Int32} {fin : St} (C : Cx X "LitWindows$Lamps" cX2_shownOf 6 1 21) (R1 : RtI X cX2_shownOf .int r fin)  : ∀ (n : Nat) (x1 : Int32) (x2 : Int32) (x3 : Int32) (x4 : Int32) (s : St), l_X2_shownOf_5  n x1 x2 x3 x4 s = some (r, fin) → V X s 5 [(0, .ref (wA (xw X) 32)), (1, .int x1), (2, .int x2), (3, .int x3), (4, .int x4)] [] := by
  intro n
  induction n with
  | zero => intro x1 x2 x3 x4 s h; exact none_no h
  | succ n hr5 =>
    intro x1 x2 x3 x4 s h
    have h : b_X2_shownOf_5  (l_X2_shownOf_5  n) x1 x2 x3 x4 s = some (r, fin) := h
    refine v_iload 4 C dX2_shownOf_5 rfl ?_
    refine v_aload_n 0 C dX2_shownOf_7 rfl ?_
    refine g_32_0 C wf_RX2_18 dX2_shownOf_8 ?_
    refine g_8_3 C wf_RX2_52 dX2_shownOf_11 ?_
    refine v_icmp_ge 107 C dX2_shownOf_14 (by decide) (fun c => ?_) (fun c => ?_)
    · have h := if_t h c
      refine v_iload_n 1 C dX2_shownOf_107 rfl ?_
      refine v_iload_n 3 C dX2_shownOf_108 rfl ?_
      refine v_iconst C dX2_shownOf_109 ic_m1 ?_
      refine v_ixor C dX2_shownOf_110 ?_
      refine v_iand C dX2_shownOf_111 ?_
      exact v_ireth h R1 rfl dX2_shownOf_112
    · have h := if_f h c
      refine v_iload_n 1 C dX2_shownOf_17 rfl ?_
      refine v_aload_n 0 C dX2_shownOf_18 rfl ?_
      refine g_32_0 C wf_RX2_18 dX2_shownOf_19 ?_
      refine g_8_11 C wf_RX2_55 dX2_shownOf_22 ?_
      refine v_iload 4 C dX2_shownOf_25 rfl ?_
      obtain ⟨hi, h⟩ := gi_some h
      refine ald_16 C hi dX2_shownOf_27 ?_
      obtain ⟨r_28, s_28, e_28, h⟩ := bd_some h
      refine v_callNi [] C (t_X10_hasBit e_28) mw_X10_hasBit (by decide) ⟨by decide, by decide⟩ rfl (Nat.le_of_ble_eq_true rfl) rfl dX2_shownOf_28 ?_
      refine v_if_eq 69 C dX2_shownOf_31 (by decide) (fun c => ?_) (fun c => ?_)
      · have h := if_t h c
        refine v_iconst C dX2_shownOf_69 ic_0 ?_
        exact tj_X2_shownOf_70 C R1 hr5 h
      · have h := if_f h c
        refine v_aload_n 0 C dX2_shownOf_34 rfl ?_
        refine g_32_0 C wf_RX2_18 dX2_shownOf_35 ?_
        refine g_8_12 C wf_RX2_62 dX2_shownOf_38 ?_
        refine v_iload 4 C dX2_shownOf_41 rfl ?_
        obtain ⟨hi, h⟩ := gi_some h
        refine ald_17 C hi dX2_shownOf_43 ?_
        refine v_iconst C dX2_shownOf_44 ic_m1 ?_
        refine v_icmp_eq 65 C dX2_shownOf_45 (by decide) (fun c => ?_) (fun c => ?_)
        · have h := if_t h c
          refine v_iconst C dX2_shownOf_65 ic_1 ?_
          refine v_goto 70 C dX2_shownOf_66 (by decide) ?_
          exact tj_X2_shownOf_70 C R1 hr5 h
        · have h := if_f h c
          refine v_iload_n 1 C dX2_shownOf_48 rfl ?_
          refine v_aload_n 0 C dX2_shownOf_49 rfl ?_
          refine g_32_0 C wf_RX2_18 dX2_shownOf_50 ?_
          refine g_8_12 C wf_RX2_62 dX2_shownOf_53 ?_
          refine v_iload 4 C dX2_shownOf_56 rfl ?_
          obtain ⟨hi, h⟩ := gi_some h
          refine ald_17 C hi dX2_shownOf_58 ?_
          obtain ⟨r_59, s_59, e_59, h⟩ := bd_some h
          refine v_callNi [] C (t_X10_hasBit e_59) mw_X10_hasBit (by decide) ⟨by decide, by decide⟩ rfl (Nat.le_of_ble_eq_true rfl) rfl dX2_shownOf_59 ?_
          refine v_if_ne 69 C dX2_shownOf_62 (by decide) (fun c => ?_) (fun c => ?_)
          · have h := if_f h c
            refine v_iconst C dX2_shownOf_69 ic_0 ?_
            exact tj_X2_shownOf_70 C R1 hr5 h
          · have h := if_t h c
            refine v_iconst C dX2_shownOf_65 ic_1 ?_
            refine v_goto 70 C dX2_shownOf_66 (by decide) ?_
            exact tj_X2_shownOf_70 C R1 hr5 h
set_option maxRecDepth 4000 in
theorem t_X2_shownOf {x1 x2 s fin : _} {r : Int32} (h : f_X2_shownOf x1 x2 s = some (r, fin)) : Ct yX2_shownOf cX2_shownOf 6 (some .int) 1 21 (fun w => [.ref (wA w 32), .int x1, .int x2]) s (some (.int r)) fin := by
  refine Ct.ofI (by decide +kernel) (fun w => Nat.le_of_ble_eq_true rfl) (fun X C R1 => ?_)
  show V X s 0 [(0, .ref (wA (xw X) 32)), (1, .int x1), (2, .int x2)] []
  have C : Cx X "LitWindows$Lamps" cX2_shownOf 6 1 21 := C
  refine v_iconst C dX2_shownOf_0 ic_0 ?_
  refine v_istore_n (L1 := [(0, _), (1, _), (2, _), (3, _)]) [1, 2, 3, 0] C dX2_shownOf_1 (by decide) rfl ?_
  refine v_iconst C dX2_shownOf_2 ic_0 ?_
  refine v_istore (L1 := [(0, _), (1, _), (2, _), (3, _), (4, _)]) [1, 2, 3, 4, 0] C dX2_shownOf_3 (by decide) rfl ?_
  exact tl_X2_shownOf_5 C R1  FU _ _ _ _ _ h
set_option maxRecDepth 4000 in
theorem t_X10_board {x1 x2 x3 s fin : _} {r : Int32} (h : f_X10_board x1 x2 x3 s = some (r, fin)) : Ct yX10_board cX10_board 5 (some .int) 4 100 (fun w => [.ref (wA w 0), .int x1, .int x2, .int x3]) s (some (.int r)) fin := by
  refine Ct.ofI (by decide +kernel) (fun w => Nat.le_of_ble_eq_true rfl) (fun X C R1 => ?_)
  show V X s 0 [(0, .ref (wA (xw X) 0)), (1, .int x1), (2, .int x2), (3, .int x3)] []
  have C : Cx X "LitWindows" cX10_board 5 4 100 := C
  refine v_aload_n 0 C dX10_board_0 rfl ?_
  refine v_iload_n 1 C dX10_board_1 rfl ?_
  obtain ⟨r_2, s_2, e_2, h⟩ := bd_some h
  refine v_callVi [] C (t_X10_isHeap e_2) mw_X10_isHeap (at_0 _ _) rfl wm_RX10_133 ⟨by decide, by decide⟩ rfl (Nat.le_of_ble_eq_true rfl) rfl dX10_board_2 ?_
  refine v_if_eq 24 C dX10_board_5 (by decide) (fun c => ?_) (fun c => ?_)
  · have h := if_t h c
    refine v_iconst C dX10_board_24 ic_m1 ?_
    exact v_ireth h R1 rfl dX10_board_25
  · have h := if_f h c
    refine v_iload_n 2 C dX10_board_8 rfl ?_
    obtain ⟨r_9, s_9, e_9, h⟩ := bd_some h
    refine v_callSi [] C (t_X10_isSecond e_9) mw_X10_isSecond wm_RX10_165 ⟨by decide, by decide⟩ rfl (Nat.le_of_ble_eq_true rfl) rfl dX10_board_9 ?_
    refine v_if_eq 24 C dX10_board_12 (by decide) (fun c => ?_) (fun c => ?_)
    · have h := if_t h c
      refine v_iconst C dX10_board_24 ic_m1 ?_
      exact v_ireth h R1 rfl dX10_board_25
    · have h := if_f h c
      refine v_iload_n 3 C dX10_board_15 rfl ?_
      refine v_if_lt 24 C dX10_board_16 (by decide) (fun c => ?_) (fun c => ?_)
      · have h := if_t h c
        refine v_iconst C dX10_board_24 ic_m1 ?_
        exact v_ireth h R1 rfl dX10_board_25
      · have h := if_f h c
        refine v_iload_n 3 C dX10_board_19 rfl ?_
        refine v_iconst C dX10_board_20 ic_1 ?_
        refine v_icmp_le 26 C dX10_board_21 (by decide) (fun c => ?_) (fun c => ?_)
        · have h := if_t h c
          refine v_aload_n 0 C dX10_board_26 rfl ?_
          refine g_0_5 C wf_RX10_49 dX10_board_27 ?_
          refine v_iload_n 1 C dX10_board_30 rfl ?_
          obtain ⟨r_31, s_31, e_31, h⟩ := bd_some h
          refine v_callVv [] C (t_X2_light e_31) mw_X2_light (at_32 _ _) rfl wm_RX10_148 ⟨by decide, by decide⟩ rfl (Nat.le_of_ble_eq_true rfl) rfl dX10_board_31 ?_
          refine v_aload_n 0 C dX10_board_34 rfl ?_
          refine g_0_5 C wf_RX10_49 dX10_board_35 ?_
          refine v_iload_n 2 C dX10_board_38 rfl ?_
          obtain ⟨r_39, s_39, e_39, h⟩ := bd_some h
          refine v_callVi [] C (t_X2_litAt e_39) mw_X2_litAt (at_32 _ _) rfl wm_RX10_221 ⟨by decide, by decide⟩ rfl (Nat.le_of_ble_eq_true rfl) rfl dX10_board_39 ?_
          refine v_istore (L1 := [(0, _), (1, _), (2, _), (3, _), (4, _)]) [1, 2, 3, 4, 0] C dX10_board_42 (by decide) rfl ?_
          refine v_iload_n 3 C dX10_board_44 rfl ?_
          refine v_if_ne 53 C dX10_board_45 (by decide) (fun c => ?_) (fun c => ?_)
          · have h := if_f h c
            refine v_aload_n 0 C dX10_board_53 rfl ?_
            refine g_0_5 C wf_RX10_49 dX10_board_54 ?_
            refine v_iload 4 C dX10_board_57 rfl ?_
            refine v_aload_n 0 C dX10_board_59 rfl ?_
            refine g_0_5 C wf_RX10_49 dX10_board_60 ?_
            refine g_32_4 C wf_RX10_215 dX10_board_63 ?_
            obtain ⟨r_66, s_66, e_66, h⟩ := bd_some h
            refine v_callVi [] C (t_X2_shownOf e_66) mw_X2_shownOf (at_32 _ _) rfl wm_RX10_224 ⟨by decide, by decide⟩ rfl (Nat.le_of_ble_eq_true rfl) rfl dX10_board_66 ?_
            exact v_ireth h R1 rfl dX10_board_69
          · have h := if_t h c
            refine v_iload 4 C dX10_board_48 rfl ?_
            refine v_goto 69 C dX10_board_50 (by decide) ?_
            exact v_ireth h R1 rfl dX10_board_69
        · have h := if_f h c
          refine v_iconst C dX10_board_24 ic_m1 ?_
          exact v_ireth h R1 rfl dX10_board_25
set_option maxRecDepth 4000 in
theorem tl_X11_litBits_4  {X : CX} {r : Int32} {fin : St} (C : Cx X "LitWindowsModel" cX11_litBits 4 1 22) (R1 : RtI X cX11_litBits .int r fin)  : ∀ (n : Nat) (x1 : Int32) (x2 : Int32) (x3 : Int32) (s : St), l_X11_litBits_4  n x1 x2 x3 s = some (r, fin) → V X s 4 [(0, .ref (wA (xw X) 74)), (1, .int x1), (2, .int x2), (3, .int x3)] [] := by
  intro n
  induction n with
  | zero => intro x1 x2 x3 s h; exact none_no h
  | succ n hr4 =>
    intro x1 x2 x3 s h
    have h : b_X11_litBits_4  (l_X11_litBits_4  n) x1 x2 x3 s = some (r, fin) := h
    refine v_iload_n 3 C dX11_litBits_4 rfl ?_
    refine v_aload_n 0 C dX11_litBits_5 rfl ?_
    refine g_74_24 C wf_RX11_221 dX11_litBits_6 ?_
    refine v_icmp_ge 38 C dX11_litBits_9 (by decide) (fun c => ?_) (fun c => ?_)
    · have h := if_t h c
      refine v_iload_n 2 C dX11_litBits_38 rfl ?_
      exact v_ireth h R1 rfl dX11_litBits_39
    · have h := if_f h c
      refine v_iload_n 2 C dX11_litBits_12 rfl ?_
      refine v_aload_n 0 C dX11_litBits_13 rfl ?_
      refine v_iload_n 3 C dX11_litBits_14 rfl ?_
      refine v_iconst C dX11_litBits_15 ic_1 ?_
      obtain ⟨r_16, s_16, e_16, h⟩ := bd_some h
      refine v_callVi [_] C (t_X11_litAt e_16) mw_X11_litAt (at_74 _ _) rfl wm_RX11_248 ⟨by decide, by decide⟩ rfl (Nat.le_of_ble_eq_true rfl) rfl dX11_litBits_16 ?_
      refine v_iload_n 1 C dX11_litBits_19 rfl ?_
      refine v_icmp_gt 29 C dX11_litBits_20 (by decide) (fun c => ?_) (fun c => ?_)
      · have h := if_t h c
        refine v_iconst C dX11_litBits_29 ic_0 ?_
        refine v_ior C dX11_litBits_30 ?_
        refine v_istore_n (L1 := [(0, _), (1, _), (2, _), (3, _)]) [1, 2, 0, 3] C dX11_litBits_31 (by decide) rfl ?_
        refine v_iinc (L1 := [(0, _), (1, _), (2, _), (3, _)]) 3 [1, 2, 3, 0] C dX11_litBits_32 rfl ic_1 (by decide) rfl ?_
        refine v_goto 4 C dX11_litBits_35 (by decide) ?_
        exact hr4 _ _ _ _ h
      · have h := if_f h c
        refine v_iconst C dX11_litBits_23 ic_1 ?_
        refine v_iload_n 3 C dX11_litBits_24 rfl ?_
        refine v_ishl C dX11_litBits_25 ?_
        refine v_goto 30 C dX11_litBits_26 (by decide) ?_
        refine v_ior C dX11_litBits_30 ?_
        refine v_istore_n (L1 := [(0, _), (1, _), (2, _), (3, _)]) [1, 2, 0, 3] C dX11_litBits_31 (by decide) rfl ?_
        refine v_iinc (L1 := [(0, _), (1, _), (2, _), (3, _)]) 3 [1, 2, 3, 0] C dX11_litBits_32 rfl ic_1 (by decide) rfl ?_
        refine v_goto 4 C dX11_litBits_35 (by decide) ?_
        exact hr4 _ _ _ _ h
set_option maxRecDepth 4000 in
theorem t_X11_litBits {x1 s fin : _} {r : Int32} (h : f_X11_litBits x1 s = some (r, fin)) : Ct yX11_litBits cX11_litBits 4 (some .int) 1 22 (fun w => [.ref (wA w 74), .int x1]) s (some (.int r)) fin := by
  refine Ct.ofI (by decide +kernel) (fun w => Nat.le_of_ble_eq_true rfl) (fun X C R1 => ?_)
  show V X s 0 [(0, .ref (wA (xw X) 74)), (1, .int x1)] []
  have C : Cx X "LitWindowsModel" cX11_litBits 4 1 22 := C
  refine v_iconst C dX11_litBits_0 ic_0 ?_
  refine v_istore_n (L1 := [(0, _), (1, _), (2, _)]) [1, 2, 0] C dX11_litBits_1 (by decide) rfl ?_
  refine v_iconst C dX11_litBits_2 ic_0 ?_
  refine v_istore_n (L1 := [(0, _), (1, _), (2, _), (3, _)]) [1, 2, 3, 0] C dX11_litBits_3 (by decide) rfl ?_
  exact tl_X11_litBits_4 C R1  FU _ _ _ _ h
set_option maxRecDepth 4000 in
theorem tj_X11_shown_94 {rec5 : Int32 → Int32 → Int32 → Int32 → St → Option (Int32 × St)} {X : CX} {r : Int32} {fin : St} (C : Cx X "LitWindowsModel" cX11_shown 6 0 0) (R1 : RtI X cX11_shown .int r fin) (hr5 : ∀ (x1 : Int32) (x2 : Int32) (x3 : Int32) (x4 : Int32) (s : St), rec5 x1 x2 x3 x4 s = some (r, fin) → V X s 5 [(0, .ref (wA (xw X) 74)), (1, .int x1), (2, .int x2), (3, .int x3), (4, .int x4)] []) {x1 x2 x3 x4 t0 s : _} (h : j_X11_shown_94 rec5 x1 x2 x3 x4 t0 s = some (r, fin)) : V X s 94 [(0, .ref (wA (xw X) 74)), (1, .int x1), (2, .int x2), (3, .int x3), (4, .int x4)] [.int t0] := by
  refine v_istore (L1 := [(0, _), (1, _), (2, _), (3, _), (4, _), (5, _)]) [1, 2, 3, 4, 5, 0] C dX11_shown_94 (by decide) rfl ?_
  refine v_iload 5 C dX11_shown_96 rfl ?_
  refine v_if_eq 117 C dX11_shown_98 (by decide) (fun c => ?_) (fun c => ?_)
  · have h := if_t h c
    refine v_iinc (L1 := [(0, _), (1, _), (2, _), (3, _), (4, _), (5, _)]) 4 [1, 2, 3, 4, 0, 5] C dX11_shown_117 rfl ic_1 (by decide) rfl ?_
    refine v_goto 5 C dX11_shown_120 (by decide) ?_
    refine v_sub [0, 1, 2, 3, 4] (L1 := [(0, _), (1, _), (2, _), (3, _), (4, _)]) rfl ?_
    exact hr5 _ _ _ _ _ h
  · have h := if_f h c
    refine v_iload_n 3 C dX11_shown_101 rfl ?_
    refine v_iconst C dX11_shown_102 ic_1 ?_
    refine v_aload_n 0 C dX11_shown_103 rfl ?_
    refine g_74_30 C wf_RX11_64 dX11_shown_104 ?_
    refine v_iconst C dX11_shown_107 ic_3 ?_
    refine v_iload 4 C dX11_shown_108 rfl ?_
    refine v_imul C dX11_shown_110 ?_
    obtain ⟨hi, h⟩ := gi_some h
    refine ald_92 C hi dX11_shown_111 ?_
    refine v_ishl C dX11_shown_112 ?_
    refine v_iconst C dX11_shown_113 ic_m1 ?_
    refine v_ixor C dX11_shown_114 ?_
    refine v_iand C dX11_shown_115 ?_
    refine v_istore_n (L1 := [(0, _), (1, _), (2, _), (3, _), (4, _), (5, _)]) [1, 2, 3, 0, 4, 5] C dX11_shown_116 (by decide) rfl ?_
    refine v_iinc (L1 := [(0, _), (1, _), (2, _), (3, _), (4, _), (5, _)]) 4 [1, 2, 3, 4, 0, 5] C dX11_shown_117 rfl ic_1 (by decide) rfl ?_
    refine v_goto 5 C dX11_shown_120 (by decide) ?_
    refine v_sub [0, 1, 2, 3, 4] (L1 := [(0, _), (1, _), (2, _), (3, _), (4, _)]) rfl ?_
    exact hr5 _ _ _ _ _ h
set_option maxRecDepth 4000 in
theorem tl_X11_shown_5  {X : CX} {r : Int32} {fin : St} (C : Cx X "LitWindowsModel" cX11_shown 6 0 0) (R1 : RtI X cX11_shown .int r fin)  : ∀ (n : Nat) (x1 : Int32) (x2 : Int32) (x3 : Int32) (x4 : Int32) (s : St), l_X11_shown_5  n x1 x2 x3 x4 s = some (r, fin) → V X s 5 [(0, .ref (wA (xw X) 74)), (1, .int x1), (2, .int x2), (3, .int x3), (4, .int x4)] [] := by
  intro n
  induction n with
  | zero => intro x1 x2 x3 x4 s h; exact none_no h
  | succ n hr5 =>
    intro x1 x2 x3 x4 s h
    have h : b_X11_shown_5  (l_X11_shown_5  n) x1 x2 x3 x4 s = some (r, fin) := h
    refine v_iload 4 C dX11_shown_5 rfl ?_
    refine v_aload_n 0 C dX11_shown_7 rfl ?_
    refine g_74_29 C wf_RX11_224 dX11_shown_8 ?_
    refine v_icmp_ge 123 C dX11_shown_11 (by decide) (fun c => ?_) (fun c => ?_)
    · have h := if_t h c
      refine v_iload_n 3 C dX11_shown_123 rfl ?_
      exact v_ireth h R1 rfl dX11_shown_124
    · have h := if_f h c
      refine v_aload_n 0 C dX11_shown_14 rfl ?_
      refine g_74_31 C wf_RX11_67 dX11_shown_15 ?_
      refine v_iload 4 C dX11_shown_18 rfl ?_
      obtain ⟨hi, h⟩ := gi_some h
      refine ald_93 C hi dX11_shown_20 ?_
      refine v_if_ne 117 C dX11_shown_21 (by decide) (fun c => ?_) (fun c => ?_)
      · have h := if_f h c
        refine v_iinc (L1 := [(0, _), (1, _), (2, _), (3, _), (4, _)]) 4 [1, 2, 3, 4, 0] C dX11_shown_117 rfl ic_1 (by decide) rfl ?_
        refine v_goto 5 C dX11_shown_120 (by decide) ?_
        exact hr5 _ _ _ _ _ h
      · have h := if_t h c
        refine v_iload_n 2 C dX11_shown_24 rfl ?_
        refine v_iload 4 C dX11_shown_25 rfl ?_
        refine v_ishr C dX11_shown_27 ?_
        refine v_iconst C dX11_shown_28 ic_1 ?_
        refine v_iand C dX11_shown_29 ?_
        refine v_iconst C dX11_shown_30 ic_1 ?_
        refine v_icmp_ne 37 C dX11_shown_31 (by decide) (fun c => ?_) (fun c => ?_)
        · have h := if_f h c
          refine v_iload_n 1 C dX11_shown_37 rfl ?_
          refine v_aload_n 0 C dX11_shown_38 rfl ?_
          refine g_74_30 C wf_RX11_64 dX11_shown_39 ?_
          refine v_iconst C dX11_shown_42 ic_3 ?_
          refine v_iload 4 C dX11_shown_43 rfl ?_
          refine v_imul C dX11_shown_45 ?_
          refine v_iconst C dX11_shown_46 ic_1 ?_
          refine v_iadd C dX11_shown_47 ?_
          obtain ⟨hi, h⟩ := gi_some h
          refine ald_92 C hi dX11_shown_48 ?_
          refine v_ishr C dX11_shown_49 ?_
          refine v_iconst C dX11_shown_50 ic_1 ?_
          refine v_iand C dX11_shown_51 ?_
          refine v_iconst C dX11_shown_52 ic_1 ?_
          refine v_icmp_ne 93 C dX11_shown_53 (by decide) (fun c => ?_) (fun c => ?_)
          · have h := if_f h c
            refine v_iconst C dX11_shown_93 ic_0 ?_
            exact tj_X11_shown_94 C R1 hr5 h
          · have h := if_t h c
            refine v_aload_n 0 C dX11_shown_56 rfl ?_
            refine g_74_30 C wf_RX11_64 dX11_shown_57 ?_
            refine v_iconst C dX11_shown_60 ic_3 ?_
            refine v_iload 4 C dX11_shown_61 rfl ?_
            refine v_imul C dX11_shown_63 ?_
            refine v_iconst C dX11_shown_64 ic_2 ?_
            refine v_iadd C dX11_shown_65 ?_
            obtain ⟨hi, h⟩ := gi_some h
            refine ald_92 C hi dX11_shown_66 ?_
            refine v_iconst C dX11_shown_67 ic_m1 ?_
            refine v_icmp_eq 89 C dX11_shown_68 (by decide) (fun c => ?_) (fun c => ?_)
            · have h := if_t h c
              refine v_iconst C dX11_shown_89 ic_1 ?_
              refine v_goto 94 C dX11_shown_90 (by decide) ?_
              exact tj_X11_shown_94 C R1 hr5 h
            · have h := if_f h c
              refine v_iload_n 1 C dX11_shown_71 rfl ?_
              refine v_aload_n 0 C dX11_shown_72 rfl ?_
              refine g_74_30 C wf_RX11_64 dX11_shown_73 ?_
              refine v_iconst C dX11_shown_76 ic_3 ?_
              refine v_iload 4 C dX11_shown_77 rfl ?_
              refine v_imul C dX11_shown_79 ?_
              refine v_iconst C dX11_shown_80 ic_2 ?_
              refine v_iadd C dX11_shown_81 ?_
              obtain ⟨hi, h⟩ := gi_some h
              refine ald_92 C hi dX11_shown_82 ?_
              refine v_ishr C dX11_shown_83 ?_
              refine v_iconst C dX11_shown_84 ic_1 ?_
              refine v_iand C dX11_shown_85 ?_
              refine v_if_ne 93 C dX11_shown_86 (by decide) (fun c => ?_) (fun c => ?_)
              · have h := if_f h c
                refine v_iconst C dX11_shown_93 ic_0 ?_
                exact tj_X11_shown_94 C R1 hr5 h
              · have h := if_t h c
                refine v_iconst C dX11_shown_89 ic_1 ?_
                refine v_goto 94 C dX11_shown_90 (by decide) ?_
                exact tj_X11_shown_94 C R1 hr5 h
        · have h := if_t h c
          refine v_goto 117 C dX11_shown_34 (by decide) ?_
          refine v_iinc (L1 := [(0, _), (1, _), (2, _), (3, _), (4, _)]) 4 [1, 2, 3, 4, 0] C dX11_shown_117 rfl ic_1 (by decide) rfl ?_
          refine v_goto 5 C dX11_shown_120 (by decide) ?_
          exact hr5 _ _ _ _ _ h
set_option maxRecDepth 4000 in
theorem t_X11_shown {x1 x2 s fin : _} {r : Int32} (h : f_X11_shown x1 x2 s = some (r, fin)) : Ct yX11_shown cX11_shown 6 (some .int) 0 0 (fun w => [.ref (wA w 74), .int x1, .int x2]) s (some (.int r)) fin := by
  refine Ct.ofI (by decide +kernel) (fun w => Nat.le_of_ble_eq_true rfl) (fun X C R1 => ?_)
  show V X s 0 [(0, .ref (wA (xw X) 74)), (1, .int x1), (2, .int x2)] []
  have C : Cx X "LitWindowsModel" cX11_shown 6 0 0 := C
  refine v_iload_n 1 C dX11_shown_0 rfl ?_
  refine v_istore_n (L1 := [(0, _), (1, _), (2, _), (3, _)]) [1, 2, 3, 0] C dX11_shown_1 (by decide) rfl ?_
  refine v_iconst C dX11_shown_2 ic_0 ?_
  refine v_istore (L1 := [(0, _), (1, _), (2, _), (3, _), (4, _)]) [1, 2, 3, 4, 0] C dX11_shown_3 (by decide) rfl ?_
  exact tl_X11_shown_5 C R1  FU _ _ _ _ _ h
set_option maxRecDepth 4000 in
theorem t_X11_board {x1 x2 x3 s fin : _} {r : Int32} (h : f_X11_board x1 x2 x3 s = some (r, fin)) : Ct yX11_board cX11_board 5 (some .int) 2 50 (fun w => [.ref (wA w 74), .int x1, .int x2, .int x3]) s (some (.int r)) fin := by
  refine Ct.ofI (by decide +kernel) (fun w => Nat.le_of_ble_eq_true rfl) (fun X C R1 => ?_)
  show V X s 0 [(0, .ref (wA (xw X) 74)), (1, .int x1), (2, .int x2), (3, .int x3)] []
  have C : Cx X "LitWindowsModel" cX11_board 5 2 50 := C
  refine v_aload_n 0 C dX11_board_0 rfl ?_
  refine v_iload_n 1 C dX11_board_1 rfl ?_
  obtain ⟨r_2, s_2, e_2, h⟩ := bd_some h
  refine v_callVi [] C (t_X11_isHeap e_2) mw_X11_isHeap (at_74 _ _) rfl wm_RX11_238 ⟨by decide, by decide⟩ rfl (Nat.le_of_ble_eq_true rfl) rfl dX11_board_2 ?_
  refine v_if_eq 28 C dX11_board_5 (by decide) (fun c => ?_) (fun c => ?_)
  · have h := if_t h c
    refine v_iconst C dX11_board_28 ic_m1 ?_
    exact v_ireth h R1 rfl dX11_board_29
  · have h := if_f h c
    refine v_iload_n 2 C dX11_board_8 rfl ?_
    refine v_iconst C dX11_board_9 ic_0 ?_
    refine v_sipush C dX11_board_10 sp_999 ?_
    obtain ⟨r_13, s_13, e_13, h⟩ := bd_some h
    refine v_callSi [] C (t_X11_in e_13) mw_X11_in wm_RX11_98 ⟨by decide, by decide⟩ rfl (Nat.le_of_ble_eq_true rfl) rfl dX11_board_13 ?_
    refine v_if_eq 28 C dX11_board_16 (by decide) (fun c => ?_) (fun c => ?_)
    · have h := if_t h c
      refine v_iconst C dX11_board_28 ic_m1 ?_
      exact v_ireth h R1 rfl dX11_board_29
    · have h := if_f h c
      refine v_iload_n 3 C dX11_board_19 rfl ?_
      refine v_iconst C dX11_board_20 ic_0 ?_
      refine v_iconst C dX11_board_21 ic_1 ?_
      obtain ⟨r_22, s_22, e_22, h⟩ := bd_some h
      refine v_callSi [] C (t_X11_in e_22) mw_X11_in wm_RX11_98 ⟨by decide, by decide⟩ rfl (Nat.le_of_ble_eq_true rfl) rfl dX11_board_22 ?_
      refine v_if_ne 30 C dX11_board_25 (by decide) (fun c => ?_) (fun c => ?_)
      · have h := if_f h c
        refine v_aload_n 0 C dX11_board_30 rfl ?_
        refine v_iload_n 1 C dX11_board_31 rfl ?_
        obtain ⟨r_32, s_32, e_32, h⟩ := bd_some h
        refine v_callVv [] C (t_X11_findFails e_32) mw_X11_findFails (at_74 _ _) rfl wm_RX11_244 ⟨by decide, by decide⟩ rfl (Nat.le_of_ble_eq_true rfl) rfl dX11_board_32 ?_
        refine v_aload_n 0 C dX11_board_35 rfl ?_
        refine v_iload_n 2 C dX11_board_36 rfl ?_
        obtain ⟨r_37, s_37, e_37, h⟩ := bd_some h
        refine v_callVi [] C (t_X11_litBits e_37) mw_X11_litBits (at_74 _ _) rfl wm_RX11_295 ⟨by decide, by decide⟩ rfl (Nat.le_of_ble_eq_true rfl) rfl dX11_board_37 ?_
        refine v_istore (L1 := [(0, _), (1, _), (2, _), (3, _), (4, _)]) [1, 2, 3, 4, 0] C dX11_board_40 (by decide) rfl ?_
        refine v_iload_n 3 C dX11_board_42 rfl ?_
        refine v_if_ne 51 C dX11_board_43 (by decide) (fun c => ?_) (fun c => ?_)
        · have h := if_f h c
          refine v_aload_n 0 C dX11_board_51 rfl ?_
          refine v_iload 4 C dX11_board_52 rfl ?_
          refine v_iconst C dX11_board_54 ic_0 ?_
          obtain ⟨r_55, s_55, e_55, h⟩ := bd_some h
          refine v_callVi [] C (t_X11_shown e_55) mw_X11_shown (at_74 _ _) rfl wm_RX11_298 ⟨by decide, by decide⟩ rfl (Nat.le_of_ble_eq_true rfl) rfl dX11_board_55 ?_
          exact v_ireth h R1 rfl dX11_board_58
        · have h := if_t h c
          refine v_iload 4 C dX11_board_46 rfl ?_
          refine v_goto 58 C dX11_board_48 (by decide) ?_
          exact v_ireth h R1 rfl dX11_board_58
      · have h := if_t h c
        refine v_iconst C dX11_board_28 ic_m1 ?_
        exact v_ireth h R1 rfl dX11_board_29
set_option maxRecDepth 4000 in
theorem tl_X6_load_2  {X : CX} {fin : St} (C : Cx X "LitWindows$Signs" cX6_load 2 4 100) (R1 : RtV X cX6_load fin)  : ∀ (n : Nat) (x1 : Int32) (s : St), l_X6_load_2  n x1 s = some ((), fin) → V X s 2 [(0, .ref (wA (xw X) 42)), (1, .int x1)] [] := by
  intro n
  induction n with
  | zero => intro x1 s h; exact none_no h
  | succ n hr2 =>
    intro x1 s h
    have h : b_X6_load_2  (l_X6_load_2  n) x1 s = some ((), fin) := h
    refine v_iload_n 1 C dX6_load_2 rfl ?_
    refine v_aload_n 0 C dX6_load_3 rfl ?_
    refine g_42_0 C wf_RX6_22 dX6_load_4 ?_
    refine g_8_0 C wf_RX6_30 dX6_load_7 ?_
    refine v_icmp_ge 46 C dX6_load_10 (by decide) (fun c => ?_) (fun c => ?_)
    · have h := if_t h c
      exact v_vreth h R1 dX6_load_46
    · have h := if_f h c
      refine v_aload_n 0 C dX6_load_13 rfl ?_
      refine g_42_1 C wf_RX6_26 dX6_load_14 ?_
      refine v_iconst C dX6_load_17 ic_1 ?_
      refine v_iload_n 1 C dX6_load_18 rfl ?_
      refine v_ishl C dX6_load_19 ?_
      obtain ⟨r_20, s_20, e_20, h⟩ := bd_some h
      refine v_callVv [] C (t_X2_light e_20) mw_X2_light (at_32 _ _) rfl wm_RX6_35 ⟨by decide, by decide⟩ rfl (Nat.le_of_ble_eq_true rfl) rfl dX6_load_20 ?_
      refine v_aload_n 0 C dX6_load_23 rfl ?_
      refine g_42_2 C wf_RX6_9 dX6_load_24 ?_
      refine v_iload_n 1 C dX6_load_27 rfl ?_
      refine v_aload_n 0 C dX6_load_28 rfl ?_
      refine g_42_1 C wf_RX6_26 dX6_load_29 ?_
      refine v_aload_n 0 C dX6_load_32 rfl ?_
      refine g_42_4 C wf_RX6_18 dX6_load_33 ?_
      obtain ⟨r_36, s_36, e_36, h⟩ := bd_some h
      refine v_callVi [_, _] C (t_X2_litAt e_36) mw_X2_litAt (at_32 _ _) rfl wm_RX6_41 ⟨by decide, by decide⟩ rfl (Nat.le_of_ble_eq_true rfl) rfl dX6_load_36 ?_
      obtain ⟨hi, h⟩ := gi_some h
      refine ast_43 C hi dX6_load_39 ?_
      refine v_iinc (L1 := [(0, _), (1, _)]) 1 [1, 0] C dX6_load_40 rfl ic_1 (by decide) rfl ?_
      refine v_goto 2 C dX6_load_43 (by decide) ?_
      exact hr2 _ _ h
set_option maxRecDepth 4000 in
theorem t_X6_load { s fin : _} (h : f_X6_load  s = some ((), fin)) : Ct yX6_load cX6_load 2 none 4 100 (fun w => [.ref (wA w 42)]) s none fin := by
  refine Ct.ofV (by decide +kernel) (fun w => Nat.le_of_ble_eq_true rfl) (fun X C R1 => ?_)
  show V X s 0 [(0, .ref (wA (xw X) 42))] []
  have C : Cx X "LitWindows$Signs" cX6_load 2 4 100 := C
  refine v_iconst C dX6_load_0 ic_0 ?_
  refine v_istore_n (L1 := [(0, _), (1, _)]) [1, 0] C dX6_load_1 (by decide) rfl ?_
  exact tl_X6_load_2 C R1  FU _ _ h
set_option maxRecDepth 4000 in
theorem tl_X6_show_2  {X : CX} {fin : St} (C : Cx X "LitWindows$Signs" cX6_show 3 2 46) (R1 : RtV X cX6_show fin)  : ∀ (n : Nat) (x1 : Int32) (x2 : Int32) (s : St), l_X6_show_2  n x1 x2 s = some ((), fin) → V X s 2 [(0, .ref (wA (xw X) 42)), (1, .int x1), (2, .int x2)] [] := by
  intro n
  induction n with
  | zero => intro x1 x2 s h; exact none_no h
  | succ n hr2 =>
    intro x1 x2 s h
    have h : b_X6_show_2  (l_X6_show_2  n) x1 x2 s = some ((), fin) := h
    refine v_iload_n 2 C dX6_show_2 rfl ?_
    refine v_aload_n 0 C dX6_show_3 rfl ?_
    refine g_42_0 C wf_RX6_22 dX6_show_4 ?_
    refine g_8_0 C wf_RX6_30 dX6_show_7 ?_
    refine v_icmp_ge 39 C dX6_show_10 (by decide) (fun c => ?_) (fun c => ?_)
    · have h := if_t h c
      exact v_vreth h R1 dX6_show_39
    · have h := if_f h c
      refine v_aload_n 0 C dX6_show_13 rfl ?_
      refine g_42_3 C wf_RX6_15 dX6_show_14 ?_
      refine v_iload_n 2 C dX6_show_17 rfl ?_
      refine v_aload_n 0 C dX6_show_18 rfl ?_
      refine g_42_1 C wf_RX6_26 dX6_show_19 ?_
      refine v_aload_n 0 C dX6_show_22 rfl ?_
      refine g_42_2 C wf_RX6_9 dX6_show_23 ?_
      refine v_iload_n 2 C dX6_show_26 rfl ?_
      obtain ⟨hi, h⟩ := gi_some h
      refine ald_43 C hi dX6_show_27 ?_
      refine v_iload_n 1 C dX6_show_28 rfl ?_
      obtain ⟨r_29, s_29, e_29, h⟩ := bd_some h
      refine v_callVi [_, _] C (t_X2_shownOf e_29) mw_X2_shownOf (at_32 _ _) rfl wm_RX6_45 ⟨by decide, by decide⟩ rfl (Nat.le_of_ble_eq_true rfl) rfl dX6_show_29 ?_
      obtain ⟨hi, h⟩ := gi_some h
      refine ast_44 C hi dX6_show_32 ?_
      refine v_iinc (L1 := [(0, _), (1, _), (2, _)]) 2 [1, 2, 0] C dX6_show_33 rfl ic_1 (by decide) rfl ?_
      refine v_goto 2 C dX6_show_36 (by decide) ?_
      exact hr2 _ _ _ h
set_option maxRecDepth 4000 in
theorem t_X6_show {x1 s fin : _} (h : f_X6_show x1 s = some ((), fin)) : Ct yX6_show cX6_show 3 none 2 46 (fun w => [.ref (wA w 42), .int x1]) s none fin := by
  refine Ct.ofV (by decide +kernel) (fun w => Nat.le_of_ble_eq_true rfl) (fun X C R1 => ?_)
  show V X s 0 [(0, .ref (wA (xw X) 42)), (1, .int x1)] []
  have C : Cx X "LitWindows$Signs" cX6_show 3 2 46 := C
  refine v_iconst C dX6_show_0 ic_0 ?_
  refine v_istore_n (L1 := [(0, _), (1, _), (2, _)]) [1, 2, 0] C dX6_show_1 (by decide) rfl ?_
  exact tl_X6_show_2 C R1  FU _ _ _ h
set_option maxRecDepth 4000 in
theorem tl_X6_countAlike_17 {rec4 : Int32 → Int32 → St → Option (Int32 × St)} {X : CX} {r : Int32} {fin : St} (C : Cx X "LitWindows$Signs" cX6_countAlike 4 0 0) (R1 : RtI X cX6_countAlike .int r fin) (hr4 : ∀ (x1 : Int32) (x2 : Int32) (s : St), rec4 x1 x2 s = some (r, fin) → V X s 4 [(0, .ref (wA (xw X) 42)), (1, .int x1), (2, .int x2)] []) : ∀ (n : Nat) (x1 : Int32) (x2 : Int32) (x3 : Int32) (s : St), l_X6_countAlike_17 rec4 n x1 x2 x3 s = some (r, fin) → V X s 17 [(0, .ref (wA (xw X) 42)), (1, .int x1), (2, .int x2), (3, .int x3)] [] := by
  intro n
  induction n with
  | zero => intro x1 x2 x3 s h; exact none_no h
  | succ n hr17 =>
    intro x1 x2 x3 s h
    have h : b_X6_countAlike_17 rec4 (l_X6_countAlike_17 rec4 n) x1 x2 x3 s = some (r, fin) := h
    refine v_iload_n 3 C dX6_countAlike_17 rfl ?_
    refine v_iload_n 2 C dX6_countAlike_18 rfl ?_
    refine v_icmp_ge 61 C dX6_countAlike_19 (by decide) (fun c => ?_) (fun c => ?_)
    · have h := if_t h c
      refine v_iinc (L1 := [(0, _), (1, _), (2, _), (3, _)]) 2 [1, 2, 0, 3] C dX6_countAlike_61 rfl ic_1 (by decide) rfl ?_
      refine v_goto 4 C dX6_countAlike_64 (by decide) ?_
      refine v_sub [0, 1, 2] (L1 := [(0, _), (1, _), (2, _)]) rfl ?_
      exact hr4 _ _ _ h
    · have h := if_f h c
      refine v_aload_n 0 C dX6_countAlike_22 rfl ?_
      refine g_42_2 C wf_RX6_9 dX6_countAlike_23 ?_
      refine v_iload_n 2 C dX6_countAlike_26 rfl ?_
      obtain ⟨hi, h⟩ := gi_some h
      refine ald_43 C hi dX6_countAlike_27 ?_
      refine v_aload_n 0 C dX6_countAlike_28 rfl ?_
      refine g_42_2 C wf_RX6_9 dX6_countAlike_29 ?_
      refine v_iload_n 3 C dX6_countAlike_32 rfl ?_
      obtain ⟨hi, h⟩ := gi_some h
      refine ald_43 C hi dX6_countAlike_33 ?_
      refine v_icmp_eq 55 C dX6_countAlike_34 (by decide) (fun c => ?_) (fun c => ?_)
      · have h := if_t h c
        refine v_iinc (L1 := [(0, _), (1, _), (2, _), (3, _)]) 3 [1, 2, 3, 0] C dX6_countAlike_55 rfl ic_1 (by decide) rfl ?_
        refine v_goto 17 C dX6_countAlike_58 (by decide) ?_
        exact hr17 _ _ _ _ h
      · have h := if_f h c
        refine v_aload_n 0 C dX6_countAlike_37 rfl ?_
        refine g_42_3 C wf_RX6_15 dX6_countAlike_38 ?_
        refine v_iload_n 2 C dX6_countAlike_41 rfl ?_
        obtain ⟨hi, h⟩ := gi_some h
        refine ald_44 C hi dX6_countAlike_42 ?_
        refine v_aload_n 0 C dX6_countAlike_43 rfl ?_
        refine g_42_3 C wf_RX6_15 dX6_countAlike_44 ?_
        refine v_iload_n 3 C dX6_countAlike_47 rfl ?_
        obtain ⟨hi, h⟩ := gi_some h
        refine ald_44 C hi dX6_countAlike_48 ?_
        refine v_icmp_ne 55 C dX6_countAlike_49 (by decide) (fun c => ?_) (fun c => ?_)
        · have h := if_f h c
          refine v_iinc (L1 := [(0, _), (1, _), (2, _), (3, _)]) 3 [1, 2, 3, 0] C dX6_countAlike_55 rfl ic_1 (by decide) rfl ?_
          refine v_goto 17 C dX6_countAlike_58 (by decide) ?_
          exact hr17 _ _ _ _ h
        · have h := if_t h c
          refine v_iinc (L1 := [(0, _), (1, _), (2, _), (3, _)]) 1 [1, 0, 2, 3] C dX6_countAlike_52 rfl ic_1 (by decide) rfl ?_
          refine v_iinc (L1 := [(0, _), (1, _), (2, _), (3, _)]) 3 [1, 2, 3, 0] C dX6_countAlike_55 rfl ic_1 (by decide) rfl ?_
          refine v_goto 17 C dX6_countAlike_58 (by decide) ?_
          exact hr17 _ _ _ _ h
set_option maxRecDepth 4000 in
theorem tl_X6_countAlike_4  {X : CX} {r : Int32} {fin : St} (C : Cx X "LitWindows$Signs" cX6_countAlike 4 0 0) (R1 : RtI X cX6_countAlike .int r fin)  : ∀ (n : Nat) (x1 : Int32) (x2 : Int32) (s : St), l_X6_countAlike_4  n x1 x2 s = some (r, fin) → V X s 4 [(0, .ref (wA (xw X) 42)), (1, .int x1), (2, .int x2)] [] := by
  intro n
  induction n with
  | zero => intro x1 x2 s h; exact none_no h
  | succ n hr4 =>
    intro x1 x2 s h
    have h : b_X6_countAlike_4  (l_X6_countAlike_4  n) x1 x2 s = some (r, fin) := h
    refine v_iload_n 2 C dX6_countAlike_4 rfl ?_
    refine v_aload_n 0 C dX6_countAlike_5 rfl ?_
    refine g_42_0 C wf_RX6_22 dX6_countAlike_6 ?_
    refine g_8_0 C wf_RX6_30 dX6_countAlike_9 ?_
    refine v_icmp_ge 67 C dX6_countAlike_12 (by decide) (fun c => ?_) (fun c => ?_)
    · have h := if_t h c
      refine v_iload_n 1 C dX6_countAlike_67 rfl ?_
      exact v_ireth h R1 rfl dX6_countAlike_68
    · have h := if_f h c
      refine v_iconst C dX6_countAlike_15 ic_0 ?_
      refine v_istore_n (L1 := [(0, _), (1, _), (2, _), (3, _)]) [1, 2, 3, 0] C dX6_countAlike_16 (by decide) rfl ?_
      exact tl_X6_countAlike_17 C R1 hr4 FU _ _ _ _ h
set_option maxRecDepth 4000 in
theorem t_X6_countAlike { s fin : _} {r : Int32} (h : f_X6_countAlike  s = some (r, fin)) : Ct yX6_countAlike cX6_countAlike 4 (some .int) 0 0 (fun w => [.ref (wA w 42)]) s (some (.int r)) fin := by
  refine Ct.ofI (by decide +kernel) (fun w => Nat.le_of_ble_eq_true rfl) (fun X C R1 => ?_)
  show V X s 0 [(0, .ref (wA (xw X) 42))] []
  have C : Cx X "LitWindows$Signs" cX6_countAlike 4 0 0 := C
  refine v_iconst C dX6_countAlike_0 ic_0 ?_
  refine v_istore_n (L1 := [(0, _), (1, _)]) [1, 0] C dX6_countAlike_1 (by decide) rfl ?_
  refine v_iconst C dX6_countAlike_2 ic_0 ?_
  refine v_istore_n (L1 := [(0, _), (1, _), (2, _)]) [1, 2, 0] C dX6_countAlike_3 (by decide) rfl ?_
  exact tl_X6_countAlike_4 C R1  FU _ _ _ h
set_option maxRecDepth 4000 in
theorem tl_X6_countLost_4  {X : CX} {r : Int32} {fin : St} (C : Cx X "LitWindows$Signs" cX6_countLost 3 0 0) (R1 : RtI X cX6_countLost .int r fin)  : ∀ (n : Nat) (x1 : Int32) (x2 : Int32) (s : St), l_X6_countLost_4  n x1 x2 s = some (r, fin) → V X s 4 [(0, .ref (wA (xw X) 42)), (1, .int x1), (2, .int x2)] [] := by
  intro n
  induction n with
  | zero => intro x1 x2 s h; exact none_no h
  | succ n hr4 =>
    intro x1 x2 s h
    have h : b_X6_countLost_4  (l_X6_countLost_4  n) x1 x2 s = some (r, fin) := h
    refine v_iload_n 2 C dX6_countLost_4 rfl ?_
    refine v_aload_n 0 C dX6_countLost_5 rfl ?_
    refine g_42_0 C wf_RX6_22 dX6_countLost_6 ?_
    refine g_8_0 C wf_RX6_30 dX6_countLost_9 ?_
    refine v_icmp_ge 42 C dX6_countLost_12 (by decide) (fun c => ?_) (fun c => ?_)
    · have h := if_t h c
      refine v_iload_n 1 C dX6_countLost_42 rfl ?_
      exact v_ireth h R1 rfl dX6_countLost_43
    · have h := if_f h c
      refine v_aload_n 0 C dX6_countLost_15 rfl ?_
      refine g_42_2 C wf_RX6_9 dX6_countLost_16 ?_
      refine v_iload_n 2 C dX6_countLost_19 rfl ?_
      obtain ⟨hi, h⟩ := gi_some h
      refine ald_43 C hi dX6_countLost_20 ?_
      refine v_if_eq 36 C dX6_countLost_21 (by decide) (fun c => ?_) (fun c => ?_)
      · have h := if_t h c
        refine v_iinc (L1 := [(0, _), (1, _), (2, _)]) 2 [1, 2, 0] C dX6_countLost_36 rfl ic_1 (by decide) rfl ?_
        refine v_goto 4 C dX6_countLost_39 (by decide) ?_
        exact hr4 _ _ _ h
      · have h := if_f h c
        refine v_aload_n 0 C dX6_countLost_24 rfl ?_
        refine g_42_3 C wf_RX6_15 dX6_countLost_25 ?_
        refine v_iload_n 2 C dX6_countLost_28 rfl ?_
        obtain ⟨hi, h⟩ := gi_some h
        refine ald_44 C hi dX6_countLost_29 ?_
        refine v_if_ne 36 C dX6_countLost_30 (by decide) (fun c => ?_) (fun c => ?_)
        · have h := if_f h c
          refine v_iinc (L1 := [(0, _), (1, _), (2, _)]) 2 [1, 2, 0] C dX6_countLost_36 rfl ic_1 (by decide) rfl ?_
          refine v_goto 4 C dX6_countLost_39 (by decide) ?_
          exact hr4 _ _ _ h
        · have h := if_t h c
          refine v_iinc (L1 := [(0, _), (1, _), (2, _)]) 1 [1, 0, 2] C dX6_countLost_33 rfl ic_1 (by decide) rfl ?_
          refine v_iinc (L1 := [(0, _), (1, _), (2, _)]) 2 [1, 2, 0] C dX6_countLost_36 rfl ic_1 (by decide) rfl ?_
          refine v_goto 4 C dX6_countLost_39 (by decide) ?_
          exact hr4 _ _ _ h
set_option maxRecDepth 4000 in
theorem t_X6_countLost { s fin : _} {r : Int32} (h : f_X6_countLost  s = some (r, fin)) : Ct yX6_countLost cX6_countLost 3 (some .int) 0 0 (fun w => [.ref (wA w 42)]) s (some (.int r)) fin := by
  refine Ct.ofI (by decide +kernel) (fun w => Nat.le_of_ble_eq_true rfl) (fun X C R1 => ?_)
  show V X s 0 [(0, .ref (wA (xw X) 42))] []
  have C : Cx X "LitWindows$Signs" cX6_countLost 3 0 0 := C
  refine v_iconst C dX6_countLost_0 ic_0 ?_
  refine v_istore_n (L1 := [(0, _), (1, _)]) [1, 0] C dX6_countLost_1 (by decide) rfl ?_
  refine v_iconst C dX6_countLost_2 ic_0 ?_
  refine v_istore_n (L1 := [(0, _), (1, _), (2, _)]) [1, 2, 0] C dX6_countLost_3 (by decide) rfl ?_
  exact tl_X6_countLost_4 C R1  FU _ _ _ h
set_option maxRecDepth 4000 in
theorem t_X6_isClear {x1 s fin : _} {r : Int32} (h : f_X6_isClear x1 s = some (r, fin)) : Ct yX6_isClear cX6_isClear 2 (some .boolean) 3 68 (fun w => [.ref (wA w 42), .int x1]) s (some (.int r)) fin := by
  refine Ct.ofI (by decide +kernel) (fun w => Nat.le_of_ble_eq_true rfl) (fun X C R1 => ?_)
  show V X s 0 [(0, .ref (wA (xw X) 42)), (1, .int x1)] []
  have C : Cx X "LitWindows$Signs" cX6_isClear 2 3 68 := C
  refine v_aload_n 0 C dX6_isClear_0 rfl ?_
  refine v_aload_n 0 C dX6_isClear_1 rfl ?_
  refine g_42_1 C wf_RX6_26 dX6_isClear_2 ?_
  refine g_32_4 C wf_RX6_52 dX6_isClear_5 ?_
  refine v_iload_n 1 C dX6_isClear_8 rfl ?_
  refine v_ior C dX6_isClear_9 ?_
  obtain ⟨r_10, s_10, e_10, h⟩ := bd_some h
  refine v_callVv [] C (t_X6_show e_10) mw_X6_show (at_42 _ _) rfl wm_RX6_64 ⟨by decide, by decide⟩ rfl (Nat.le_of_ble_eq_true rfl) rfl dX6_isClear_10 ?_
  refine v_aload_n 0 C dX6_isClear_13 rfl ?_
  obtain ⟨r_14, s_14, e_14, h⟩ := bd_some h
  refine v_callVi [] C (t_X6_countLost e_14) mw_X6_countLost (at_42 _ _) rfl wm_RX6_67 ⟨by decide, by decide⟩ rfl (Nat.le_of_ble_eq_true rfl) rfl dX6_isClear_14 ?_
  refine v_if_ne 31 C dX6_isClear_17 (by decide) (fun c => ?_) (fun c => ?_)
  · have h := if_f h c
    refine v_iconst C dX6_isClear_31 ic_0 ?_
    exact v_ireth h R1 rfl dX6_isClear_32
  · have h := if_t h c
    refine v_aload_n 0 C dX6_isClear_20 rfl ?_
    obtain ⟨r_21, s_21, e_21, h⟩ := bd_some h
    refine v_callVi [] C (t_X6_countAlike e_21) mw_X6_countAlike (at_42 _ _) rfl wm_RX6_71 ⟨by decide, by decide⟩ rfl (Nat.le_of_ble_eq_true rfl) rfl dX6_isClear_21 ?_
    refine v_if_ne 31 C dX6_isClear_24 (by decide) (fun c => ?_) (fun c => ?_)
    · have h := if_f h c
      refine v_iconst C dX6_isClear_31 ic_0 ?_
      exact v_ireth h R1 rfl dX6_isClear_32
    · have h := if_t h c
      refine v_iconst C dX6_isClear_27 ic_1 ?_
      refine v_goto 32 C dX6_isClear_28 (by decide) ?_
      exact v_ireth h R1 rfl dX6_isClear_32
set_option maxRecDepth 4000 in
theorem tl_X6_rulesToRest_7  {X : CX} {r : Int32} {fin : St} (C : Cx X "LitWindows$Signs" cX6_rulesToRest 4 4 89) (R1 : RtI X cX6_rulesToRest .int r fin)  : ∀ (n : Nat) (x1 : Int32) (x2 : Int32) (x3 : Int32) (s : St), l_X6_rulesToRest_7  n x1 x2 x3 s = some (r, fin) → V X s 7 [(0, .ref (wA (xw X) 42)), (1, .int x1), (2, .int x2), (3, .int x3)] [] := by
  intro n
  induction n with
  | zero => intro x1 x2 x3 s h; exact none_no h
  | succ n hr7 =>
    intro x1 x2 x3 s h
    have h : b_X6_rulesToRest_7  (l_X6_rulesToRest_7  n) x1 x2 x3 s = some (r, fin) := h
    refine v_iload_n 3 C dX6_rulesToRest_7 rfl ?_
    refine v_iconst C dX6_rulesToRest_8 ic_1 ?_
    refine v_aload_n 0 C dX6_rulesToRest_9 rfl ?_
    refine g_42_0 C wf_RX6_22 dX6_rulesToRest_10 ?_
    refine g_8_3 C wf_RX6_49 dX6_rulesToRest_13 ?_
    refine v_ishl C dX6_rulesToRest_16 ?_
    refine v_icmp_ge 61 C dX6_rulesToRest_17 (by decide) (fun c => ?_) (fun c => ?_)
    · have h := if_t h c
      refine v_iload_n 1 C dX6_rulesToRest_61 rfl ?_
      exact v_ireth h R1 rfl dX6_rulesToRest_62
    · have h := if_f h c
      refine v_iload_n 3 C dX6_rulesToRest_20 rfl ?_
      refine v_aload_n 0 C dX6_rulesToRest_21 rfl ?_
      refine g_42_1 C wf_RX6_26 dX6_rulesToRest_22 ?_
      refine g_32_4 C wf_RX6_52 dX6_rulesToRest_25 ?_
      refine v_iand C dX6_rulesToRest_28 ?_
      refine v_if_ne 55 C dX6_rulesToRest_29 (by decide) (fun c => ?_) (fun c => ?_)
      · have h := if_f h c
        refine v_iinc (L1 := [(0, _), (1, _), (2, _), (3, _)]) 3 [1, 2, 3, 0] C dX6_rulesToRest_55 rfl ic_1 (by decide) rfl ?_
        refine v_goto 7 C dX6_rulesToRest_58 (by decide) ?_
        exact hr7 _ _ _ _ h
      · have h := if_t h c
        refine v_iload_n 3 C dX6_rulesToRest_32 rfl ?_
        obtain ⟨r_33, s_33, e_33, h⟩ := bd_some h
        refine v_callSi [] C (t_J6_bitCount_0f7a4 e_33) mw_J6_bitCount_0f7a4 wm_RX6_55 ⟨by decide, by decide⟩ rfl (Nat.le_of_ble_eq_true rfl) rfl dX6_rulesToRest_33 ?_
        refine v_iload_n 2 C dX6_rulesToRest_36 rfl ?_
        refine v_icmp_ge 55 C dX6_rulesToRest_37 (by decide) (fun c => ?_) (fun c => ?_)
        · have h := if_t h c
          refine v_iinc (L1 := [(0, _), (1, _), (2, _), (3, _)]) 3 [1, 2, 3, 0] C dX6_rulesToRest_55 rfl ic_1 (by decide) rfl ?_
          refine v_goto 7 C dX6_rulesToRest_58 (by decide) ?_
          exact hr7 _ _ _ _ h
        · have h := if_f h c
          refine v_aload_n 0 C dX6_rulesToRest_40 rfl ?_
          refine v_iload_n 3 C dX6_rulesToRest_41 rfl ?_
          obtain ⟨r_42, s_42, e_42, h⟩ := bd_some h
          refine v_callVi [] C (t_X6_isClear e_42) mw_X6_isClear (at_42 _ _) rfl wm_RX6_60 ⟨by decide, by decide⟩ rfl (Nat.le_of_ble_eq_true rfl) rfl dX6_rulesToRest_42 ?_
          refine v_if_eq 55 C dX6_rulesToRest_45 (by decide) (fun c => ?_) (fun c => ?_)
          · have h := if_t h c
            refine v_iinc (L1 := [(0, _), (1, _), (2, _), (3, _)]) 3 [1, 2, 3, 0] C dX6_rulesToRest_55 rfl ic_1 (by decide) rfl ?_
            refine v_goto 7 C dX6_rulesToRest_58 (by decide) ?_
            exact hr7 _ _ _ _ h
          · have h := if_f h c
            refine v_iload_n 3 C dX6_rulesToRest_48 rfl ?_
            refine v_istore_n (L1 := [(0, _), (1, _), (2, _), (3, _)]) [1, 0, 2, 3] C dX6_rulesToRest_49 (by decide) rfl ?_
            refine v_iload_n 3 C dX6_rulesToRest_50 rfl ?_
            obtain ⟨r_51, s_51, e_51, h⟩ := bd_some h
            refine v_callSi [] C (t_J6_bitCount_0f7a4 e_51) mw_J6_bitCount_0f7a4 wm_RX6_55 ⟨by decide, by decide⟩ rfl (Nat.le_of_ble_eq_true rfl) rfl dX6_rulesToRest_51 ?_
            refine v_istore_n (L1 := [(0, _), (1, _), (2, _), (3, _)]) [1, 2, 0, 3] C dX6_rulesToRest_54 (by decide) rfl ?_
            refine v_iinc (L1 := [(0, _), (1, _), (2, _), (3, _)]) 3 [1, 2, 3, 0] C dX6_rulesToRest_55 rfl ic_1 (by decide) rfl ?_
            refine v_goto 7 C dX6_rulesToRest_58 (by decide) ?_
            exact hr7 _ _ _ _ h
set_option maxRecDepth 4000 in
theorem t_X6_rulesToRest { s fin : _} {r : Int32} (h : f_X6_rulesToRest  s = some (r, fin)) : Ct yX6_rulesToRest cX6_rulesToRest 4 (some .int) 4 89 (fun w => [.ref (wA w 42)]) s (some (.int r)) fin := by
  refine Ct.ofI (by decide +kernel) (fun w => Nat.le_of_ble_eq_true rfl) (fun X C R1 => ?_)
  show V X s 0 [(0, .ref (wA (xw X) 42))] []
  have C : Cx X "LitWindows$Signs" cX6_rulesToRest 4 4 89 := C
  refine v_iconst C dX6_rulesToRest_0 ic_0 ?_
  refine v_istore_n (L1 := [(0, _), (1, _)]) [1, 0] C dX6_rulesToRest_1 (by decide) rfl ?_
  refine v_bipush C dX6_rulesToRest_2 bp_9 ?_
  refine v_istore_n (L1 := [(0, _), (1, _), (2, _)]) [1, 2, 0] C dX6_rulesToRest_4 (by decide) rfl ?_
  refine v_iconst C dX6_rulesToRest_5 ic_0 ?_
  refine v_istore_n (L1 := [(0, _), (1, _), (2, _), (3, _)]) [1, 2, 3, 0] C dX6_rulesToRest_6 (by decide) rfl ?_
  exact tl_X6_rulesToRest_7 C R1  FU _ _ _ _ h
set_option maxRecDepth 4000 in
theorem t_X10_harm {x1 s fin : _} {r : Int32} (h : f_X10_harm x1 s = some (r, fin)) : Ct yX10_harm cX10_harm 2 (some .int) 5 121 (fun w => [.ref (wA w 0), .int x1]) s (some (.int r)) fin := by
  refine Ct.ofI (by decide +kernel) (fun w => Nat.le_of_ble_eq_true rfl) (fun X C R1 => ?_)
  show V X s 0 [(0, .ref (wA (xw X) 0)), (1, .int x1)] []
  have C : Cx X "LitWindows" cX10_harm 2 5 121 := C
  refine v_iload_n 1 C dX10_harm_0 rfl ?_
  refine v_if_lt 16 C dX10_harm_1 (by decide) (fun c => ?_) (fun c => ?_)
  · have h := if_t h c
    refine v_iconst C dX10_harm_16 ic_m1 ?_
    exact v_ireth h R1 rfl dX10_harm_17
  · have h := if_f h c
    refine v_iload_n 1 C dX10_harm_4 rfl ?_
    refine v_iconst C dX10_harm_5 ic_2 ?_
    refine v_icmp_gt 16 C dX10_harm_6 (by decide) (fun c => ?_) (fun c => ?_)
    · have h := if_t h c
      refine v_iconst C dX10_harm_16 ic_m1 ?_
      exact v_ireth h R1 rfl dX10_harm_17
    · have h := if_f h c
      refine v_aload_n 0 C dX10_harm_9 rfl ?_
      obtain ⟨r_10, s_10, e_10, h⟩ := bd_some h
      refine v_callVi [] C (t_X10_hasPlant e_10) mw_X10_hasPlant (at_0 _ _) rfl wm_RX10_181 ⟨by decide, by decide⟩ rfl (Nat.le_of_ble_eq_true rfl) rfl dX10_harm_10 ?_
      refine v_if_ne 18 C dX10_harm_13 (by decide) (fun c => ?_) (fun c => ?_)
      · have h := if_f h c
        refine v_aload_n 0 C dX10_harm_18 rfl ?_
        refine g_0_8 C wf_RX10_74 dX10_harm_19 ?_
        obtain ⟨r_22, s_22, e_22, h⟩ := bd_some h
        refine v_callVv [] C (t_X6_load e_22) mw_X6_load (at_42 _ _) rfl wm_RX10_228 ⟨by decide, by decide⟩ rfl (Nat.le_of_ble_eq_true rfl) rfl dX10_harm_22 ?_
        refine v_iload_n 1 C dX10_harm_25 rfl ?_
        refine v_iconst C dX10_harm_26 ic_2 ?_
        refine v_icmp_ne 38 C dX10_harm_27 (by decide) (fun c => ?_) (fun c => ?_)
        · have h := if_f h c
          refine v_aload_n 0 C dX10_harm_38 rfl ?_
          refine g_0_8 C wf_RX10_74 dX10_harm_39 ?_
          refine v_aload_n 0 C dX10_harm_42 rfl ?_
          refine g_0_5 C wf_RX10_49 dX10_harm_43 ?_
          refine g_32_4 C wf_RX10_215 dX10_harm_46 ?_
          obtain ⟨r_49, s_49, e_49, h⟩ := bd_some h
          refine v_callVv [] C (t_X6_show e_49) mw_X6_show (at_42 _ _) rfl wm_RX10_234 ⟨by decide, by decide⟩ rfl (Nat.le_of_ble_eq_true rfl) rfl dX10_harm_49 ?_
          refine v_iload_n 1 C dX10_harm_52 rfl ?_
          refine v_if_ne 66 C dX10_harm_53 (by decide) (fun c => ?_) (fun c => ?_)
          · have h := if_f h c
            refine v_aload_n 0 C dX10_harm_66 rfl ?_
            refine g_0_8 C wf_RX10_74 dX10_harm_67 ?_
            obtain ⟨r_70, s_70, e_70, h⟩ := bd_some h
            refine v_callVi [] C (t_X6_countAlike e_70) mw_X6_countAlike (at_42 _ _) rfl wm_RX10_240 ⟨by decide, by decide⟩ rfl (Nat.le_of_ble_eq_true rfl) rfl dX10_harm_70 ?_
            exact v_ireth h R1 rfl dX10_harm_73
          · have h := if_t h c
            refine v_aload_n 0 C dX10_harm_56 rfl ?_
            refine g_0_8 C wf_RX10_74 dX10_harm_57 ?_
            obtain ⟨r_60, s_60, e_60, h⟩ := bd_some h
            refine v_callVi [] C (t_X6_countLost e_60) mw_X6_countLost (at_42 _ _) rfl wm_RX10_237 ⟨by decide, by decide⟩ rfl (Nat.le_of_ble_eq_true rfl) rfl dX10_harm_60 ?_
            refine v_goto 73 C dX10_harm_63 (by decide) ?_
            exact v_ireth h R1 rfl dX10_harm_73
        · have h := if_t h c
          refine v_aload_n 0 C dX10_harm_30 rfl ?_
          refine g_0_8 C wf_RX10_74 dX10_harm_31 ?_
          obtain ⟨r_34, s_34, e_34, h⟩ := bd_some h
          refine v_callVi [] C (t_X6_rulesToRest e_34) mw_X6_rulesToRest (at_42 _ _) rfl wm_RX10_231 ⟨by decide, by decide⟩ rfl (Nat.le_of_ble_eq_true rfl) rfl dX10_harm_34 ?_
          exact v_ireth h R1 rfl dX10_harm_37
      · have h := if_t h c
        refine v_iconst C dX10_harm_16 ic_m1 ?_
        exact v_ireth h R1 rfl dX10_harm_17
