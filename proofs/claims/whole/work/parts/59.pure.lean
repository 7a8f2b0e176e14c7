/-! ===== the reader: a window, the reference ===== -/
theorem nI_dec (k : Nat) : nI (k + 1) + (-1) = nI k := by
  rw [nI_succ, Int32.add_assoc, show (1 : Int32) + (-1) = 0 by decide, add_0]
theorem ins_l {tx : Nat → Int32} {N a : Nat} {E : Dt} (hc : nmb tx N 0 61 a) {n : Nat} (hn : n ≤ 2) (rec : Int32 → St → Option (Int32 × St)) : ∀ (k m : Nat) (S : Nat → Nat) (u : St), k < m → k ≤ n → SM tx N a E u → (∀ j, j ≤ n → j ≠ k → rI u 96 j = nI (S j) ∧ S j ≤ 60) → ∃ w, l_X11_windowLine_80 rec m (nI n) (nI k) u = rec (nI (n + 1)) w ∧ Km u w ∧ SM tx N (nxA tx N a) E w ∧ (∀ i, rI w 81 i = rI u 81 i) ∧ ∀ j, j ≤ n → rI w 96 j = nI (insL (vlA tx N a) k S j) := by
  have hv := hc.2.2
  have fin : ∀ (k : Nat) (S : Nat → Nat) (u : St), k ≤ n → SM tx N a E u → (∀ j, j ≤ n → j ≠ k → rI u 96 j = nI (S j) ∧ S j ≤ 60) → ∃ w, j_X11_windowLine_121 rec (nI n) (nI k) u = rec (nI (n + 1)) w ∧ Km u w ∧ SM tx N (nxA tx N a) E w ∧ (∀ i, rI w 81 i = rI u 81 i) ∧ ∀ j, j ≤ n → rI w 96 j = nI (va_up S k (vlA tx N a) j) := fun k S u hk h h96 => by
    have h2 := SM_wI h (k := 96) (j := k) (v := nI (vlA tx N a)) (Or.inl (by decide)) (h.2.2.2.w96 k _)
    obtain ⟨w, a1, k1, h3⟩ := next_S h2
    refine ⟨w, ?_, (Km_wI (by decide) _).tr (Km_nk k1), h3, fun i => by rw [Kp_rI k1.1 (by decide), rI_nk (by decide)], fun j hj => ?_⟩
    · unfold j_X11_windowLine_121
      rw [gi_nI (j := k) (n := 3) (by omega) (by decide), cl_nI (n := k) (by omega), val_m h (by decide) hc, lN_i]
      show bd (f_X11_next (wI u 96 k (nI (vlA tx N a)))) _ = _
      rw [a1, bd_ok, nI_1]
    · rw [Kp_rI k1.1 (by decide)]
      by_cases e : j = k
      · subst e; rw [rI_same, vaN_eq]
      · rw [rI_nj e, vaN_ne e]; exact (h96 j hj e).1
  intro k
  induction k with
  | zero =>
    intro m S u hm hk h h96
    obtain ⟨m, rfl⟩ : ∃ q, m = q + 1 := ⟨m - 1, by omega⟩
    obtain ⟨w, a1, a2⟩ := fin 0 S u hk h h96
    refine ⟨w, ?_, a2⟩
    show b_X11_windowLine_80 rec (l_X11_windowLine_80 rec m) _ (nI 0) u = _
    unfold b_X11_windowLine_80
    rw [if_pos (show nI 0 ≤ (0 : Int32) by decide)]
    exact a1
  | succ k ih =>
    intro m S u hm hk h h96
    obtain ⟨m, rfl⟩ : ∃ q, m = q + 1 := ⟨m - 1, by omega⟩
    obtain ⟨g1, g2⟩ := h96 k (by omega) (by omega)
    have hcmp : lg_cmp (nI (S k)).toInt64 (lN (vlA tx N a)) ≤ 0 ↔ S k ≤ vlA tx N a := by
      rw [lg_cmp_le, nI_l (by omega), pk_lLE (by omega) (by omega)]
    have hstep : l_X11_windowLine_80 rec (m + 1) (nI n) (nI (k + 1)) u = if S k ≤ vlA tx N a then j_X11_windowLine_121 rec (nI n) (nI (k + 1)) u else l_X11_windowLine_80 rec m (nI n) (nI k) (wI u 96 (k + 1) (nI (S k))) := by
      show b_X11_windowLine_80 rec (l_X11_windowLine_80 rec m) _ (nI (k + 1)) u = _
      unfold b_X11_windowLine_80
      rw [if_neg (nI_nle (n := k + 1) (by omega) (by omega)), nI_pred, gi_nI (j := k) (n := 3) (by omega) (by decide), cl_nI (n := k) (by omega), g1, val_m h (by decide) hc, gi_nI (j := k) (n := 3) (by omega) (by decide), gi_nI (j := k + 1) (n := 3) (by omega) (by decide), cl_nI (n := k + 1) (by omega), nI_dec]
      by_cases c : S k ≤ vlA tx N a
      · rw [if_pos (hcmp.mpr c), if_pos c]
      · rw [if_neg (fun q => c (hcmp.mp q)), if_neg c]
    by_cases c : S k ≤ vlA tx N a
    · obtain ⟨w, a1, a2, a3, a4, a5⟩ := fin (k + 1) S u hk h h96
      refine ⟨w, by rw [hstep, if_pos c]; exact a1, a2, a3, a4, fun j hj => ?_⟩
      rw [a5 j hj]
      show _ = nI ((if vlA tx N a < S k then insL (vlA tx N a) k (va_up S (k + 1) (S k)) else va_up S (k + 1) (vlA tx N a)) j)
      rw [if_neg (by omega)]
    · have h2 := SM_wI h (k := 96) (j := k + 1) (v := nI (S k)) (Or.inl (by decide)) (h.2.2.2.w96 (k + 1) _)
      obtain ⟨w, a1, a2, a3, a4, a5⟩ := ih m (va_up S (k + 1) (S k)) (wI u 96 (k + 1) (nI (S k))) (by omega) (by omega) h2 (fun j hj hne => by
        by_cases e : j = k + 1
        · subst e; rw [rI_same, vaN_eq]; exact ⟨rfl, g2⟩
        · rw [rI_nj e, vaN_ne e]; exact h96 j hj e)
      refine ⟨w, by rw [hstep, if_neg c]; exact a1, (Km_wI (by decide) _).tr a2, a3, fun i => by rw [a4, rI_nk (by decide)], fun j hj => ?_⟩
      rw [a5 j hj]
      show _ = nI ((if vlA tx N a < S k then insL (vlA tx N a) k (va_up S (k + 1) (S k)) else va_up S (k + 1) (vlA tx N a)) j)
      rw [if_pos (by omega)]
theorem w207_m {tx : Nat → Int32} {N a : Nat} {E : Dt} {s u : St} (h : SM tx N a E u) (hK : Km s u) (p : Nat) {n r : Nat} {L : Nat → Nat} (h81 : rI u 81 (E.1 2) = nI p) (h82 : rI u 82 (E.1 2) = nI (kthN L n r n)) : LnM tx N s (j_X11_windowLine_207 u) (pEw tx N E p n r L a) := by
  obtain ⟨f1, f2, f3, f4, f5, f6⟩ := addW_e E p (kthN L n r n)
  have hpush := DM_push (m := 13) (c := 2) (by decide) h.2.2.2 f1 f2 f3 f4 (fun q hq hc => by
    simp only [arrF, List.mem_cons, List.not_mem_nil, or_false] at hq
    rcases hq with rfl | rfl | rfl | rfl | rfl | rfl <;> first | exact absurd hc (by decide) | skip
    · rw [f5]; exact h81
    · rw [f6]; exact h82) (fun q => absurd q (by decide)) (fun q => absurd q (by decide))
  have h3 := SM_wI h (k := 74) (j := 13) (Or.inr ⟨rfl, by decide⟩) hpush
  have K3 : Km s (wI u 74 13 (nI (E.1 2 + 1))) := hK.tr (Km_74 (by decide) _)
  unfold j_X11_windowLine_207 pEw
  rw [h.2.2.2.1 (13, 2) (by decide), nI_1]
  show LnM tx N s (bd (f_X11_closes (wI u 74 13 (nI (E.1 2 + 1)))) _) _
  by_cases c : kdA tx N a = 2
  · obtain ⟨u4, a4, k4, h4⟩ := closes_y h3 c
    rw [if_pos c, a4, bd_ok, gb_1]
    exact LnM_y h4 (K3.tr (Km_nk k4)) rfl
  · rw [if_neg c, closes_n h3 c, bd_ok, gb_0]
    exact LnM_n h3 K3 rfl
theorem w142_m {tx : Nat → Int32} {N a : Nat} {E : Dt} {s u : St} (h : SM tx N a E u) (hK : Km s u) (hn : E.1 2 < 12) (p : Nat) {n : Nat} (hn1 : 1 ≤ n) (hn3 : n ≤ 3) {L : Nat → Nat} (hL : ∀ j, j < n → L j ≤ 60) (h81 : rI u 81 (E.1 2) = nI p) (h96 : ∀ j, j < n → rI u 96 j = nI (srt L n j)) : LnM tx N s (j_X11_windowLine_142 (nI n) u) (pOf tx N E p n L a) := by
  unfold j_X11_windowLine_142 pOf
  rw [gi_in (show vp_in (0 : Int32) 3 from vp_in_nI (n := 0) (by decide) (by decide)), h.2.2.2.1 (13, 2) (by decide), gi_nI (j := E.1 2) (n := 12) hn (by decide), cl_nI (n := E.1 2) (by omega), show (0 : Int32).toNatClampNeg = 0 from cl_nI (n := 0) (by decide), h96 0 (by omega)]
  have h2 := SM_wI h (k := 82) (j := E.1 2) (v := nI (srt L n 0)) (Or.inl (by decide)) (h.2.2.2.w (q := (82, 5, 2)) (by decide) _)
  have K2 : Km s (wI u 82 (E.1 2) (nI (srt L n 0))) := hK.tr (Km_wI (by decide) _)
  have x2 : rI (wI u 82 (E.1 2) (nI (srt L n 0))) 82 (E.1 2) = nI (srt L n 0) := rI_same _ _ _ _
  have y2 : rI (wI u 82 (E.1 2) (nI (srt L n 0))) 81 (E.1 2) = nI p := by rw [rI_nk (by decide)]; exact h81
  have z2 : ∀ j, j < n → rI (wI u 82 (E.1 2) (nI (srt L n 0))) 96 j = nI (srt L n j) := fun j hj => by rw [rI_nk (by decide)]; exact h96 j hj
  show LnM tx N s (if nI n ≤ 1 then j_X11_windowLine_207 (wI u 82 (E.1 2) (nI (srt L n 0))) else bd (f_X11_word 7 (wI u 82 (E.1 2) (nI (srt L n 0)))) _) _
  generalize wI u 82 (E.1 2) (nI (srt L n 0)) = u2 at *
  by_cases c1 : n ≤ 1
  · have e : n = 1 := by omega
    subst e
    rw [if_pos (show nI 1 ≤ (1 : Int32) by decide), if_pos c1]
    exact w207_m h2 K2 p y2 (by rw [x2, ← srt_kth (n := 1) (r := 1) (by decide) (by decide) (by decide) hL])
  · rw [if_neg (show ¬ nI n ≤ (1 : Int32) from nI_ge (a := 1) (b := n) (by omega) (by omega)), if_neg c1]
    by_cases c2 : wrd tx N 7 a
    · obtain ⟨u3, a3, k3, h3⟩ := word_y h2 (k := 7) (by decide) c2
      have K3 : Km s u3 := K2.tr (Km_nk k3)
      rw [if_pos c2, a3, bd_ok, if_neg (by decide), isNumber_m h3 (l := 1) (g := n + 1) (by decide) (by omega) (x1 := 1) (x2 := nI n) rfl (nI_pred n).symm, bd_ok, one0]
      by_cases c3 : nmb tx N 1 (n + 1) (nxA tx N a)
      · have r1 := c3.2.1
        have r2 := c3.2.2
        obtain ⟨v, hv⟩ : ∃ v, vlA tx N (nxA tx N a) = v + 1 := ⟨vlA tx N (nxA tx N a) - 1, by omega⟩
        have hkth := srt_kth (L := L) (n := n) (r := v + 1) hn3 (by omega) (by omega) hL
        rw [show v + 1 - 1 = v by omega] at hkth
        rw [if_pos c3, if_pos c3, val_m h3 (by omega) c3, lN_i, hv, nI_pred, gi_nI (j := v) (n := 3) (by omega) (by decide), h3.2.2.2.1 (13, 2) (by decide), gi_nI (j := E.1 2) (n := 12) hn (by decide), cl_nI (n := E.1 2) (by omega), cl_nI (n := v) (by omega), show rI u3 96 v = nI (srt L n v) by rw [Kp_rI k3.1 (by decide)]; exact z2 v (by omega)]
        have h4 := SM_wI h3 (k := 82) (j := E.1 2) (v := nI (srt L n v)) (Or.inl (by decide)) (h3.2.2.2.w (q := (82, 5, 2)) (by decide) _)
        obtain ⟨u5, a5, k5, h5⟩ := next_S h4
        show LnM tx N s (bd (f_X11_next (wI u3 82 (E.1 2) (nI (srt L n v)))) _) _
        rw [a5, bd_ok]
        exact w207_m h5 ((K3.tr (Km_wI (by decide) _)).tr (Km_nk k5)) p (by rw [Kp_rI k5.1 (by decide), rI_nk (by decide), Kp_rI k3.1 (by decide)]; exact y2) (by rw [Kp_rI k5.1 (by decide), rI_same, hkth])
      · rw [if_neg c3, if_neg c3]
        exact LnM_n h3 K3 rfl
    · rw [if_neg c2, word_n h2 (by decide) c2, bd_ok, if_pos rfl]
      exact LnM_n h2 K2 rfl
theorem w49_l {tx : Nat → Int32} {N : Nat} {E : Dt} {s : St} (hn : E.1 2 < 12) (p : Nat) : ∀ (d n m : Nat) (L : Nat → Nat) (a : Nat) (u : St), n + d = 3 → d < m → SM tx N a E u → Km s u → (∀ j, j < n → L j ≤ 60) → (∀ j, j < n → srt L n j ≤ 60) → rI u 81 (E.1 2) = nI p → (∀ j, j < n → rI u 96 j = nI (srt L n j)) → LnM tx N s (l_X11_windowLine_49 m (nI n) u) (pLg tx N E p d n L a) := by
  intro d
  induction d with
  | zero =>
    intro n m L a u hd hm h hK hL hS h81 h96
    obtain ⟨m, rfl⟩ : ∃ k, m = k + 1 := ⟨m - 1, by omega⟩
    show LnM tx N s (b_X11_windowLine_49 (l_X11_windowLine_49 m) (nI n) u) (pOf tx N E p n L a)
    unfold b_X11_windowLine_49
    rw [if_neg (show ¬ nI n = (0 : Int32) from nI_ne0 (n := n) (by omega) (by omega)), if_pos (show (3 : Int32) ≤ nI n from nI_le (a := 3) (b := n) (by omega) (by omega))]
    exact w142_m h hK hn p (by omega) (by omega) hL h81 h96
  | succ d ih =>
    intro n m L a u hd hm h hK hL hS h81 h96
    obtain ⟨m, rfl⟩ : ∃ k, m = k + 1 := ⟨m - 1, by omega⟩
    have hstep : b_X11_windowLine_49 (l_X11_windowLine_49 m) (nI n) u = if n = 0 ∨ kdA tx N a = 1 then j_X11_windowLine_66 (l_X11_windowLine_49 m) (nI n) u else j_X11_windowLine_142 (nI n) u := by
      unfold b_X11_windowLine_49
      by_cases z : n = 0
      · rw [if_pos (show nI n = (0 : Int32) by rw [z]; rfl), if_pos (Or.inl z)]
      · rw [if_neg (show ¬ nI n = (0 : Int32) from nI_ne0 (n := n) (by omega) (by omega)), if_neg (show ¬ (3 : Int32) ≤ nI n from nI_ge (a := n) (b := 3) (by omega) (by omega))]
        by_cases c : kdA tx N a = 1
        · rw [if_pos ((kM1 h.2.2.1).mpr c), if_pos (Or.inr c)]
        · rw [if_neg (fun q => c ((kM1 h.2.2.1).mp q)), if_neg (fun q => q.elim z c)]
    show LnM tx N s (b_X11_windowLine_49 (l_X11_windowLine_49 m) (nI n) u) (if n = 0 ∨ kdA tx N a = 1 then if nmb tx N 0 61 a then pLg tx N E p d (n + 1) (va_up L n (vlA tx N a)) (nxA tx N a) else (false, a, E) else pOf tx N E p n L a)
    rw [hstep]
    by_cases c : n = 0 ∨ kdA tx N a = 1
    · rw [if_pos c, if_pos c]
      unfold j_X11_windowLine_66
      rw [isNumber_m h (l := 0) (g := 61) (by decide) (by decide) (x1 := 0) (x2 := 60) rfl (by decide), bd_ok, one0]
      by_cases c2 : nmb tx N 0 61 a
      · have hv := c2.2.2
        obtain ⟨w, a1, a2, a3, a4, a5⟩ := ins_l (E := E) c2 (n := n) (by omega) (l_X11_windowLine_49 m) n FU (srt L n) u (FU_lt (by omega)) (Nat.le_refl n) h (fun j hj hne => ⟨h96 j (by omega), hS j (by omega)⟩)
        have hL2 : ∀ j, j < n + 1 → va_up L n (vlA tx N a) j ≤ 60 := fun j hj => by
          by_cases e : j = n
          · subst e; rw [vaN_eq]; omega
          · rw [vaN_ne e]; exact hL j (by omega)
        have es : srt (va_up L n (vlA tx N a)) (n + 1) = insL (vlA tx N a) n (srt L n) := by
          show insL (va_up L n (vlA tx N a) n) n (srt (va_up L n (vlA tx N a)) n) = _
          rw [vaN_eq, srt_cong n (fun j hj => vaN_ne (by omega))]
        rw [if_pos c2, if_pos c2]
        rw [a1]
        refine ih (n + 1) m (va_up L n (vlA tx N a)) (nxA tx N a) w (by omega) (by omega) a3 (hK.tr a2) hL2 (fun j hj => ?_) (by rw [a4]; exact h81) (fun j hj => by rw [es]; exact a5 j (by omega))
        have := srt_kth (L := va_up L n (vlA tx N a)) (n := n + 1) (r := j + 1) (by omega) (by omega) (by omega) hL2
        rw [show j + 1 - 1 = j by omega] at this
        rw [this]
        exact kthN_le _ _ _ _
      · rw [if_neg c2, if_neg c2]
        exact LnM_n h hK rfl
    · rw [if_neg c, if_neg c]
      exact w142_m h hK hn p (by omega) (by omega) hL h81 h96
theorem window_m {tx : Nat → Int32} {N A : Nat} {E : Dt} {s : St} (h : SM tx N A E s) (hB : BE E) (hn : E.1 2 < 12) : LnM tx N s (f_X11_windowLine s) (pWn tx N E A) := by
  have hP := hB.1.1
  obtain ⟨u1, a1, k1, h1⟩ := next_S h
  have K1 : Km s u1 := Km_nk k1
  unfold pWn f_X11_windowLine
  rw [h.2.2.2.1 (13, 2) (by decide), if_neg (show ¬ nI (E.1 2) = (12 : Int32) from fun q => by
    have := (nI_eq (a := E.1 2) (b := 12) (by omega) (by omega)).mp q
    omega), a1, bd_ok, named_m h1 hB, bd_ok, h1.2.2.2.1 (13, 2) (by decide), gi_nI (j := E.1 2) (n := 12) hn (by decide), cl_nI (n := E.1 2) (by omega)]
  generalize hr1 : (if hsP tx N E (nxA tx N A) then nI (fpN E (wdA tx N (nxA tx N A))) else (-1 : Int32)) = r1
  have h1w : SM tx N (nxA tx N A) E (wI u1 81 (E.1 2) r1) := SM_wI h1 (Or.inl (by decide)) (h1.2.2.2.w (q := (81, 4, 2)) (by decide) _)
  have K1w : Km s (wI u1 81 (E.1 2) r1) := K1.tr (Km_wI (by decide) _)
  have e1 : rI (wI u1 81 (E.1 2) r1) 81 (E.1 2) = r1 := rI_same _ _ _ _
  show LnM tx N s (gi (rI (wI u1 81 (E.1 2) r1) 74 13) 12 (if rI (wI u1 81 (E.1 2) r1) 81 (rI (wI u1 81 (E.1 2) r1) 74 13).toNatClampNeg = -1 then some (0, wI u1 81 (E.1 2) r1) else bd (f_X11_next (wI u1 81 (E.1 2) r1)) _)) _
  generalize wI u1 81 (E.1 2) r1 = u1w at *
  rw [h1w.2.2.2.1 (13, 2) (by decide), gi_nI (j := E.1 2) (n := 12) hn (by decide), cl_nI (n := E.1 2) (by omega), e1]
  by_cases c1 : hsP tx N E (nxA tx N A)
  · have hf1 := c1.2
    rw [if_pos c1] at hr1
    obtain ⟨u2, a2, k2, h2⟩ := next_S h1w
    rw [if_pos c1, if_neg (by rw [← hr1]; exact ne_m1 (by omega)), a2, bd_ok]
    exact w49_l hn _ 3 0 FU (fun _ => 0) _ u2 (by omega) (FU_lt (by omega)) h2 (K1w.tr (Km_nk k2)) (fun j hj => absurd hj (Nat.not_lt_zero j)) (fun j hj => absurd hj (Nat.not_lt_zero j)) (by rw [Kp_rI k2.1 (by decide), e1, hr1]) (fun j hj => absurd hj (Nat.not_lt_zero j))
  · rw [if_neg c1] at hr1
    rw [if_neg c1, if_pos hr1.symm]
    exact LnM_n h1w K1w rfl
