/-! ===== explain: the reference ===== -/
theorem ff30_l {D : Dt} {tx : Nat → Int32} (hb : Bw D) (hw : ∀ i, i < D.1 4 → D.2 13 i < D.1 2) : ∀ (j d n : Nat) (s : St), j + d = D.1 4 → j < n → RM D tx s → (∀ w, w < D.1 2 → rI s 98 w = nI (fj D (D.2 14) d j w) - 1) → ∃ u, l_X11_findFirstRows_30 n (nI j - 1) s = some ((), u) ∧ Kp [98] s u ∧ ∀ w, w < D.1 2 → rI u 98 w = nI (fsU D (D.2 14) (D.1 4) w) - 1 := by
  have hN := hb.1.2.2.2.2.1
  have hW := hb.1.2.2.1
  intro j
  induction j with
  | zero =>
    intro d n s hj hn hS h98
    obtain ⟨n, rfl⟩ : ∃ m, n = m + 1 := ⟨n - 1, by omega⟩
    refine ⟨s, ?_, Kp.rf, fun w hww => ?_⟩
    · show b_X11_findFirstRows_30 (l_X11_findFirstRows_30 n) (nI 0 - 1) s = _
      unfold b_X11_findFirstRows_30
      rw [nI_m1, if_pos (by decide)]
    · have := fsU_fj D (D.2 14) w d 0
      rw [if_pos (show fsU D (D.2 14) 0 w = 0 from rfl), hj] at this
      rw [this]
      exact h98 w hww
  | succ j ih =>
    intro d n s hj hn hS h98
    obtain ⟨n, rfl⟩ : ∃ m, n = m + 1 := ⟨n - 1, by omega⟩
    have hlt : j < D.1 4 := by omega
    have hwj := hw j hlt
    obtain ⟨u, a1, a2, a3⟩ := ih (d + 1) n (wI s 98 (D.2 13 j) (nI (D.2 14 j))) (by omega) (by omega) (hS.kp (ks := [98]) (Kp_wI Kp.rf (by decide) _ _) (by decide)) (fun w hww => by
      have e : fj D (D.2 14) (d + 1) j w = if D.2 13 j = w then D.2 14 j + 1 else fj D (D.2 14) d (j + 1) w := rfl
      rw [rI_wI, e]
      by_cases c : D.2 13 j = w
      · rw [if_pos ⟨rfl, c.symm⟩, if_pos c, nI_pred]
      · rw [if_neg (fun q => c q.2.symm), if_neg c]; exact h98 w hww)
    refine ⟨u, ?_, Kp.tr (Kp_wI Kp.rf (by decide) _ _) a2, a3⟩
    show b_X11_findFirstRows_30 (l_X11_findFirstRows_30 n) (nI (j + 1) - 1) s = _
    unfold b_X11_findFirstRows_30
    rw [nI_pred, if_neg (nI_pos (by omega)), gi_nI (lt_n hlt hN) (by decide), cl_nI (n := j) (by omega), gArrM hS (c := 94) (a := 13) (n := 4) (by decide) hlt, gArrM hS (c := 95) (a := 14) (n := 4) (by decide) hlt, gi_nI (lt_n hlt hN) (by decide), gi_nI (lt_n hwj hW) (by decide), cl_nI (n := D.2 13 j) (by omega)]
    rw [show nI j + -1 = nI j - 1 from (Int32.sub_eq_add_neg (nI j) 1).symm]
    exact a1
theorem ff2_l {D : Dt} {tx : Nat → Int32} (hb : Bw D) (hw : ∀ i, i < D.1 4 → D.2 13 i < D.1 2) : ∀ (d i n : Nat) (s : St), i + d = D.1 2 → d < n → RM D tx s → (∀ w, w < i → rI s 98 w = -1) → ∃ u, l_X11_findFirstRows_2 n (nI i) s = some ((), u) ∧ Kp [98] s u ∧ ∀ w, w < D.1 2 → rI u 98 w = nI (fsU D (D.2 14) (D.1 4) w) - 1 := by
  have hN := hb.1.2.2.2.2.1
  have hW := hb.1.2.2.1
  intro d
  induction d with
  | zero =>
    intro i n s hi hn hS h98
    obtain ⟨n, rfl⟩ : ∃ m, n = m + 1 := ⟨n - 1, by omega⟩
    obtain ⟨u, a1, a2, a3⟩ := ff30_l (tx := tx) hb hw (D.1 4) 0 FU s (by omega) (FU_lt (by omega)) hS (fun w hww => h98 w (by omega))
    refine ⟨u, ?_, a2, a3⟩
    show b_X11_findFirstRows_2 (l_X11_findFirstRows_2 n) (nI i) s = _
    unfold b_X11_findFirstRows_2
    rw [hS.1 (74, 24, 2) (by decide), if_pos (nI_le (a := D.1 2) (b := i) (by omega) (by omega)), hS.1 (74, 32, 4) (by decide)]
    exact a1
  | succ d ih =>
    intro i n s hi hn hS h98
    obtain ⟨n, rfl⟩ : ∃ m, n = m + 1 := ⟨n - 1, by omega⟩
    have hlt : i < D.1 2 := by omega
    obtain ⟨u, a1, a2, a3⟩ := ih (i + 1) n (wI s 98 i (-1)) (by omega) (by omega) (hS.kp (ks := [98]) (Kp_wI Kp.rf (by decide) _ _) (by decide)) (fun w hww => by
      by_cases e : w = i
      · subst e; exact rI_same _ _ _ _
      · rw [rI_nj e]; exact h98 w (by omega))
    refine ⟨u, ?_, Kp.tr (Kp_wI Kp.rf (by decide) _ _) a2, a3⟩
    show b_X11_findFirstRows_2 (l_X11_findFirstRows_2 n) (nI i) s = _
    unfold b_X11_findFirstRows_2
    rw [hS.1 (74, 24, 2) (by decide), if_neg (nI_ge (a := i) (b := D.1 2) hlt (by omega)), gi_nI (lt_n hlt hW) (by decide), cl_nI (n := i) (by omega), nI_1]
    exact a1
theorem firstRows_m {D : Dt} {tx : Nat → Int32} {s : St} (hS : RM D tx s) (hb : Bw D) (hw : ∀ i, i < D.1 4 → D.2 13 i < D.1 2) : ∃ u, f_X11_findFirstRows s = some ((), u) ∧ Kp [98] s u ∧ ∀ w, w < D.1 2 → rI u 98 w = nI (fsU D (D.2 14) (D.1 4) w) - 1 := by
  have hW := hb.1.2.2.1
  exact ff2_l hb hw (D.1 2) 0 FU s (by omega) (FU_lt (by omega)) hS (fun w hww => absurd hww (Nat.not_lt_zero w))
theorem wrong_l {D : Dt} {tx : Nat → Int32} {s : St} (hS : RM D tx s) (hb : Bw D) {ra : Nat → Nat} (hle : ∀ i, i < D.1 4 → ra i ≤ 999) {h : Int32} (h97 : ∀ p, p < D.1 0 → rI s 97 p = nI (fl D h p)) (h98 : ∀ w, w < D.1 2 → rI s 98 w = nI (fsU D ra (D.1 4) w) - 1) {b : Nat} (hbb : b ≤ 999) : ∀ (d i n : Nat), i + d = D.1 2 → d < n → l_X11_wrong_5 n (nI b) (nI (La D ra (D.1 4))) (bitsI (wrB D ra h b) i) (nI i) s = some (WR D ra h b, s) := by
  have hW := hb.1.2.2.1
  have hE := hb.1.2.2.2.2.2.1
  have hLa := La_le (D := D) hle (Nat.le_refl (D.1 4))
  intro d
  induction d with
  | zero =>
    intro i n hi hn
    obtain ⟨n, rfl⟩ : ∃ m, n = m + 1 := ⟨n - 1, by omega⟩
    have e : i = D.1 2 := by omega
    subst e
    show b_X11_wrong_5 (l_X11_wrong_5 n) _ _ _ (nI (D.1 2)) s = _
    unfold b_X11_wrong_5
    rw [hS.1 (74, 24, 2) (by decide), if_pos (nI_le (Nat.le_refl (D.1 2)) (by omega))]
    rfl
  | succ d ih =>
    intro i n hi hn
    obtain ⟨n, rfl⟩ : ∃ m, n = m + 1 := ⟨n - 1, by omega⟩
    have hlt : i < D.1 2 := by omega
    have hnext := ih (i + 1) n (by omega) (by omega)
    have hl := lu_G hb h hlt
    have hF := fsU_le hle i (D.1 4) (Nat.le_refl _)
    have hsu : bitsI (wrB D ra h b) (i + 1) = if wrB D ra h b i then bitsI (wrB D ra h b) i ||| ((1 : Int32) <<< (nI i &&& 31)) else bitsI (wrB D ra h b) i := rfl
    have hdef : wrB D ra h b i = true ↔ ((b : Int) < loS (fsU D ra (D.1 4) i) (La D ra (D.1 4)) (D.1 5) (lu D h i) ∨ hiS (fsU D ra (D.1 4) i) (D.1 5) (lu D h i) < (b : Int)) := by unfold wrB; simp only [decide_eq_true_eq]
    have yes : wrB D ra h b i = true → j_X11_wrong_106 (l_X11_wrong_5 n) (nI b) (nI (La D ra (D.1 4))) (bitsI (wrB D ra h b) i) (nI i) 0 s = some (WR D ra h b, s) := fun q => by
      unfold j_X11_wrong_106
      rw [if_pos rfl, nI_1, ← hnext, hsu, if_pos q]
    have no : ¬ wrB D ra h b i = true → j_X11_wrong_106 (l_X11_wrong_5 n) (nI b) (nI (La D ra (D.1 4))) (bitsI (wrB D ra h b) i) (nI i) 1 s = some (WR D ra h b, s) := fun q => by
      unfold j_X11_wrong_106
      rw [if_neg (by decide), or_0, nI_1, ← hnext, hsu, if_neg q]
    generalize hFe : fsU D ra (D.1 4) i = F at *
    generalize hLe : La D ra (D.1 4) = L at *
    generalize hle1 : lu D h i = l at *
    have key : ∀ t : Nat, (l = 1000000 ∧ t = 1000000) ∨ (l ≤ 780 ∧ t = l + b) → j_X11_wrong_39 (l_X11_wrong_5 n) (nI b) (nI L) (bitsI (wrB D ra h b) i) (nI i) (nI t) s = some (WR D ra h b, s) := by
      intro t ht
      have et := nI_toInt (n := t) (by omega)
      have eE := nI_toInt (n := D.1 5) (by omega)
      unfold j_X11_wrong_39
      rw [gi_nI (lt_n hlt hW) (by decide), cl_nI (n := i) (by omega), h98 i hlt, hFe, hS.1 (74, 35, 5) (by decide)]
      by_cases z : F = 0
      · subst z
        show (if nI 0 - 1 = (-1 : Int32) then (if nI t ≤ nI L then _ else _) else _) = _
        rw [if_pos (by decide)]
        by_cases c : t ≤ L
        · rw [if_pos (nI_le c (by omega))]
          exact yes (hdef.mpr (Or.inl (by unfold loS; rw [if_pos rfl, if_pos (by omega)]; omega)))
        · rw [if_neg (nI_ge (by omega) (by omega))]
          refine no (fun q => ?_)
          have := hdef.mp q
          unfold loS hiS at this
          rw [if_pos rfl, if_pos rfl] at this
          by_cases c2 : l < 1000000
          · rw [if_pos c2] at this; omega
          · rw [if_neg c2] at this; omega
      · have hp : nI F - 1 = nI (F - 1) := pk_sub (a := F) (b := 1) (by omega)
        have eF := nI_toInt (n := F - 1) (by omega)
        rw [hp]
        show (if nI (F - 1) = (-1 : Int32) then _ else (if nI t = 1000000 then _ else (if nI (D.1 5) < nI t - nI (F - 1) then _ else (if nI (D.1 5) < nI (F - 1) - nI t then _ else _)))) = _
        rw [if_neg (ne_m1 (by omega))]
        by_cases c : t = 1000000
        · rw [if_pos (by rw [c]; rfl)]
          exact yes (hdef.mpr (Or.inl (by unfold loS; rw [if_neg z, if_neg (by omega)]; omega)))
        · rw [if_neg (far_ne (by omega))]
          have q1 : (nI t - nI (F - 1)).toInt = (t : Int) - (F - 1 : Nat) := by rw [fb_subI (by omega) (by omega), et, eF]
          have q2 : (nI (F - 1) - nI t).toInt = ((F - 1 : Nat) : Int) - t := by rw [fb_subI (by omega) (by omega), et, eF]
          have hd2 : wrB D ra h b i = true ↔ ((b : Int) < (F : Int) - 1 - l - D.1 5 ∨ (F : Int) - 1 - l + D.1 5 < (b : Int)) := by
            rw [hdef]
            unfold loS hiS
            rw [if_neg z, if_neg z, if_pos (by omega), if_pos (by omega)]
          by_cases c1 : nI (D.1 5) < nI t - nI (F - 1)
          · rw [if_pos c1]
            rw [fa_lt, q1, eE] at c1
            exact yes (hd2.mpr (by omega))
          · rw [if_neg c1]
            rw [fa_lt, q1, eE] at c1
            by_cases c2 : nI (D.1 5) < nI (F - 1) - nI t
            · rw [if_pos c2]
              rw [fa_lt, q2, eE] at c2
              exact yes (hd2.mpr (by omega))
            · rw [if_neg c2]
              rw [fa_lt, q2, eE] at c2
              exact no (fun q => by have := hd2.mp q; omega)
    show b_X11_wrong_5 (l_X11_wrong_5 n) _ _ _ (nI i) s = _
    unfold b_X11_wrong_5
    rw [hS.1 (74, 24, 2) (by decide), if_neg (nI_ge (a := i) (b := D.1 2) hlt (by omega)), litAt0_m hS hb h97 hlt, bd_ok, hle1]
    by_cases c : l = 1000000
    · rw [if_pos (by rw [c]; rfl)]
      exact key 1000000 (Or.inl ⟨c, rfl⟩)
    · rw [if_neg (far_ne (by omega)), nI_add]
      exact key (l + b) (Or.inr ⟨by omega, rfl⟩)
theorem wrong_m {D : Dt} {tx : Nat → Int32} {s : St} (hS : RM D tx s) (hb : Bw D) {ra : Nat → Nat} (hle : ∀ i, i < D.1 4 → ra i ≤ 999) {h : Int32} (h97 : ∀ p, p < D.1 0 → rI s 97 p = nI (fl D h p)) (h98 : ∀ w, w < D.1 2 → rI s 98 w = nI (fsU D ra (D.1 4) w) - 1) {b : Nat} (hbb : b ≤ 999) : f_X11_wrong (nI b) (nI (La D ra (D.1 4))) s = some (WR D ra h b, s) := by
  have hW := hb.1.2.2.1
  exact wrong_l hS hb hle h97 h98 hbb (D.1 2) 0 FU (by omega) (FU_lt (by omega))
theorem onN_bits (p : Nat → Bool) {n : Nat} (hn : n ≤ 12) : onN (bitsN p n) = fb_ct p n := by
  unfold onN
  rw [← ct_cut p hn]
  exact fb_ct_cong (fun i _ => bitsN_test p n i)
theorem ones_WR {D : Dt} (hb : Bw D) {ra : Nat → Nat} {h : Int32} {b : Nat} (s : St) : f_X11_ones (WR D ra h b) s = some (nI (cn D ra h b), s) := by
  have hW := hb.1.2.2.1
  unfold WR cn
  rw [bitsI_N _ (by omega), ones_m, onN_bits _ hW]
