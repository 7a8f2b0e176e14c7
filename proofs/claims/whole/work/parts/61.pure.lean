/-! ===== a new plant ===== -/
theorem ansR_m1 {N : Nat} (hN : N ≤ 600) {R : Ln} (hR : R.2.1 ≤ N) : ansR N R = -1 ↔ R.1 = true ∧ R.2.2.1 0 ≠ 0 := by
  unfold ansR
  by_cases c : R.1 = true
  · rw [if_pos c]
    by_cases z : R.2.2.1 0 = 0
    · rw [if_pos z]
      exact ⟨fun q => absurd q (ne_m1 (by omega)), fun q => absurd z q.2⟩
    · rw [if_neg z]
      exact ⟨fun _ => ⟨c, z⟩, fun _ => rfl⟩
  · rw [if_neg c]
    exact ⟨fun q => absurd q (ne_m1 (by omega)), fun q => absurd q.1 c⟩
/-! the class copies the draft -/
theorem cp6_l {tx : Nat → Int32} {N : Nat} {E : Dt} (hB : BE E) : ∀ (d i n : Nat) (s : St), i + d = E.1 0 → d < n → DC tx N E s → rI s 8 0 = nI i → (∀ j, j < i → rI s 9 j = nI (E.2 0 j)) → ∃ u, l_X3_copyFrom_p_d_6 n (nI i) s = l_X3_copyFrom_p_d_32 FU 0 u ∧ Kp [8, 9] s u ∧ (∀ j, j ≠ 0 → rI u 8 j = rI s 8 j) ∧ rI u 8 0 = nI (E.1 0) ∧ ∀ j, j < E.1 0 → rI u 9 j = nI (E.2 0 j) := by
  have hb := hB.1
  intro d
  induction d with
  | zero =>
    intro i n s hi hn hd h8 hv
    obtain ⟨n, rfl⟩ : ∃ m, n = m + 1 := ⟨n - 1, by omega⟩
    have e : i = E.1 0 := by omega
    subst e
    refine ⟨s, ?_, Kp.rf, fun _ _ => rfl, h8, hv⟩
    show b_X3_copyFrom_p_d_6 (l_X3_copyFrom_p_d_6 n) (nI (E.1 0)) s = _
    unfold b_X3_copyFrom_p_d_6
    rw [hd.1 0 (by decide), if_pos (nI_le (Nat.le_refl (E.1 0)) (by omega))]
  | succ d ih =>
    intro i n s hi hn hd h8 hv
    obtain ⟨n, rfl⟩ : ∃ m, n = m + 1 := ⟨n - 1, by omega⟩
    have hlt : i < E.1 0 := by omega
    have k1 : Kp [8, 9] s (wI (wI s 9 i (nI (E.2 0 i))) 8 0 (nI (i + 1))) := Kp_wI (Kp_wI Kp.rf (by decide) _ _) (by decide) _ _
    obtain ⟨u, a1, a2, a3, a4, a5⟩ := ih (i + 1) n (wI (wI s 9 i (nI (E.2 0 i))) 8 0 (nI (i + 1))) (by omega) (by omega) (hd.kp k1 (by decide)) (rI_same _ _ _ _) (fun j hj => by
      by_cases e : j = i
      · subst e
        exact by rw [rI_nk (by decide), rI_same]
      · rw [rI_nk (by decide), rI_nj e]; exact hv j (by omega))
    refine ⟨u, ?_, k1.tr a2, fun j hj => by rw [a3 j hj, rI_nj hj, rI_nk (by decide)], a4, a5⟩
    refine Eq.trans ?_ a1
    show b_X3_copyFrom_p_d_6 (l_X3_copyFrom_p_d_6 n) (nI i) s = _
    unfold b_X3_copyFrom_p_d_6 f_X3_addPoint_p
    rw [hd.1 0 (by decide), if_neg (nI_ge (a := i) (b := E.1 0) hlt (by omega)), gi_nI (j := i) (n := 12) (by omega) (by decide), cl_nI (n := i) (by omega), h8, if_neg (show ¬ (12 : Int32) ≤ nI i from nI_ge (a := i) (b := 12) (by omega) (by omega)), gi_nI (j := i) (n := 12) (by omega) (by decide), cl_nI (n := i) (by omega), hd.2.1 (19, 0, 0) (by decide) i hlt, nI_1]
    rw [nar01 ((hB.2.1 i hlt).1)]
    show l_X3_copyFrom_p_d_6 n (nI (i + 1)) (wI (wI s 9 i (nI (E.2 0 i))) 8 0 (rI (wI s 9 i (nI (E.2 0 i))) 8 0 + 1)) = _
    rw [rI_nk (by decide), h8, nI_1]
theorem cp32_l {tx : Nat → Int32} {N : Nat} {E : Dt} (hB : BE E) : ∀ (d i n : Nat) (s : St), i + d = E.1 1 → d < n → DC tx N E s → rI s 8 1 = nI i → (∀ j, j < i → rI s 10 j = nI (E.2 1 j) ∧ rI s 11 j = nI (E.2 2 j) ∧ rI s 12 j = nI (E.2 3 j)) → ∃ u, l_X3_copyFrom_p_d_32 n (nI i) s = l_X3_copyFrom_p_d_70 FU 0 u ∧ Kp [8, 10, 11, 12] s u ∧ (∀ j, j ≠ 1 → rI u 8 j = rI s 8 j) ∧ rI u 8 1 = nI (E.1 1) ∧ ∀ j, j < E.1 1 → rI u 10 j = nI (E.2 1 j) ∧ rI u 11 j = nI (E.2 2 j) ∧ rI u 12 j = nI (E.2 3 j) := by
  have hb := hB.1
  intro d
  induction d with
  | zero =>
    intro i n s hi hn hd h8 hv
    obtain ⟨n, rfl⟩ : ∃ m, n = m + 1 := ⟨n - 1, by omega⟩
    have e : i = E.1 1 := by omega
    subst e
    refine ⟨s, ?_, Kp.rf, fun _ _ => rfl, h8, hv⟩
    show b_X3_copyFrom_p_d_32 (l_X3_copyFrom_p_d_32 n) (nI (E.1 1)) s = _
    unfold b_X3_copyFrom_p_d_32
    rw [hd.1 1 (by decide), if_pos (nI_le (Nat.le_refl (E.1 1)) (by omega))]
  | succ d ih =>
    intro i n s hi hn hd h8 hv
    obtain ⟨n, rfl⟩ : ∃ m, n = m + 1 := ⟨n - 1, by omega⟩
    have hlt : i < E.1 1 := by omega
    have k1 : Kp [8, 10, 11, 12] s (wI (wI (wI (wI s 10 i (nI (E.2 1 i))) 11 i (nI (E.2 2 i))) 12 i (nI (E.2 3 i))) 8 1 (nI (i + 1))) := Kp_wI (Kp_wI (Kp_wI (Kp_wI Kp.rf (by decide) _ _) (by decide) _ _) (by decide) _ _) (by decide) _ _
    obtain ⟨u, a1, a2, a3, a4, a5⟩ := ih (i + 1) n (wI (wI (wI (wI s 10 i (nI (E.2 1 i))) 11 i (nI (E.2 2 i))) 12 i (nI (E.2 3 i))) 8 1 (nI (i + 1))) (by omega) (by omega) (hd.kp k1 (by decide)) (rI_same _ _ _ _) (fun j hj => by
      by_cases e : j = i
      · subst e
        exact ⟨by rw [rI_nk (by decide), rI_nk (by decide), rI_nk (by decide), rI_same], by rw [rI_nk (by decide), rI_nk (by decide), rI_same], by rw [rI_nk (by decide), rI_same]⟩
      · exact ⟨by rw [rI_nk (by decide), rI_nk (by decide), rI_nk (by decide), rI_nj e]; exact (hv j (by omega)).1, by rw [rI_nk (by decide), rI_nk (by decide), rI_nj e, rI_nk (by decide)]; exact (hv j (by omega)).2.1, by rw [rI_nk (by decide), rI_nj e, rI_nk (by decide), rI_nk (by decide)]; exact (hv j (by omega)).2.2⟩)
    refine ⟨u, ?_, k1.tr a2, fun j hj => by rw [a3 j hj, rI_nj hj, rI_nk (by decide), rI_nk (by decide), rI_nk (by decide)], a4, a5⟩
    refine Eq.trans ?_ a1
    show b_X3_copyFrom_p_d_32 (l_X3_copyFrom_p_d_32 n) (nI i) s = _
    unfold b_X3_copyFrom_p_d_32 f_X3_addArc_p
    rw [hd.1 1 (by decide), if_neg (nI_ge (a := i) (b := E.1 1) hlt (by omega)), gi_nI (j := i) (n := 24) (by omega) (by decide), gi_nI (j := i) (n := 24) (by omega) (by decide), gi_nI (j := i) (n := 24) (by omega) (by decide), cl_nI (n := i) (by omega), h8, if_neg (show ¬ (24 : Int32) ≤ nI i from nI_ge (a := i) (b := 24) (by omega) (by omega)), gi_nI (j := i) (n := 24) (by omega) (by decide), cl_nI (n := i) (by omega), hd.2.1 (20, 1, 1) (by decide) i hlt, hd.2.1 (21, 2, 1) (by decide) i hlt, hd.2.1 (22, 3, 1) (by decide) i hlt, nI_1]
    show bd (gi (rI (wI s 10 i (nI (E.2 1 i))) 8 1) 24 (gi (rI (wI (wI s 10 i (nI (E.2 1 i))) 11 (rI (wI s 10 i (nI (E.2 1 i))) 8 1).toNatClampNeg (nI (E.2 2 i))) 8 1) 24 (some ((), wI (wI (wI (wI s 10 i (nI (E.2 1 i))) 11 (rI (wI s 10 i (nI (E.2 1 i))) 8 1).toNatClampNeg (nI (E.2 2 i))) 12 (rI (wI (wI s 10 i (nI (E.2 1 i))) 11 (rI (wI s 10 i (nI (E.2 1 i))) 8 1).toNatClampNeg (nI (E.2 2 i))) 8 1).toNatClampNeg (nI (E.2 3 i))) 8 1 (rI (wI (wI (wI s 10 i (nI (E.2 1 i))) 11 (rI (wI s 10 i (nI (E.2 1 i))) 8 1).toNatClampNeg (nI (E.2 2 i))) 12 (rI (wI (wI s 10 i (nI (E.2 1 i))) 11 (rI (wI s 10 i (nI (E.2 1 i))) 8 1).toNatClampNeg (nI (E.2 2 i))) 8 1).toNatClampNeg (nI (E.2 3 i))) 8 1 + 1))))) (fun _ t => l_X3_copyFrom_p_d_32 n (nI (i + 1)) t) = _
    simp only [rI_nk (show (8 : Nat) ≠ 10 by decide), rI_nk (show (8 : Nat) ≠ 11 by decide), rI_nk (show (8 : Nat) ≠ 12 by decide), h8, cl_nI (show i < 2 ^ 31 by omega), nI_1]
    rw [gi_nI (j := i) (n := 24) (by omega) (by decide), gi_nI (j := i) (n := 24) (by omega) (by decide), bd_ok]
theorem cp70_l {tx : Nat → Int32} {N : Nat} {E : Dt} (hB : BE E) : ∀ (d i n : Nat) (s : St), i + d = E.1 2 → d < n → DC tx N E s → rI s 8 2 = nI i → (∀ j, j < i → rI s 13 j = nI (E.2 4 j) ∧ rI s 14 j = nI (E.2 5 j)) → ∃ u, l_X3_copyFrom_p_d_70 n (nI i) s = l_X3_copyFrom_p_d_102 FU 0 u ∧ Kp [8, 13, 14] s u ∧ (∀ j, j ≠ 2 → rI u 8 j = rI s 8 j) ∧ rI u 8 2 = nI (E.1 2) ∧ ∀ j, j < E.1 2 → rI u 13 j = nI (E.2 4 j) ∧ rI u 14 j = nI (E.2 5 j) := by
  have hb := hB.1
  intro d
  induction d with
  | zero =>
    intro i n s hi hn hd h8 hv
    obtain ⟨n, rfl⟩ : ∃ m, n = m + 1 := ⟨n - 1, by omega⟩
    have e : i = E.1 2 := by omega
    subst e
    refine ⟨s, ?_, Kp.rf, fun _ _ => rfl, h8, hv⟩
    show b_X3_copyFrom_p_d_70 (l_X3_copyFrom_p_d_70 n) (nI (E.1 2)) s = _
    unfold b_X3_copyFrom_p_d_70
    rw [hd.1 2 (by decide), if_pos (nI_le (Nat.le_refl (E.1 2)) (by omega))]
  | succ d ih =>
    intro i n s hi hn hd h8 hv
    obtain ⟨n, rfl⟩ : ∃ m, n = m + 1 := ⟨n - 1, by omega⟩
    have hlt : i < E.1 2 := by omega
    have k1 : Kp [8, 13, 14] s (wI (wI (wI s 13 i (nI (E.2 4 i))) 14 i (nI (E.2 5 i))) 8 2 (nI (i + 1))) := Kp_wI (Kp_wI (Kp_wI Kp.rf (by decide) _ _) (by decide) _ _) (by decide) _ _
    obtain ⟨u, a1, a2, a3, a4, a5⟩ := ih (i + 1) n (wI (wI (wI s 13 i (nI (E.2 4 i))) 14 i (nI (E.2 5 i))) 8 2 (nI (i + 1))) (by omega) (by omega) (hd.kp k1 (by decide)) (rI_same _ _ _ _) (fun j hj => by
      by_cases e : j = i
      · subst e
        exact ⟨by rw [rI_nk (by decide), rI_nk (by decide), rI_same], by rw [rI_nk (by decide), rI_same]⟩
      · exact ⟨by rw [rI_nk (by decide), rI_nk (by decide), rI_nj e]; exact (hv j (by omega)).1, by rw [rI_nk (by decide), rI_nj e, rI_nk (by decide)]; exact (hv j (by omega)).2⟩)
    refine ⟨u, ?_, k1.tr a2, fun j hj => by rw [a3 j hj, rI_nj hj, rI_nk (by decide), rI_nk (by decide)], a4, a5⟩
    refine Eq.trans ?_ a1
    show b_X3_copyFrom_p_d_70 (l_X3_copyFrom_p_d_70 n) (nI i) s = _
    unfold b_X3_copyFrom_p_d_70 f_X3_addWindow_p
    rw [hd.1 2 (by decide), if_neg (nI_ge (a := i) (b := E.1 2) hlt (by omega)), gi_nI (j := i) (n := 12) (by omega) (by decide), gi_nI (j := i) (n := 12) (by omega) (by decide), cl_nI (n := i) (by omega), h8, if_neg (show ¬ (12 : Int32) ≤ nI i from nI_ge (a := i) (b := 12) (by omega) (by omega)), gi_nI (j := i) (n := 12) (by omega) (by decide), cl_nI (n := i) (by omega), hd.2.1 (23, 4, 2) (by decide) i hlt, hd.2.1 (24, 5, 2) (by decide) i hlt, nI_1]
    show bd (gi (rI (wI s 13 i (nI (E.2 4 i))) 8 2) 12 (some ((), wI (wI (wI s 13 i (nI (E.2 4 i))) 14 (rI (wI s 13 i (nI (E.2 4 i))) 8 2).toNatClampNeg (nI (E.2 5 i))) 8 2 (rI (wI (wI s 13 i (nI (E.2 4 i))) 14 (rI (wI s 13 i (nI (E.2 4 i))) 8 2).toNatClampNeg (nI (E.2 5 i))) 8 2 + 1)))) (fun _ t => l_X3_copyFrom_p_d_70 n (nI (i + 1)) t) = _
    simp only [rI_nk (show (8 : Nat) ≠ 13 by decide), rI_nk (show (8 : Nat) ≠ 14 by decide), h8, cl_nI (show i < 2 ^ 31 by omega), nI_1]
    rw [gi_nI (j := i) (n := 12) (by omega) (by decide), bd_ok]
theorem cp102_l {tx : Nat → Int32} {N : Nat} {E : Dt} (hB : BE E) : ∀ (d i n : Nat) (s : St), i + d = E.1 3 → d < n → DC tx N E s → rI s 8 3 = nI i → (∀ j, j < i → rI s 15 j = nI (E.2 6 j) ∧ rI s 16 j = nI (E.2 7 j) ∧ rI s 17 j = nI (E.2 8 j) - 1) → ∃ u, l_X3_copyFrom_p_d_102 n (nI i) s = some ((), u) ∧ Kp [8, 15, 16, 17] s u ∧ (∀ j, j ≠ 3 → rI u 8 j = rI s 8 j) ∧ rI u 8 3 = nI (E.1 3) ∧ ∀ j, j < E.1 3 → rI u 15 j = nI (E.2 6 j) ∧ rI u 16 j = nI (E.2 7 j) ∧ rI u 17 j = nI (E.2 8 j) - 1 := by
  have hb := hB.1
  intro d
  induction d with
  | zero =>
    intro i n s hi hn hd h8 hv
    obtain ⟨n, rfl⟩ : ∃ m, n = m + 1 := ⟨n - 1, by omega⟩
    have e : i = E.1 3 := by omega
    subst e
    refine ⟨s, ?_, Kp.rf, fun _ _ => rfl, h8, hv⟩
    show b_X3_copyFrom_p_d_102 (l_X3_copyFrom_p_d_102 n) (nI (E.1 3)) s = _
    unfold b_X3_copyFrom_p_d_102
    rw [hd.1 3 (by decide), if_pos (nI_le (Nat.le_refl (E.1 3)) (by omega))]
  | succ d ih =>
    intro i n s hi hn hd h8 hv
    obtain ⟨n, rfl⟩ : ∃ m, n = m + 1 := ⟨n - 1, by omega⟩
    have hlt : i < E.1 3 := by omega
    have k1 : Kp [8, 15, 16, 17] s (wI (wI (wI (wI s 15 i (nI (E.2 6 i))) 16 i (nI (E.2 7 i))) 17 i (nI (E.2 8 i) - 1)) 8 3 (nI (i + 1))) := Kp_wI (Kp_wI (Kp_wI (Kp_wI Kp.rf (by decide) _ _) (by decide) _ _) (by decide) _ _) (by decide) _ _
    obtain ⟨u, a1, a2, a3, a4, a5⟩ := ih (i + 1) n (wI (wI (wI (wI s 15 i (nI (E.2 6 i))) 16 i (nI (E.2 7 i))) 17 i (nI (E.2 8 i) - 1)) 8 3 (nI (i + 1))) (by omega) (by omega) (hd.kp k1 (by decide)) (rI_same _ _ _ _) (fun j hj => by
      by_cases e : j = i
      · subst e
        exact ⟨by rw [rI_nk (by decide), rI_nk (by decide), rI_nk (by decide), rI_same], by rw [rI_nk (by decide), rI_nk (by decide), rI_same], by rw [rI_nk (by decide), rI_same]⟩
      · exact ⟨by rw [rI_nk (by decide), rI_nk (by decide), rI_nk (by decide), rI_nj e]; exact (hv j (by omega)).1, by rw [rI_nk (by decide), rI_nk (by decide), rI_nj e, rI_nk (by decide)]; exact (hv j (by omega)).2.1, by rw [rI_nk (by decide), rI_nj e, rI_nk (by decide), rI_nk (by decide)]; exact (hv j (by omega)).2.2⟩)
    refine ⟨u, ?_, k1.tr a2, fun j hj => by rw [a3 j hj, rI_nj hj, rI_nk (by decide), rI_nk (by decide), rI_nk (by decide)], a4, a5⟩
    refine Eq.trans ?_ a1
    show b_X3_copyFrom_p_d_102 (l_X3_copyFrom_p_d_102 n) (nI i) s = _
    unfold b_X3_copyFrom_p_d_102 f_X3_addRule_p
    rw [hd.1 3 (by decide), if_neg (nI_ge (a := i) (b := E.1 3) hlt (by omega)), gi_nI (j := i) (n := 8) (by omega) (by decide), gi_nI (j := i) (n := 8) (by omega) (by decide), gi_nI (j := i) (n := 8) (by omega) (by decide), cl_nI (n := i) (by omega), h8, if_neg (show ¬ (8 : Int32) ≤ nI i from nI_ge (a := i) (b := 8) (by omega) (by omega)), gi_nI (j := i) (n := 8) (by omega) (by decide), cl_nI (n := i) (by omega), hd.2.1 (25, 6, 3) (by decide) i hlt, hd.2.1 (26, 7, 3) (by decide) i hlt, hd.2.2.1 i hlt, nI_1]
    show bd (gi (rI (wI s 15 i (nI (E.2 6 i))) 8 3) 8 (gi (rI (wI (wI s 15 i (nI (E.2 6 i))) 16 (rI (wI s 15 i (nI (E.2 6 i))) 8 3).toNatClampNeg (nI (E.2 7 i))) 8 3) 8 (some ((), wI (wI (wI (wI s 15 i (nI (E.2 6 i))) 16 (rI (wI s 15 i (nI (E.2 6 i))) 8 3).toNatClampNeg (nI (E.2 7 i))) 17 (rI (wI (wI s 15 i (nI (E.2 6 i))) 16 (rI (wI s 15 i (nI (E.2 6 i))) 8 3).toNatClampNeg (nI (E.2 7 i))) 8 3).toNatClampNeg (nI (E.2 8 i) - 1)) 8 3 (rI (wI (wI (wI s 15 i (nI (E.2 6 i))) 16 (rI (wI s 15 i (nI (E.2 6 i))) 8 3).toNatClampNeg (nI (E.2 7 i))) 17 (rI (wI (wI s 15 i (nI (E.2 6 i))) 16 (rI (wI s 15 i (nI (E.2 6 i))) 8 3).toNatClampNeg (nI (E.2 7 i))) 8 3).toNatClampNeg (nI (E.2 8 i) - 1)) 8 3 + 1))))) (fun _ t => l_X3_copyFrom_p_d_102 n (nI (i + 1)) t) = _
    simp only [rI_nk (show (8 : Nat) ≠ 15 by decide), rI_nk (show (8 : Nat) ≠ 16 by decide), rI_nk (show (8 : Nat) ≠ 17 by decide), h8, cl_nI (show i < 2 ^ 31 by omega), nI_1]
    rw [gi_nI (j := i) (n := 8) (by omega) (by decide), gi_nI (j := i) (n := 8) (by omega) (by decide), bd_ok]
theorem copy_c {tx : Nat → Int32} {N : Nat} {E : Dt} (hB : BE E) {s : St} (hd : DC tx N E s) : ∃ u, f_X3_copyFrom_p_d s = some ((), u) ∧ Kp [8, 9, 10, 11, 12, 13, 14, 15, 16, 17] s u ∧ (∀ k, k < 4 → rI u 8 k = nI (E.1 k)) ∧ (∀ j, j < E.1 0 → rI u 9 j = nI (E.2 0 j)) ∧ (∀ j, j < E.1 1 → rI u 10 j = nI (E.2 1 j) ∧ rI u 11 j = nI (E.2 2 j) ∧ rI u 12 j = nI (E.2 3 j)) ∧ (∀ j, j < E.1 2 → rI u 13 j = nI (E.2 4 j) ∧ rI u 14 j = nI (E.2 5 j)) ∧ ∀ j, j < E.1 3 → rI u 15 j = nI (E.2 6 j) ∧ rI u 16 j = nI (E.2 7 j) ∧ rI u 17 j = nI (E.2 8 j) - 1 := by
  have hb := hB.1
  have k0 : Kp [8] s (wI (wI (wI (wI s 8 0 0) 8 1 0) 8 2 0) 8 3 0) := Kp_wI (Kp_wI (Kp_wI (Kp_wI Kp.rf (by decide) _ _) (by decide) _ _) (by decide) _ _) (by decide) _ _
  have z0 : rI (wI (wI (wI (wI s 8 0 0) 8 1 0) 8 2 0) 8 3 0) 8 0 = nI 0 := by rw [rI_nj (by decide), rI_nj (by decide), rI_nj (by decide), rI_same]; rfl
  have z1 : rI (wI (wI (wI (wI s 8 0 0) 8 1 0) 8 2 0) 8 3 0) 8 1 = nI 0 := by rw [rI_nj (by decide), rI_nj (by decide), rI_same]; rfl
  have z2 : rI (wI (wI (wI (wI s 8 0 0) 8 1 0) 8 2 0) 8 3 0) 8 2 = nI 0 := by rw [rI_nj (by decide), rI_same]; rfl
  have z3 : rI (wI (wI (wI (wI s 8 0 0) 8 1 0) 8 2 0) 8 3 0) 8 3 = nI 0 := by rw [rI_same]; rfl
  have e0 : f_X3_clear_p s = some ((), wI (wI (wI (wI s 8 0 0) 8 1 0) 8 2 0) 8 3 0) := rfl
  generalize wI (wI (wI (wI s 8 0 0) 8 1 0) 8 2 0) 8 3 0 = s0 at *
  have d0 := hd.kp k0 (by decide)
  obtain ⟨u1, a1, a2, a3, a4, a5⟩ := cp6_l hB (E.1 0) 0 FU s0 (by omega) (FU_lt (by omega)) d0 z0 (fun j hj => absurd hj (Nat.not_lt_zero j))
  have d1 := d0.kp a2 (by decide)
  obtain ⟨u2, b1, b2, b3, b4, b5⟩ := cp32_l hB (E.1 1) 0 FU u1 (by omega) (FU_lt (by omega)) d1 (by rw [a3 1 (by decide)]; exact z1) (fun j hj => absurd hj (Nat.not_lt_zero j))
  have d2 := d1.kp b2 (by decide)
  obtain ⟨u3, c1, c2, c3, c4, c5⟩ := cp70_l hB (E.1 2) 0 FU u2 (by omega) (FU_lt (by omega)) d2 (by rw [b3 2 (by decide), a3 2 (by decide)]; exact z2) (fun j hj => absurd hj (Nat.not_lt_zero j))
  have d3 := d2.kp c2 (by decide)
  obtain ⟨u4, g1, g2, g3, g4, g5⟩ := cp102_l hB (E.1 3) 0 FU u3 (by omega) (FU_lt (by omega)) d3 (by rw [c3 3 (by decide), b3 3 (by decide), a3 3 (by decide)]; exact z3) (fun j hj => absurd hj (Nat.not_lt_zero j))
  refine ⟨u4, ?_, ((k0.mono (by decide)).tr (a2.mono (by decide))).tr (((b2.mono (by decide)).tr (c2.mono (by decide))).tr (g2.mono (by decide))), fun k hk => ?_, fun j hj => ?_, fun j hj => ?_, fun j hj => ?_, g5⟩
  · unfold f_X3_copyFrom_p_d
    rw [e0, bd_ok]
    exact a1.trans (b1.trans (c1.trans g1))
  · have : k = 0 ∨ k = 1 ∨ k = 2 ∨ k = 3 := by omega
    rcases this with rfl | rfl | rfl | rfl
    · rw [g3 0 (by decide), c3 0 (by decide), b3 0 (by decide)]; exact a4
    · rw [g3 1 (by decide), c3 1 (by decide)]; exact b4
    · rw [g3 2 (by decide)]; exact c4
    · exact g4
  · rw [Kp_rI g2 (by decide), Kp_rI c2 (by decide), Kp_rI b2 (by decide)]; exact a5 j hj
  · rw [Kp_rI g2 (by decide), Kp_rI c2 (by decide), Kp_rI g2 (by decide), Kp_rI c2 (by decide), Kp_rI g2 (by decide), Kp_rI c2 (by decide)]; exact b5 j hj
  · rw [Kp_rI g2 (by decide), Kp_rI g2 (by decide)]; exact c5 j hj
theorem fill33_l (v : Int32) : ∀ (d i n : Nat) (s : St), i + d = 12 → d < n → (∀ j, j < i → rI s 33 j = v) → ∃ u, l_J7_fill_53178_33_5 n v (nI i) (nI 12) s = some ((), u) ∧ Kp [33] s u ∧ ∀ j, j < 12 → rI u 33 j = v := by
  intro d
  induction d with
  | zero =>
    intro i n s hi hn hv
    obtain ⟨n, rfl⟩ : ∃ m, n = m + 1 := ⟨n - 1, by omega⟩
    refine ⟨s, ?_, Kp.rf, fun j hj => hv j (by omega)⟩
    show b_J7_fill_53178_33_5 (l_J7_fill_53178_33_5 n) _ (nI i) _ s = _
    unfold b_J7_fill_53178_33_5
    rw [if_pos (nI_le (a := 12) (b := i) (by omega) (by omega))]
  | succ d ih =>
    intro i n s hi hn hv
    obtain ⟨n, rfl⟩ : ∃ m, n = m + 1 := ⟨n - 1, by omega⟩
    obtain ⟨u, a1, a2, a3⟩ := ih (i + 1) n (wI s 33 i v) (by omega) (by omega) (fun j hj => by
      by_cases e : j = i
      · subst e; exact rI_same _ _ _ _
      · rw [rI_nj e]; exact hv j (by omega))
    refine ⟨u, ?_, Kp.tr (Kp_wI Kp.rf (by decide) _ _) a2, a3⟩
    show b_J7_fill_53178_33_5 (l_J7_fill_53178_33_5 n) _ (nI i) _ s = _
    unfold b_J7_fill_53178_33_5
    rw [if_neg (nI_ge (a := i) (b := 12) (by omega) (by omega)), gi_nI (j := i) (n := 12) (by omega) (by decide), cl_nI (n := i) (by omega), nI_1]
    exact a1
theorem reset46_l : ∀ (d i n : Nat) (s : St), i + d = 12 → d < n → (∀ j, j < i → rI s 46 j = nI j) → ∃ u, l_X0_reset_2 n (nI i) s = some ((), u) ∧ Kp [46] s u ∧ ∀ j, j < 12 → rI u 46 j = nI j := by
  intro d
  induction d with
  | zero =>
    intro i n s hi hn hv
    obtain ⟨n, rfl⟩ : ∃ m, n = m + 1 := ⟨n - 1, by omega⟩
    refine ⟨s, ?_, Kp.rf, fun j hj => hv j (by omega)⟩
    show b_X0_reset_2 (l_X0_reset_2 n) (nI i) s = _
    unfold b_X0_reset_2
    rw [if_pos (show (12 : Int32) ≤ nI i from nI_le (a := 12) (b := i) (by omega) (by omega))]
  | succ d ih =>
    intro i n s hi hn hv
    obtain ⟨n, rfl⟩ : ∃ m, n = m + 1 := ⟨n - 1, by omega⟩
    obtain ⟨u, a1, a2, a3⟩ := ih (i + 1) n (wI s 46 i (nI i)) (by omega) (by omega) (fun j hj => by
      by_cases e : j = i
      · subst e; exact rI_same _ _ _ _
      · rw [rI_nj e]; exact hv j (by omega))
    refine ⟨u, ?_, Kp.tr (Kp_wI Kp.rf (by decide) _ _) a2, a3⟩
    show b_X0_reset_2 (l_X0_reset_2 n) (nI i) s = _
    unfold b_X0_reset_2
    rw [if_neg (show ¬ (12 : Int32) ≤ nI i from nI_ge (a := i) (b := 12) (by omega) (by omega)), gi_nI (j := i) (n := 12) (by omega) (by decide), cl_nI (n := i) (by omega), nI_1]
    exact a1
/-! the reference copies -/
theorem pl44_l (o : St) : ∀ (d i n : Nat) (s : St), i + d = 12 → d < n → Kp [84] o s → (∀ j, j < i → rI s 84 j = vp_nar .boolean (rI o 77 j)) → ∃ u, l_X11_plant_44 n (nI i) s = l_X11_plant_70 FU 0 u ∧ Kp [84] o u ∧ ∀ j, j < 12 → rI u 84 j = vp_nar .boolean (rI o 77 j) := by
  intro d
  induction d with
  | zero =>
    intro i n s hi hn hk hv
    obtain ⟨n, rfl⟩ : ∃ m, n = m + 1 := ⟨n - 1, by omega⟩
    refine ⟨s, ?_, hk, fun j hj => hv j (by omega)⟩
    show b_X11_plant_44 (l_X11_plant_44 n) (nI i) s = _
    unfold b_X11_plant_44
    rw [if_pos (show (12 : Int32) ≤ nI i from nI_le (a := 12) (b := i) (by omega) (by omega))]
  | succ d ih =>
    intro i n s hi hn hk hv
    obtain ⟨n, rfl⟩ : ∃ m, n = m + 1 := ⟨n - 1, by omega⟩
    obtain ⟨u, a1, a2, a3⟩ := ih (i + 1) n (wI s 84 i (vp_nar .boolean (rI o 77 i))) (by omega) (by omega) (Kp_wI hk (by decide) _ _) (fun j hj => by
      by_cases e : j = i
      · subst e
        exact by rw [rI_same]
      · exact by rw [rI_nj e]; exact (hv j (by omega)))
    refine ⟨u, ?_, a2, a3⟩
    refine Eq.trans ?_ a1
    show b_X11_plant_44 (l_X11_plant_44 n) (nI i) s = _
    unfold b_X11_plant_44
    rw [if_neg (show ¬ (12 : Int32) ≤ nI i from nI_ge (a := i) (b := 12) (by omega) (by omega))]
    simp only [gi_nI (show i < 12 by omega) (show 12 < 2 ^ 31 by decide), cl_nI (show i < 2 ^ 31 by omega), nI_1]
    simp only [rI_nk (show (77 : Nat) ≠ 84 by decide), Kp_rI hk (show 77 ∉ [84] by decide)]
theorem pl70_l (o : St) : ∀ (d i n : Nat) (s : St), i + d = 24 → d < n → Kp [85, 86, 87] o s → (∀ j, j < i → rI s 85 j = rI o 78 j ∧ rI s 86 j = rI o 79 j ∧ rI s 87 j = rI o 80 j) → ∃ u, l_X11_plant_70 n (nI i) s = l_X11_plant_120 FU 0 u ∧ Kp [85, 86, 87] o u ∧ ∀ j, j < 24 → rI u 85 j = rI o 78 j ∧ rI u 86 j = rI o 79 j ∧ rI u 87 j = rI o 80 j := by
  intro d
  induction d with
  | zero =>
    intro i n s hi hn hk hv
    obtain ⟨n, rfl⟩ : ∃ m, n = m + 1 := ⟨n - 1, by omega⟩
    refine ⟨s, ?_, hk, fun j hj => hv j (by omega)⟩
    show b_X11_plant_70 (l_X11_plant_70 n) (nI i) s = _
    unfold b_X11_plant_70
    rw [if_pos (show (24 : Int32) ≤ nI i from nI_le (a := 24) (b := i) (by omega) (by omega))]
  | succ d ih =>
    intro i n s hi hn hk hv
    obtain ⟨n, rfl⟩ : ∃ m, n = m + 1 := ⟨n - 1, by omega⟩
    obtain ⟨u, a1, a2, a3⟩ := ih (i + 1) n (wI (wI (wI s 85 i (rI o 78 i)) 86 i (rI o 79 i)) 87 i (rI o 80 i)) (by omega) (by omega) (Kp_wI (Kp_wI (Kp_wI hk (by decide) _ _) (by decide) _ _) (by decide) _ _) (fun j hj => by
      by_cases e : j = i
      · subst e
        exact ⟨by rw [rI_nk (by decide), rI_nk (by decide), rI_same], by rw [rI_nk (by decide), rI_same], by rw [rI_same]⟩
      · exact ⟨by rw [rI_nk (by decide), rI_nk (by decide), rI_nj e]; exact (hv j (by omega)).1, by rw [rI_nk (by decide), rI_nj e, rI_nk (by decide)]; exact (hv j (by omega)).2.1, by rw [rI_nj e, rI_nk (by decide), rI_nk (by decide)]; exact (hv j (by omega)).2.2⟩)
    refine ⟨u, ?_, a2, a3⟩
    refine Eq.trans ?_ a1
    show b_X11_plant_70 (l_X11_plant_70 n) (nI i) s = _
    unfold b_X11_plant_70
    rw [if_neg (show ¬ (24 : Int32) ≤ nI i from nI_ge (a := i) (b := 24) (by omega) (by omega))]
    simp only [gi_nI (show i < 24 by omega) (show 24 < 2 ^ 31 by decide), cl_nI (show i < 2 ^ 31 by omega), nI_1]
    simp only [rI_nk (show (78 : Nat) ≠ 85 by decide), rI_nk (show (78 : Nat) ≠ 86 by decide), rI_nk (show (78 : Nat) ≠ 87 by decide), rI_nk (show (79 : Nat) ≠ 85 by decide), rI_nk (show (79 : Nat) ≠ 86 by decide), rI_nk (show (79 : Nat) ≠ 87 by decide), rI_nk (show (80 : Nat) ≠ 85 by decide), rI_nk (show (80 : Nat) ≠ 86 by decide), rI_nk (show (80 : Nat) ≠ 87 by decide), Kp_rI hk (show 78 ∉ [85, 86, 87] by decide), Kp_rI hk (show 79 ∉ [85, 86, 87] by decide), Kp_rI hk (show 80 ∉ [85, 86, 87] by decide)]
theorem pl120_l (o : St) : ∀ (d i n : Nat) (s : St), i + d = 12 → d < n → Kp [88, 89, 90, 91] o s → (∀ j, j < i → rI s 88 j = rI o 81 j ∧ rI s 89 j = rI o 82 j ∧ rI s 90 j = 0 ∧ rI s 91 j = nI j) → ∃ u, l_X11_plant_120 n (nI i) s = l_X11_plant_172 FU 0 u ∧ Kp [88, 89, 90, 91] o u ∧ ∀ j, j < 12 → rI u 88 j = rI o 81 j ∧ rI u 89 j = rI o 82 j ∧ rI u 90 j = 0 ∧ rI u 91 j = nI j := by
  intro d
  induction d with
  | zero =>
    intro i n s hi hn hk hv
    obtain ⟨n, rfl⟩ : ∃ m, n = m + 1 := ⟨n - 1, by omega⟩
    refine ⟨s, ?_, hk, fun j hj => hv j (by omega)⟩
    show b_X11_plant_120 (l_X11_plant_120 n) (nI i) s = _
    unfold b_X11_plant_120
    rw [if_pos (show (12 : Int32) ≤ nI i from nI_le (a := 12) (b := i) (by omega) (by omega))]
  | succ d ih =>
    intro i n s hi hn hk hv
    obtain ⟨n, rfl⟩ : ∃ m, n = m + 1 := ⟨n - 1, by omega⟩
    obtain ⟨u, a1, a2, a3⟩ := ih (i + 1) n (wI (wI (wI (wI s 88 i (rI o 81 i)) 89 i (rI o 82 i)) 90 i 0) 91 i (nI i)) (by omega) (by omega) (Kp_wI (Kp_wI (Kp_wI (Kp_wI hk (by decide) _ _) (by decide) _ _) (by decide) _ _) (by decide) _ _) (fun j hj => by
      by_cases e : j = i
      · subst e
        exact ⟨by rw [rI_nk (by decide), rI_nk (by decide), rI_nk (by decide), rI_same], by rw [rI_nk (by decide), rI_nk (by decide), rI_same], by rw [rI_nk (by decide), rI_same], by rw [rI_same]⟩
      · exact ⟨by rw [rI_nk (by decide), rI_nk (by decide), rI_nk (by decide), rI_nj e]; exact (hv j (by omega)).1, by rw [rI_nk (by decide), rI_nk (by decide), rI_nj e, rI_nk (by decide)]; exact (hv j (by omega)).2.1, by rw [rI_nk (by decide), rI_nj e, rI_nk (by decide), rI_nk (by decide)]; exact (hv j (by omega)).2.2.1, by rw [rI_nj e, rI_nk (by decide), rI_nk (by decide), rI_nk (by decide)]; exact (hv j (by omega)).2.2.2⟩)
    refine ⟨u, ?_, a2, a3⟩
    refine Eq.trans ?_ a1
    show b_X11_plant_120 (l_X11_plant_120 n) (nI i) s = _
    unfold b_X11_plant_120
    rw [if_neg (show ¬ (12 : Int32) ≤ nI i from nI_ge (a := i) (b := 12) (by omega) (by omega))]
    simp only [gi_nI (show i < 12 by omega) (show 12 < 2 ^ 31 by decide), cl_nI (show i < 2 ^ 31 by omega), nI_1]
    simp only [rI_nk (show (81 : Nat) ≠ 88 by decide), rI_nk (show (81 : Nat) ≠ 89 by decide), rI_nk (show (81 : Nat) ≠ 90 by decide), rI_nk (show (81 : Nat) ≠ 91 by decide), rI_nk (show (82 : Nat) ≠ 88 by decide), rI_nk (show (82 : Nat) ≠ 89 by decide), rI_nk (show (82 : Nat) ≠ 90 by decide), rI_nk (show (82 : Nat) ≠ 91 by decide), Kp_rI hk (show 81 ∉ [88, 89, 90, 91] by decide), Kp_rI hk (show 82 ∉ [88, 89, 90, 91] by decide)]
theorem pl172_l (o : St) : ∀ (d i n : Nat) (s : St), i + d = 24 → d < n → Kp [92] o s → (∀ j, j < i → rI s 92 j = rI o 83 j) → ∃ u, l_X11_plant_172 n (nI i) s = l_X11_plant_198 FU 0 u ∧ Kp [92] o u ∧ ∀ j, j < 24 → rI u 92 j = rI o 83 j := by
  intro d
  induction d with
  | zero =>
    intro i n s hi hn hk hv
    obtain ⟨n, rfl⟩ : ∃ m, n = m + 1 := ⟨n - 1, by omega⟩
    refine ⟨s, ?_, hk, fun j hj => hv j (by omega)⟩
    show b_X11_plant_172 (l_X11_plant_172 n) (nI i) s = _
    unfold b_X11_plant_172
    rw [if_pos (show (24 : Int32) ≤ nI i from nI_le (a := 24) (b := i) (by omega) (by omega))]
  | succ d ih =>
    intro i n s hi hn hk hv
    obtain ⟨n, rfl⟩ : ∃ m, n = m + 1 := ⟨n - 1, by omega⟩
    obtain ⟨u, a1, a2, a3⟩ := ih (i + 1) n (wI s 92 i (rI o 83 i)) (by omega) (by omega) (Kp_wI hk (by decide) _ _) (fun j hj => by
      by_cases e : j = i
      · subst e
        exact by rw [rI_same]
      · exact by rw [rI_nj e]; exact (hv j (by omega)))
    refine ⟨u, ?_, a2, a3⟩
    refine Eq.trans ?_ a1
    show b_X11_plant_172 (l_X11_plant_172 n) (nI i) s = _
    unfold b_X11_plant_172
    rw [if_neg (show ¬ (24 : Int32) ≤ nI i from nI_ge (a := i) (b := 24) (by omega) (by omega))]
    simp only [gi_nI (show i < 24 by omega) (show 24 < 2 ^ 31 by decide), cl_nI (show i < 2 ^ 31 by omega), nI_1]
    simp only [rI_nk (show (83 : Nat) ≠ 92 by decide), Kp_rI hk (show 83 ∉ [92] by decide)]
theorem pl198_l (o : St) : ∀ (d i n : Nat) (s : St), i + d = 8 → d < n → Kp [93] o s → (∀ j, j < i → rI s 93 j = vp_nar .boolean 0) → ∃ u, l_X11_plant_198 n (nI i) s = some (rI u 74 18, wI (wI u 74 32 0) 74 1 0) ∧ Kp [93] o u ∧ ∀ j, j < 8 → rI u 93 j = vp_nar .boolean 0 := by
  intro d
  induction d with
  | zero =>
    intro i n s hi hn hk hv
    obtain ⟨n, rfl⟩ : ∃ m, n = m + 1 := ⟨n - 1, by omega⟩
    refine ⟨s, ?_, hk, fun j hj => hv j (by omega)⟩
    show b_X11_plant_198 (l_X11_plant_198 n) (nI i) s = _
    unfold b_X11_plant_198
    rw [if_pos (show (8 : Int32) ≤ nI i from nI_le (a := 8) (b := i) (by omega) (by omega))]
    show some (rI (wI (wI s 74 32 0) 74 1 0) 74 18, wI (wI s 74 32 0) 74 1 0) = _
    rw [rI_nj (by decide), rI_nj (by decide)]
  | succ d ih =>
    intro i n s hi hn hk hv
    obtain ⟨n, rfl⟩ : ∃ m, n = m + 1 := ⟨n - 1, by omega⟩
    obtain ⟨u, a1, a2, a3⟩ := ih (i + 1) n (wI s 93 i (vp_nar .boolean 0)) (by omega) (by omega) (Kp_wI hk (by decide) _ _) (fun j hj => by
      by_cases e : j = i
      · subst e
        exact by rw [rI_same]
      · exact by rw [rI_nj e]; exact (hv j (by omega)))
    refine ⟨u, ?_, a2, a3⟩
    refine Eq.trans ?_ a1
    show b_X11_plant_198 (l_X11_plant_198 n) (nI i) s = _
    unfold b_X11_plant_198
    rw [if_neg (show ¬ (8 : Int32) ≤ nI i from nI_ge (a := i) (b := 8) (by omega) (by omega))]
    simp only [gi_nI (show i < 8 by omega) (show 8 < 2 ^ 31 by decide), cl_nI (show i < 2 ^ 31 by omega), nI_1]
