/-! ===== the reader: the class's tokens ===== -/
def TxC (tx : Nat → Int32) (N : Nat) (s : St) : Prop := N ≤ 600 ∧ rI s 1 1 = nI N ∧ ∀ j, j < N → rI s 2 j = tx j
theorem TxC.kp {tx : Nat → Int32} {N : Nat} {s t : St} (h : TxC tx N s) {ks : List Nat} (hk : Kp ks s t) (h1 : 1 ∉ ks) (h2 : 2 ∉ ks) : TxC tx N t := ⟨h.1, by rw [Kp_rI hk h1]; exact h.2.1, fun j hj => by rw [Kp_rI hk h2]; exact h.2.2 j hj⟩
theorem signAt_c {tx : Nat → Int32} {N : Nat} {s : St} (h : TxC tx N s) {j : Nat} (hj : j < N) : f_X8_signAt (nI j) s = some (tx j, s) := by
  obtain ⟨h0, h1, h2⟩ := h
  unfold f_X8_signAt
  rw [if_neg (nI_pos (by omega)), h1, if_neg (nI_ge hj (by omega)), gi_nI (j := j) (n := 600) (by omega) (by decide), cl_nI (by omega), h2 j hj]
/-- the token at A, as the class holds it -/
def TkC (tx : Nat → Int32) (N A : Nat) (s : St) : Prop := rI s 7 1 = nI (kdA tx N A) ∧ rI s 7 2 = nI A ∧ rI s 7 3 = nI (enA tx N A) ∧ (kdA tx N A = 1 → ∃ cv, cv ≤ 100000 ∧ rI s 7 4 = nI cv ∧ min cv 1000 = vlA tx N A)
theorem TkC.kp {tx : Nat → Int32} {N A : Nat} {s t : St} (h : TkC tx N A s) {ks : List Nat} (hk : Kp ks s t) (h7 : 7 ∉ ks) : TkC tx N A t := by
  have e : ∀ j, rI t 7 j = rI s 7 j := fun j => Kp_rI hk h7 j
  unfold TkC
  rw [e, e, e, e]
  exact h
theorem takeW_l {tx : Nat → Int32} {N : Nat} : ∀ (d b n : Nat) (s : St), b + d = N → d < n → TxC tx N s → rI s 7 3 = nI b → ∃ u, l_X9_takeWord_5 n s = some ((), u) ∧ Kp [7] s u ∧ (∀ j, j ≠ 3 → rI u 7 j = rI s 7 j) ∧ rI u 7 3 = nI (rnQ (qL tx) d b) := by
  intro d
  induction d with
  | zero =>
    intro b n s hb hn ht h3
    obtain ⟨n, rfl⟩ : ∃ m, n = m + 1 := ⟨n - 1, by omega⟩
    have hN := ht.1
    refine ⟨s, ?_, Kp.rf, fun _ _ => rfl, h3⟩
    show b_X9_takeWord_5 (l_X9_takeWord_5 n) s = _
    unfold b_X9_takeWord_5
    rw [ht.2.1, h3, if_pos (nI_le (a := N) (b := b) (by omega) (by omega))]
  | succ d ih =>
    intro b n s hb hn ht h3
    obtain ⟨n, rfl⟩ : ∃ m, n = m + 1 := ⟨n - 1, by omega⟩
    have hN := ht.1
    have hlt : b < N := by omega
    have hstep : l_X9_takeWord_5 (n + 1) s = if qL tx b then l_X9_takeWord_5 n (wI s 7 3 (nI (b + 1))) else some ((), s) := by
      show b_X9_takeWord_5 (l_X9_takeWord_5 n) s = _
      unfold b_X9_takeWord_5
      rw [ht.2.1, h3, if_neg (nI_ge hlt (by omega)), signAt_c ht hlt, bd_ok, isL_c, bd_ok, h3, nI_1]
      by_cases c : qL tx b = true
      · rw [if_pos c, if_pos (show isLb (tx b) = true from c), if_neg (by decide)]
      · rw [if_neg c, if_neg (show ¬ isLb (tx b) = true from c), if_pos rfl]
    by_cases c : qL tx b = true
    · have k1 : Kp [7] s (wI s 7 3 (nI (b + 1))) := Kp_wI Kp.rf (by decide) _ _
      obtain ⟨u, a1, a2, a3, a4⟩ := ih (b + 1) n (wI s 7 3 (nI (b + 1))) (by omega) (by omega) (ht.kp k1 (by decide) (by decide)) (rI_same _ _ _ _)
      refine ⟨u, by rw [hstep, if_pos c]; exact a1, k1.tr a2, fun j hj => by rw [a3 j hj, rI_nj hj], by rw [rnQ_y c]; exact a4⟩
    · have cf : qL tx b = false := by simpa using c
      exact ⟨s, by rw [hstep, if_neg c], Kp.rf, fun _ _ => rfl, by rw [rnQ_n cf]; exact h3⟩
theorem takeN_l {tx : Nat → Int32} {N A : Nat} : ∀ (d b n : Nat) (s : St), b + d = N → A ≤ b → d < n → TxC tx N s → rI s 7 3 = nI b → rI s 7 4 = nI (cvN tx A (b - A)) → ∃ u, l_X9_takeNumber_10 n s = some ((), u) ∧ Kp [7] s u ∧ (∀ j, j ≠ 3 → j ≠ 4 → rI u 7 j = rI s 7 j) ∧ rI u 7 3 = nI (rnQ (qD tx) d b) ∧ rI u 7 4 = nI (cvN tx A (rnQ (qD tx) d b - A)) := by
  intro d
  induction d with
  | zero =>
    intro b n s hb hA hn ht h3 h4
    obtain ⟨n, rfl⟩ : ∃ m, n = m + 1 := ⟨n - 1, by omega⟩
    have hN := ht.1
    refine ⟨s, ?_, Kp.rf, fun _ _ _ => rfl, h3, h4⟩
    show b_X9_takeNumber_10 (l_X9_takeNumber_10 n) s = _
    unfold b_X9_takeNumber_10
    rw [ht.2.1, h3, if_pos (nI_le (a := N) (b := b) (by omega) (by omega))]
  | succ d ih =>
    intro b n s hb hA hn ht h3 h4
    obtain ⟨n, rfl⟩ : ∃ m, n = m + 1 := ⟨n - 1, by omega⟩
    have hN := ht.1
    have hlt : b < N := by omega
    by_cases c : qD tx b = true
    · obtain ⟨g1, g2⟩ := qD_dg c
      have hcv := cv_le tx A (b - A)
      have ev : jmin (((nI (cvN tx A (b - A)) * 10) + tx b) - 48) 100000 = nI (cvN tx A (b + 1 - A)) := by
        rw [g2, show (10 : Int32) = nI 10 from rfl, pk_mul, nI_add, show (48 : Int32) = nI 48 from rfl, pk_sub (by omega), show (100000 : Int32) = nI 100000 from rfl, jmin_nI (by omega) (by omega), show b + 1 - A = (b - A) + 1 by omega]
        show _ = nI (min (cvN tx A (b - A) * 10 + dgN tx (A + (b - A))) 100000)
        rw [show A + (b - A) = b by omega, show cvN tx A (b - A) * 10 + (48 + dgN tx b) - 48 = cvN tx A (b - A) * 10 + dgN tx b by omega]
      have k1 : Kp [7] s (wI (wI s 7 4 (nI (cvN tx A (b + 1 - A)))) 7 3 (nI (b + 1))) := Kp_wI (Kp_wI Kp.rf (by decide) _ _) (by decide) _ _
      obtain ⟨u, a1, a2, a3, a4, a5⟩ := ih (b + 1) n _ (by omega) (by omega) (by omega) (ht.kp k1 (by decide) (by decide)) (rI_same _ _ _ _) (by rw [rI_nj (by decide), rI_same])
      refine ⟨u, ?_, k1.tr a2, fun j hj hj2 => by rw [a3 j hj hj2, rI_nj hj, rI_nj hj2], by rw [rnQ_y c]; exact a4, by rw [rnQ_y c]; exact a5⟩
      show b_X9_takeNumber_10 (l_X9_takeNumber_10 n) s = _
      unfold b_X9_takeNumber_10
      rw [ht.2.1, h3, if_neg (nI_ge hlt (by omega)), signAt_c ht hlt, bd_ok, isD_c, bd_ok, if_pos (show isDb (tx b) = true from c), if_neg (by decide), h3, signAt_c ht hlt, bd_ok, h4, ev]
      show l_X9_takeNumber_10 n (wI (wI s 7 4 (nI (cvN tx A (b + 1 - A)))) 7 3 (rI (wI s 7 4 (nI (cvN tx A (b + 1 - A)))) 7 3 + 1)) = _
      rw [rI_nj (by decide), h3, nI_1]
      exact a1
    · have cf : qD tx b = false := by simpa using c
      refine ⟨s, ?_, Kp.rf, fun _ _ _ => rfl, by rw [rnQ_n cf]; exact h3, by rw [rnQ_n cf]; exact h4⟩
      show b_X9_takeNumber_10 (l_X9_takeNumber_10 n) s = _
      unfold b_X9_takeNumber_10
      rw [ht.2.1, h3, if_neg (nI_ge hlt (by omega)), signAt_c ht hlt, bd_ok, isD_c, bd_ok, if_neg (show ¬ isDb (tx b) = true from c), if_pos rfl]
/-- the token that starts at A is taken -/
theorem adv52_c {tx : Nat → Int32} {N A : Nat} (hA : A ≤ N) {s : St} (ht : TxC tx N s) (h2 : rI s 7 2 = nI A) : ∃ u, j_X9_advance_52 s = some ((), u) ∧ Kp [7] s u ∧ TkC tx N A u := by
  have hN := ht.1
  have k0 : Kp [7] s (wI s 7 3 (nI A)) := Kp_wI Kp.rf (by decide) _ _
  have t0 : TxC tx N (wI s 7 3 (nI A)) := ht.kp k0 (by decide) (by decide)
  have e2 : rI (wI s 7 3 (nI A)) 7 2 = nI A := by rw [rI_nj (by decide)]; exact h2
  unfold j_X9_advance_52
  rw [h2]
  show ∃ u, (if rI (wI s 7 3 (nI A)) 7 2 < rI (wI s 7 3 (nI A)) 1 1 then bd (f_X8_signAt (rI (wI s 7 3 (nI A)) 7 2) (wI s 7 3 (nI A))) _ else some ((), wI (wI s 7 3 (nI A)) 7 1 4)) = some ((), u) ∧ _
  rw [e2, t0.2.1]
  by_cases e : A = N
  · have k1 : Kp [7] s (wI (wI s 7 3 (nI A)) 7 1 4) := Kp_wI k0 (by decide) _ _
    refine ⟨_, by rw [if_neg (nI_nlt (a := A) (b := N) (by omega) (by omega))], k1, ?_, ?_, ?_, ?_⟩
    · rw [rI_same, (kdA_4 tx N A).mpr e]; rfl
    · rw [rI_nj (by decide)]; exact e2
    · rw [rI_nj (by decide), rI_same]
      unfold enA
      rw [if_pos e, e]
    · intro q
      rw [(kdA_4 tx N A).mpr e] at q
      exact absurd q (by decide)
  · have hlt : A < N := by omega
    rw [if_pos (nI_lt hlt (by omega)), signAt_c t0 hlt, bd_ok, isL_c, bd_ok]
    by_cases c : qL tx A = true
    · rw [if_pos (show isLb (tx A) = true from c), if_neg (by decide)]
      have k1 : Kp [7] s (wI (wI s 7 3 (nI A)) 7 1 0) := Kp_wI k0 (by decide) _ _
      obtain ⟨u, a1, a2, a3, a4⟩ := takeW_l (N - A) A FU (wI (wI s 7 3 (nI A)) 7 1 0) (by omega) (FU_lt (by omega)) (ht.kp k1 (by decide) (by decide)) (by rw [rI_nj (by decide), rI_same])
      have ek : kdA tx N A = 0 := by unfold kdA; rw [if_neg e, if_pos c]
      refine ⟨u, ?_, k1.tr a2, ?_, ?_, ?_, ?_⟩
      · rw [show f_X9_takeWord (wI s 7 3 (nI A)) = _ from a1, bd_ok]
      · rw [a3 1 (by decide), rI_same, ek]; rfl
      · rw [a3 2 (by decide), rI_nj (by decide)]; exact e2
      · rw [a4]; unfold enA; rw [if_neg e, if_pos c]
      · intro q; omega
    · rw [if_neg (show ¬ isLb (tx A) = true from c), if_pos rfl, isD_c, bd_ok]
      by_cases c2 : qD tx A = true
      · rw [if_pos (show isDb (tx A) = true from c2), if_neg (by decide)]
        have k1 : Kp [7] s (wI (wI (wI s 7 3 (nI A)) 7 1 1) 7 4 0) := Kp_wI (Kp_wI k0 (by decide) _ _) (by decide) _ _
        obtain ⟨u, a1, a2, a3, a4, a5⟩ := takeN_l (A := A) (N - A) A FU (wI (wI (wI s 7 3 (nI A)) 7 1 1) 7 4 0) (by omega) (Nat.le_refl A) (FU_lt (by omega)) (ht.kp k1 (by decide) (by decide)) (by rw [rI_nj (by decide), rI_nj (by decide), rI_same]) (by rw [rI_same, Nat.sub_self]; rfl)
        have ek : kdA tx N A = 1 := by unfold kdA; rw [if_neg e, if_neg c, if_pos c2]
        have ee : enA tx N A = rnQ (qD tx) (N - A) A := by unfold enA; rw [if_neg e, if_neg c, if_pos c2]
        refine ⟨u, ?_, k1.tr a2, ?_, ?_, ?_, ?_⟩
        · rw [show f_X9_takeNumber (wI s 7 3 (nI A)) = _ from a1, bd_ok]
        · rw [a3 1 (by decide) (by decide), rI_nj (by decide), rI_same, ek]; rfl
        · rw [a3 2 (by decide) (by decide), rI_nj (by decide), rI_nj (by decide)]; exact e2
        · rw [a4, ee]
        · intro _
          exact ⟨_, cv_le tx A _, a5, by unfold vlA; rw [ee]⟩
      · rw [if_neg (show ¬ isDb (tx A) = true from c2), if_pos rfl]
        have ee : enA tx N A = A + 1 := by unfold enA; rw [if_neg e, if_neg c, if_neg c2]
        by_cases c3 : tx A = 59
        · have ek : kdA tx N A = 2 := by unfold kdA; rw [if_neg e, if_neg c, if_neg c2, if_pos c3]
          have k1 : Kp [7] s (wI (wI (wI s 7 3 (nI A)) 7 1 2) 7 3 (nI (A + 1))) := Kp_wI (Kp_wI k0 (by decide) _ _) (by decide) _ _
          refine ⟨_, ?_, k1, ?_, ?_, ?_, ?_⟩
          · rw [if_pos c3]
            show some ((), wI (wI (wI s 7 3 (nI A)) 7 1 2) 7 3 (rI (wI (wI s 7 3 (nI A)) 7 1 2) 7 2 + 1)) = _
            rw [rI_nj (by decide), e2, nI_1]
          · rw [rI_nj (by decide), rI_same, ek]; rfl
          · rw [rI_nj (by decide), rI_nj (by decide)]; exact e2
          · rw [rI_same, ee]
          · intro q; omega
        · have ek : kdA tx N A = 3 := by unfold kdA; rw [if_neg e, if_neg c, if_neg c2, if_neg c3]
          have k1 : Kp [7] s (wI (wI (wI s 7 3 (nI A)) 7 1 3) 7 3 (nI (A + 1))) := Kp_wI (Kp_wI k0 (by decide) _ _) (by decide) _ _
          refine ⟨_, ?_, k1, ?_, ?_, ?_, ?_⟩
          · rw [if_neg c3]
            show some ((), wI (wI (wI s 7 3 (nI A)) 7 1 3) 7 3 (rI (wI (wI s 7 3 (nI A)) 7 1 3) 7 2 + 1)) = _
            rw [rI_nj (by decide), e2, nI_1]
          · rw [rI_nj (by decide), rI_same, ek]; rfl
          · rw [rI_nj (by decide), rI_nj (by decide)]; exact e2
          · rw [rI_same, ee]
          · intro q; omega
theorem adv8_l {tx : Nat → Int32} {N : Nat} : ∀ (d a n : Nat) (s : St), a + d = N → d < n → TxC tx N s → rI s 7 2 = nI a → ∃ u, l_X9_advance_8 n s = some ((), u) ∧ Kp [7] s u ∧ TkC tx N (rnQ (qB tx) d a) u := by
  intro d
  induction d with
  | zero =>
    intro a n s ha hn ht h2
    obtain ⟨n, rfl⟩ : ∃ m, n = m + 1 := ⟨n - 1, by omega⟩
    have hN := ht.1
    obtain ⟨u, a1, a2, a3⟩ := adv52_c (tx := tx) (N := N) (A := a) (by omega) ht h2
    refine ⟨u, ?_, a2, a3⟩
    show b_X9_advance_8 (l_X9_advance_8 n) s = _
    unfold b_X9_advance_8
    rw [ht.2.1, h2, if_pos (nI_le (a := N) (b := a) (by omega) (by omega))]
    exact a1
  | succ d ih =>
    intro a n s ha hn ht h2
    obtain ⟨n, rfl⟩ : ∃ m, n = m + 1 := ⟨n - 1, by omega⟩
    have hN := ht.1
    have hlt : a < N := by omega
    by_cases c : qB tx a = true
    · have k1 : Kp [7] s (wI s 7 2 (nI (a + 1))) := Kp_wI Kp.rf (by decide) _ _
      obtain ⟨u, a1, a2, a3⟩ := ih (a + 1) n (wI s 7 2 (nI (a + 1))) (by omega) (by omega) (ht.kp k1 (by decide) (by decide)) (rI_same _ _ _ _)
      refine ⟨u, ?_, k1.tr a2, by rw [rnQ_y c]; exact a3⟩
      show b_X9_advance_8 (l_X9_advance_8 n) s = _
      unfold b_X9_advance_8
      rw [ht.2.1, h2, if_neg (nI_ge hlt (by omega)), signAt_c ht hlt, bd_ok, isB_c, bd_ok, if_pos (show isBb (tx a) = true from c), if_neg (by decide), h2, nI_1]
      exact a1
    · have cf : qB tx a = false := by simpa using c
      obtain ⟨u, a1, a2, a3⟩ := adv52_c (tx := tx) (N := N) (A := a) (by omega) ht h2
      refine ⟨u, ?_, a2, by rw [rnQ_n cf]; exact a3⟩
      show b_X9_advance_8 (l_X9_advance_8 n) s = _
      unfold b_X9_advance_8
      rw [ht.2.1, h2, if_neg (nI_ge hlt (by omega)), signAt_c ht hlt, bd_ok, isB_c, bd_ok, if_neg (show ¬ isBb (tx a) = true from c), if_pos rfl]
      exact a1
theorem adv_from {tx : Nat → Int32} {N b : Nat} (hb : b ≤ N) {s : St} (ht : TxC tx N s) (h3 : rI s 7 3 = nI b) : ∃ u, f_X9_advance s = some ((), u) ∧ Kp [7] s u ∧ TkC tx N (rnQ (qB tx) (N - b) b) u := by
  have hN := ht.1
  have k1 : Kp [7] s (wI s 7 2 (nI b)) := Kp_wI Kp.rf (by decide) _ _
  obtain ⟨u, a1, a2, a3⟩ := adv8_l (N - b) b FU (wI s 7 2 (nI b)) (by omega) (FU_lt (by omega)) (ht.kp k1 (by decide) (by decide)) (rI_same _ _ _ _)
  refine ⟨u, ?_, k1.tr a2, a3⟩
  unfold f_X9_advance
  rw [h3]
  exact a1
/-- the next token -/
theorem adv_c {tx : Nat → Int32} {N A : Nat} (hA : A ≤ N) {s : St} (ht : TxC tx N s) (hk : TkC tx N A s) : ∃ u, f_X9_advance s = some ((), u) ∧ Kp [7] s u ∧ TkC tx N (nxA tx N A) u := adv_from (enA_in tx hA).1 ht hk.2.2.1
