/-! ===== the reader: the reference's tokens ===== -/
def TxM (tx : Nat → Int32) (N : Nat) (s : St) : Prop := N ≤ 600 ∧ rI s 74 1 = nI N ∧ ∀ j, j < N → rI s 75 j = tx j
/-- what the reference keeps as it goes to the next token -/
def Nk (s u : St) : Prop := Kp [74] s u ∧ (∀ j, j ≠ 2 → j ≠ 3 → j ≠ 4 → rI u 74 j = rI s 74 j) ∧ ∀ p, rL u 76 p = rL s 76 p
theorem Nk.rf {s : St} : Nk s s := ⟨Kp.rf, fun _ _ _ _ => rfl, fun _ => rfl⟩
theorem Nk.tr {s t u : St} (h1 : Nk s t) (h2 : Nk t u) : Nk s u := ⟨h1.1.tr h2.1, fun j a b c => (h2.2.1 j a b c).trans (h1.2.1 j a b c), fun p => (h2.2.2 p).trans (h1.2.2 p)⟩
theorem Nk_wI {s t : St} (h : Nk s t) {j : Nat} (hj : j = 2 ∨ j = 3 ∨ j = 4) (v : Int32) : Nk s (wI t 74 j v) := ⟨Kp_wI h.1 (by decide) _ _, fun i a b c => by rw [rI_nj (by omega)]; exact h.2.1 i a b c, fun p => by rw [rL_wI]; exact h.2.2 p⟩
theorem Nk_wL {s t : St} (h : Nk s t) (v : Int64) : Nk s (wL t 74 5 v) := ⟨Kp_wL h.1 _ _ _, fun i a b c => by rw [rI_wL]; exact h.2.1 i a b c, fun p => by rw [rL_nk (by decide)]; exact h.2.2 p⟩
theorem TxM.nk {tx : Nat → Int32} {N : Nat} {s t : St} (h : TxM tx N s) (hk : Nk s t) : TxM tx N t := ⟨h.1, by rw [hk.2.1 1 (by decide) (by decide) (by decide)]; exact h.2.1, fun j hj => by rw [Kp_rI hk.1 (by decide)]; exact h.2.2 j hj⟩
/-- the token at A, as the reference holds it -/
def TkM (tx : Nat → Int32) (N A : Nat) (s : St) : Prop := rI s 74 3 = nI ((kdA tx N A + 1) % 5) ∧ rI s 74 4 = nI A ∧ rI s 74 2 = nI (enA tx N A) ∧ (kdA tx N A = 1 → ∃ mv, mv ≤ 9999 ∧ rL s 74 5 = lN mv ∧ min mv 1000 = vlA tx N A) ∧ (kdA tx N A = 0 → rL s 74 5 = lN (wdA tx N A))
theorem next99_l {tx : Nat → Int32} {N A : Nat} : ∀ (d b n : Nat) (s : St), b + d = N → A ≤ b → d < n → TxM tx N s → rI s 74 2 = nI b → rI s 74 4 = nI A → (∀ k, A ≤ k → k < b → qL tx k = true) → rL s 74 5 = lN (pkN (fun k => ltN tx (A + k)) (min (b - A) 8)) → ∃ u, l_X11_next_99 n s = some ((), u) ∧ Nk s u ∧ rI u 74 3 = 1 ∧ rI u 74 4 = nI A ∧ rI u 74 2 = nI (rnQ (qL tx) d b) ∧ rL u 74 5 = lN (if rnQ (qL tx) d b - A ≤ 8 then pkN (fun k => ltN tx (A + k)) (rnQ (qL tx) d b - A) else 0) := by
  have fin : ∀ (b : Nat) (s : St), A ≤ b → b ≤ 600 → rI s 74 2 = nI b → rI s 74 4 = nI A → rL s 74 5 = lN (pkN (fun k => ltN tx (A + k)) (min (b - A) 8)) → ∃ u, j_X11_next_174 s = some ((), u) ∧ Nk s u ∧ rI u 74 3 = 1 ∧ rI u 74 4 = nI A ∧ rI u 74 2 = nI b ∧ rL u 74 5 = lN (if b - A ≤ 8 then pkN (fun k => ltN tx (A + k)) (b - A) else 0) := fun b s hA hb h2 h4 h5 => by
    unfold j_X11_next_174
    rw [h2, h4, pk_sub hA]
    by_cases c : b - A ≤ 8
    · refine ⟨wI s 74 3 1, by rw [if_pos (show nI (b - A) ≤ (8 : Int32) from nI_le (a := b - A) (b := 8) c (by omega))], Nk_wI Nk.rf (by decide) _, rI_same _ _ _ _, by rw [rI_nj (by decide)]; exact h4, by rw [rI_nj (by decide)]; exact h2, ?_⟩
      rw [rL_wI, h5, if_pos c, show min (b - A) 8 = b - A by omega]
    · refine ⟨wI (wL s 74 5 0) 74 3 1, by rw [if_neg (show ¬ nI (b - A) ≤ (8 : Int32) from nI_ge (a := 8) (b := b - A) (by omega) (by omega))], Nk_wI (Nk_wL Nk.rf _) (by decide) _, rI_same _ _ _ _, by rw [rI_nj (by decide), rI_wL]; exact h4, by rw [rI_nj (by decide), rI_wL]; exact h2, ?_⟩
      rw [rL_wI, rL_same, if_neg c]
      rfl
  intro d
  induction d with
  | zero =>
    intro b n s hb hA hn ht h2 h4 hq h5
    obtain ⟨n, rfl⟩ : ∃ m, n = m + 1 := ⟨n - 1, by omega⟩
    have hN := ht.1
    obtain ⟨u, a1, a2⟩ := fin b s hA (by omega) h2 h4 h5
    refine ⟨u, ?_, a2⟩
    show b_X11_next_99 (l_X11_next_99 n) s = _
    unfold b_X11_next_99
    rw [ht.2.1, h2, if_pos (nI_le (a := N) (b := b) (by omega) (by omega))]
    exact a1
  | succ d ih =>
    intro b n s hb hA hn ht h2 h4 hq h5
    obtain ⟨n, rfl⟩ : ∃ m, n = m + 1 := ⟨n - 1, by omega⟩
    have hN := ht.1
    have hlt : b < N := by omega
    by_cases c : qL tx b = true
    · obtain ⟨g1, g2, g3⟩ := qL_lt c
      have hq2 : ∀ k, A ≤ k → k < b + 1 → qL tx k = true := fun k k1 k2 => by
        by_cases e : k = b
        · rw [e]; exact c
        · exact hq k k1 (by omega)
      by_cases l : 8 ≤ b - A
      · have k1 : Nk s (wI s 74 2 (nI (b + 1))) := Nk_wI Nk.rf (by decide) _
        obtain ⟨u, a1, a2, a3, a4, a5, a6⟩ := ih (b + 1) n (wI s 74 2 (nI (b + 1))) (by omega) (by omega) (by omega) (ht.nk k1) (rI_same _ _ _ _) (by rw [rI_nj (by decide)]; exact h4) hq2 (by rw [rL_wI, h5, show min (b - A) 8 = 8 by omega, show min (b + 1 - A) 8 = 8 by omega])
        refine ⟨u, ?_, k1.tr a2, a3, a4, by rw [rnQ_y c]; exact a5, by rw [rnQ_y c]; exact a6⟩
        show b_X11_next_99 (l_X11_next_99 n) s = _
        unfold b_X11_next_99
        rw [ht.2.1, h2, if_neg (nI_ge hlt (by omega)), gi_nI (j := b) (n := 600) (by omega) (by decide), cl_nI (n := b) (by omega), ht.2.2 b hlt, isL_m, bd_ok, if_pos (show isLb (tx b) = true from c), if_neg (by decide), h2, h4, pk_sub hA, if_pos (show (8 : Int32) ≤ nI (b - A) from nI_le (a := 8) (b := b - A) l (by omega)), nI_1]
        exact a1
      · have hp : pkN (fun k => ltN tx (A + k)) (b - A) < 2 ^ 63 / 256 + 2 ^ 55 := by
          have := pkN_lt (f := fun k => ltN tx (A + k)) (b - A) (fun k hk => by have := qL_lt (hq (A + k) (by omega) (by omega)); omega)
          have h3 : 256 ^ (b - A) ≤ 256 ^ 7 := Nat.pow_le_pow_right (by decide) (by omega)
          have h4 : 256 ^ 7 = 2 ^ 56 := by decide
          omega
        have ev : ((lN (pkN (fun k => ltN tx (A + k)) (min (b - A) 8)) <<< ((8 : Int32).toInt64 &&& 63)) ||| (tx b).toInt64) = lN (pkN (fun k => ltN tx (A + k)) (min (b + 1 - A) 8)) := by
          rw [show min (b - A) 8 = b - A by omega, show min (b + 1 - A) 8 = (b - A) + 1 by omega, g3, nI_l (by omega), show (8 : Int32) = nI 8 from rfl, wb_shl _ (by decide), show (2 ^ 8 : Nat) = 256 from rfl, g_or (k := 8) (p := 256) (by decide) (by omega) (by omega)]
          show _ = lN (pkN (fun k => ltN tx (A + k)) (b - A) * 256 + ltN tx (A + (b - A)))
          rw [show A + (b - A) = b by omega]
        have k1 : Nk s (wI (wL s 74 5 (lN (pkN (fun k => ltN tx (A + k)) (min (b + 1 - A) 8)))) 74 2 (nI (b + 1))) := Nk_wI (Nk_wL Nk.rf _) (by decide) _
        obtain ⟨u, a1, a2, a3, a4, a5, a6⟩ := ih (b + 1) n _ (by omega) (by omega) (by omega) (ht.nk k1) (rI_same _ _ _ _) (by rw [rI_nj (by decide), rI_wL]; exact h4) hq2 (by rw [rL_wI, rL_same])
        refine ⟨u, ?_, k1.tr a2, a3, a4, by rw [rnQ_y c]; exact a5, by rw [rnQ_y c]; exact a6⟩
        show b_X11_next_99 (l_X11_next_99 n) s = _
        unfold b_X11_next_99
        rw [ht.2.1, h2, if_neg (nI_ge hlt (by omega)), gi_nI (j := b) (n := 600) (by omega) (by decide), cl_nI (n := b) (by omega), ht.2.2 b hlt, isL_m, bd_ok, if_pos (show isLb (tx b) = true from c), if_neg (by decide), h2, h4, pk_sub hA, if_neg (show ¬ (8 : Int32) ≤ nI (b - A) from nI_ge (a := b - A) (b := 8) (by omega) (by omega)), gi_nI (j := b) (n := 600) (by omega) (by decide), cl_nI (n := b) (by omega), ht.2.2 b hlt, h5, ev]
        show l_X11_next_99 n (wI (wL s 74 5 (lN (pkN (fun k => ltN tx (A + k)) (min (b + 1 - A) 8)))) 74 2 (rI (wL s 74 5 (lN (pkN (fun k => ltN tx (A + k)) (min (b + 1 - A) 8)))) 74 2 + 1)) = _
        rw [rI_wL, h2, nI_1]
        exact a1
    · have cf : qL tx b = false := by simpa using c
      obtain ⟨u, a1, a2⟩ := fin b s hA (by omega) h2 h4 h5
      refine ⟨u, ?_, by rw [rnQ_n cf]; exact a2⟩
      show b_X11_next_99 (l_X11_next_99 n) s = _
      unfold b_X11_next_99
      rw [ht.2.1, h2, if_neg (nI_ge hlt (by omega)), gi_nI (j := b) (n := 600) (by omega) (by decide), cl_nI (n := b) (by omega), ht.2.2 b hlt, isL_m, bd_ok, if_neg (show ¬ isLb (tx b) = true from c), if_pos rfl]
      exact a1
theorem next208_l {tx : Nat → Int32} {N A : Nat} : ∀ (d b n : Nat) (s : St), b + d = N → A ≤ b → d < n → TxM tx N s → rI s 74 2 = nI b → rI s 74 4 = nI A → (∀ k, A ≤ k → k < b → qD tx k = true) → rL s 74 5 = lN (mvN tx A (b - A)) → ∃ u, l_X11_next_208 n s = some ((), u) ∧ Nk s u ∧ rI u 74 3 = 2 ∧ rI u 74 4 = nI A ∧ rI u 74 2 = nI (rnQ (qD tx) d b) ∧ rL u 74 5 = lN (mvN tx A (rnQ (qD tx) d b - A)) := by
  intro d
  induction d with
  | zero =>
    intro b n s hb hA hn ht h2 h4 hq h5
    obtain ⟨n, rfl⟩ : ∃ m, n = m + 1 := ⟨n - 1, by omega⟩
    have hN := ht.1
    refine ⟨wI s 74 3 2, ?_, Nk_wI Nk.rf (by decide) _, rI_same _ _ _ _, by rw [rI_nj (by decide)]; exact h4, by rw [rI_nj (by decide)]; exact h2, by rw [rL_wI]; exact h5⟩
    show b_X11_next_208 (l_X11_next_208 n) s = _
    unfold b_X11_next_208
    rw [ht.2.1, h2, if_pos (nI_le (a := N) (b := b) (by omega) (by omega))]
  | succ d ih =>
    intro b n s hb hA hn ht h2 h4 hq h5
    obtain ⟨n, rfl⟩ : ∃ m, n = m + 1 := ⟨n - 1, by omega⟩
    have hN := ht.1
    have hlt : b < N := by omega
    by_cases c : qD tx b = true
    · obtain ⟨g1, g2⟩ := qD_dg c
      have hq2 : ∀ k, A ≤ k → k < b + 1 → qD tx k = true := fun k k1 k2 => by
        by_cases e : k = b
        · rw [e]; exact c
        · exact hq k k1 (by omega)
      have hmv := (cv_mv tx A (b - A) (fun j hj => (qD_dg (hq (A + j) (by omega) (by omega))).1)).2
      have e1 : mvN tx A (b + 1 - A) = if 999 < mvN tx A (b - A) then mvN tx A (b - A) else 10 * mvN tx A (b - A) + dgN tx b := by
        rw [show b + 1 - A = (b - A) + 1 by omega]
        show (if 999 < mvN tx A (b - A) then mvN tx A (b - A) else 10 * mvN tx A (b - A) + dgN tx (A + (b - A))) = _
        rw [show A + (b - A) = b by omega]
      have k1 : Nk s (wI (wL s 74 5 (lN (mvN tx A (b + 1 - A)))) 74 2 (nI (b + 1))) := Nk_wI (Nk_wL Nk.rf _) (by decide) _
      obtain ⟨u, a1, a2, a3, a4, a5, a6⟩ := ih (b + 1) n _ (by omega) (by omega) (by omega) (ht.nk k1) (rI_same _ _ _ _) (by rw [rI_nj (by decide), rI_wL]; exact h4) hq2 (by rw [rL_wI, rL_same])
      refine ⟨u, ?_, k1.tr a2, a3, a4, by rw [rnQ_y c]; exact a5, by rw [rnQ_y c]; exact a6⟩
      show b_X11_next_208 (l_X11_next_208 n) s = _
      unfold b_X11_next_208
      rw [ht.2.1, h2, if_neg (nI_ge hlt (by omega)), gi_nI (j := b) (n := 600) (by omega) (by decide), cl_nI (n := b) (by omega), ht.2.2 b hlt, isD_m, bd_ok, if_pos (show isDb (tx b) = true from c), if_neg (by decide), h5, h2]
      by_cases l : 999 < mvN tx A (b - A)
      · have hc : ¬ lg_cmp (lN (mvN tx A (b - A))) 999 ≤ 0 := fun q => by
          rw [lg_cmp_le, show (999 : Int64) = lN 999 from rfl, pk_lLE (by omega) (by omega)] at q
          omega
        rw [if_neg hc]
        show l_X11_next_208 n (wI (wL s 74 5 (lN (mvN tx A (b - A)))) 74 2 (rI (wL s 74 5 (lN (mvN tx A (b - A)))) 74 2 + 1)) = _
        rw [rI_wL, h2, nI_1]
        rw [if_pos l] at e1
        rw [e1] at a1
        exact a1
      · have hc : lg_cmp (lN (mvN tx A (b - A))) 999 ≤ 0 := by
          rw [lg_cmp_le, show (999 : Int64) = lN 999 from rfl, pk_lLE (by omega) (by omega)]
          omega
        rw [if_pos hc, gi_nI (j := b) (n := 600) (by omega) (by decide), cl_nI (n := b) (by omega), ht.2.2 b hlt]
        have ev : ((10 : Int64) * lN (mvN tx A (b - A)) + (tx b).toInt64) - 48 = lN (mvN tx A (b + 1 - A)) := by
          rw [e1, if_neg l, g2, nI_l (by omega), show (10 : Int64) = lN 10 from rfl, lN_mul, lN_add, show (48 : Int64) = lN 48 from rfl, lN_sub (by omega)]
          congr 1
          omega
        rw [ev]
        show l_X11_next_208 n (wI (wL s 74 5 (lN (mvN tx A (b + 1 - A)))) 74 2 (rI (wL s 74 5 (lN (mvN tx A (b + 1 - A)))) 74 2 + 1)) = _
        rw [rI_wL, h2, nI_1]
        exact a1
    · have cf : qD tx b = false := by simpa using c
      refine ⟨wI s 74 3 2, ?_, Nk_wI Nk.rf (by decide) _, rI_same _ _ _ _, by rw [rI_nj (by decide)]; exact h4, by rw [rI_nj (by decide), rnQ_n cf]; exact h2, by rw [rL_wI, rnQ_n cf]; exact h5⟩
      show b_X11_next_208 (l_X11_next_208 n) s = _
      unfold b_X11_next_208
      rw [ht.2.1, h2, if_neg (nI_ge hlt (by omega)), gi_nI (j := b) (n := 600) (by omega) (by decide), cl_nI (n := b) (by omega), ht.2.2 b hlt, isD_m, bd_ok, if_neg (show ¬ isDb (tx b) = true from c), if_pos rfl]
theorem next52_m {tx : Nat → Int32} {N A : Nat} (hA : A ≤ N) {s : St} (ht : TxM tx N s) (h2 : rI s 74 2 = nI A) : ∃ u, j_X11_next_52 s = some ((), u) ∧ Nk s u ∧ TkM tx N A u := by
  have hN := ht.1
  have k0 : Nk s (wI (wL (wI s 74 4 (nI A)) 74 5 0) 74 3 0) := Nk_wI (Nk_wL (Nk_wI Nk.rf (by decide) _) _) (by decide) _
  have t0 := ht.nk k0
  have e2 : rI (wI (wL (wI s 74 4 (nI A)) 74 5 0) 74 3 0) 74 2 = nI A := by rw [rI_nj (by decide), rI_wL, rI_nj (by decide)]; exact h2
  have e4 : rI (wI (wL (wI s 74 4 (nI A)) 74 5 0) 74 3 0) 74 4 = nI A := by rw [rI_nj (by decide), rI_wL, rI_same]
  have e5 : rL (wI (wL (wI s 74 4 (nI A)) 74 5 0) 74 3 0) 74 5 = lN 0 := by rw [rL_wI, rL_same]; rfl
  unfold j_X11_next_52
  rw [h2]
  have e3 : rI (wI (wL (wI s 74 4 (nI A)) 74 5 0) 74 3 0) 74 3 = 0 := rI_same _ _ _ _
  show ∃ u, (if rI (wI (wL (wI s 74 4 (nI A)) 74 5 0) 74 3 0) 74 2 = rI (wI (wL (wI s 74 4 (nI A)) 74 5 0) 74 3 0) 74 1 then some ((), (wI (wL (wI s 74 4 (nI A)) 74 5 0) 74 3 0)) else gi (rI (wI (wL (wI s 74 4 (nI A)) 74 5 0) 74 3 0) 74 2) 600 (bd (f_X11_isLetter (rI (wI (wL (wI s 74 4 (nI A)) 74 5 0) 74 3 0) 75 (rI (wI (wL (wI s 74 4 (nI A)) 74 5 0) 74 3 0) 74 2).toNatClampNeg) (wI (wL (wI s 74 4 (nI A)) 74 5 0) 74 3 0)) fun r_93 s_93 => if r_93 = 0 then bd (f_X11_isDigit (rI (wI (wL (wI s 74 4 (nI A)) 74 5 0) 74 3 0) 75 (rI (wI (wL (wI s 74 4 (nI A)) 74 5 0) 74 3 0) 74 2).toNatClampNeg) s_93) fun r_202 s_202 => if r_202 = 0 then if (rI (wI (wL (wI s 74 4 (nI A)) 74 5 0) 74 3 0) 75 (rI (wI (wL (wI s 74 4 (nI A)) 74 5 0) 74 3 0) 74 2).toNatClampNeg) = 59 then some ((), wI (wI s_202 74 3 3) 74 2 (rI (wI s_202 74 3 3) 74 2 + 1)) else some ((), wI (wI s_202 74 3 4) 74 2 (rI (wI s_202 74 3 4) 74 2 + 1)) else l_X11_next_208 FU s_202 else l_X11_next_99 FU s_93)) = some ((), u) ∧ Nk s u ∧ TkM tx N A u
  generalize wI (wL (wI s 74 4 (nI A)) 74 5 0) 74 3 0 = z at *
  rw [e2, t0.2.1]
  by_cases e : A = N
  · refine ⟨z, by rw [if_pos (by rw [e])], k0, ?_, e4, ?_, ?_, ?_⟩
    · rw [e3, (kdA_4 tx N A).mpr e]; rfl
    · rw [e2]; unfold enA; rw [if_pos e, e]
    · intro q; rw [(kdA_4 tx N A).mpr e] at q; exact absurd q (by decide)
    · intro q; rw [(kdA_4 tx N A).mpr e] at q; exact absurd q (by decide)
  · have hlt : A < N := by omega
    rw [if_neg (fun q => e ((nI_eq (by omega) (by omega)).mp q)), gi_nI (j := A) (n := 600) (by omega) (by decide), cl_nI (n := A) (by omega), t0.2.2 A hlt, isL_m, bd_ok]
    by_cases c : qL tx A = true
    · rw [if_pos (show isLb (tx A) = true from c), if_neg (by decide)]
      obtain ⟨u, a1, a2, a3, a4, a5, a6⟩ := next99_l (tx := tx) (N := N) (A := A) (N - A) A FU z (by omega) (Nat.le_refl A) (FU_lt (by omega)) t0 e2 e4 (fun k k1 k2 => absurd k2 (Nat.not_lt.mpr k1)) (by rw [e5, Nat.sub_self]; rfl)
      have ek : kdA tx N A = 0 := by unfold kdA; rw [if_neg e, if_pos c]
      have ee : enA tx N A = rnQ (qL tx) (N - A) A := by unfold enA; rw [if_neg e, if_pos c]
      refine ⟨u, a1, k0.tr a2, ?_, a4, by rw [a5, ee], ?_, ?_⟩
      · rw [a3, ek]; rfl
      · intro q; omega
      · intro _; rw [a6]; unfold wdA; rw [ee]
    · rw [if_neg (show ¬ isLb (tx A) = true from c), if_pos rfl, isD_m, bd_ok]
      by_cases c2 : qD tx A = true
      · rw [if_pos (show isDb (tx A) = true from c2), if_neg (by decide)]
        obtain ⟨u, a1, a2, a3, a4, a5, a6⟩ := next208_l (tx := tx) (N := N) (A := A) (N - A) A FU z (by omega) (Nat.le_refl A) (FU_lt (by omega)) t0 e2 e4 (fun k k1 k2 => absurd k2 (Nat.not_lt.mpr k1)) (by rw [e5, Nat.sub_self]; rfl)
        have ek : kdA tx N A = 1 := by unfold kdA; rw [if_neg e, if_neg c, if_pos c2]
        have ee : enA tx N A = rnQ (qD tx) (N - A) A := by unfold enA; rw [if_neg e, if_neg c, if_pos c2]
        refine ⟨u, a1, k0.tr a2, ?_, a4, by rw [a5, ee], ?_, ?_⟩
        · rw [a3, ek]; rfl
        · intro _
          obtain ⟨r1, r2, r3, r4⟩ := rnQ_spec (qD tx) (N - A) A
          obtain ⟨v1, v2⟩ := cv_mv tx A (rnQ (qD tx) (N - A) A - A) (fun j hj => (qD_dg (r3 (A + j) (by omega) (by omega))).1)
          exact ⟨_, v2, a6, by unfold vlA; rw [ee, v1]⟩
        · intro q; omega
      · rw [if_neg (show ¬ isDb (tx A) = true from c2), if_pos rfl]
        have ee : enA tx N A = A + 1 := by unfold enA; rw [if_neg e, if_neg c, if_neg c2]
        by_cases c3 : tx A = 59
        · have ek : kdA tx N A = 2 := by unfold kdA; rw [if_neg e, if_neg c, if_neg c2, if_pos c3]
          refine ⟨wI (wI z 74 3 3) 74 2 (nI (A + 1)), ?_, k0.tr (Nk_wI (Nk_wI Nk.rf (by decide) _) (by decide) _), ?_, ?_, ?_, ?_, ?_⟩
          · rw [if_pos c3]
            show some ((), wI (wI z 74 3 3) 74 2 (rI (wI z 74 3 3) 74 2 + 1)) = _
            rw [rI_nj (by decide), e2, nI_1]
          · rw [rI_nj (by decide), rI_same, ek]; rfl
          · rw [rI_nj (by decide), rI_nj (by decide)]; exact e4
          · rw [rI_same, ee]
          · intro q; omega
          · intro q; omega
        · have ek : kdA tx N A = 3 := by unfold kdA; rw [if_neg e, if_neg c, if_neg c2, if_neg c3]
          refine ⟨wI (wI z 74 3 4) 74 2 (nI (A + 1)), ?_, k0.tr (Nk_wI (Nk_wI Nk.rf (by decide) _) (by decide) _), ?_, ?_, ?_, ?_, ?_⟩
          · rw [if_neg c3]
            show some ((), wI (wI z 74 3 4) 74 2 (rI (wI z 74 3 4) 74 2 + 1)) = _
            rw [rI_nj (by decide), e2, nI_1]
          · rw [rI_nj (by decide), rI_same, ek]; rfl
          · rw [rI_nj (by decide), rI_nj (by decide)]; exact e4
          · rw [rI_same, ee]
          · intro q; omega
          · intro q; omega
theorem next0_l {tx : Nat → Int32} {N : Nat} : ∀ (d a n : Nat) (s : St), a + d = N → d < n → TxM tx N s → rI s 74 2 = nI a → ∃ u, l_X11_next_0 n s = some ((), u) ∧ Nk s u ∧ TkM tx N (rnQ (qB tx) d a) u := by
  intro d
  induction d with
  | zero =>
    intro a n s ha hn ht h2
    obtain ⟨n, rfl⟩ : ∃ m, n = m + 1 := ⟨n - 1, by omega⟩
    have hN := ht.1
    obtain ⟨u, a1, a2, a3⟩ := next52_m (tx := tx) (N := N) (A := a) (by omega) ht h2
    refine ⟨u, ?_, a2, a3⟩
    show b_X11_next_0 (l_X11_next_0 n) s = _
    unfold b_X11_next_0
    rw [ht.2.1, h2, if_pos (nI_le (a := N) (b := a) (by omega) (by omega))]
    exact a1
  | succ d ih =>
    intro a n s ha hn ht h2
    obtain ⟨n, rfl⟩ : ∃ m, n = m + 1 := ⟨n - 1, by omega⟩
    have hN := ht.1
    have hlt : a < N := by omega
    have hstep : l_X11_next_0 (n + 1) s = if qB tx a then l_X11_next_0 n (wI s 74 2 (nI (a + 1))) else j_X11_next_52 s := by
      show b_X11_next_0 (l_X11_next_0 n) s = _
      unfold b_X11_next_0
      rw [ht.2.1, h2, if_neg (nI_ge hlt (by omega)), gi_nI (j := a) (n := 600) (by omega) (by decide), cl_nI (n := a) (by omega), ht.2.2 a hlt, gi_nI (j := a) (n := 600) (by omega) (by decide), nI_1]
      unfold qB isBb
      by_cases c : tx a = 32
      · simp [c]
      · by_cases c2 : tx a = 10
        · simp [c2]
        · simp [c, c2]
    by_cases c : qB tx a = true
    · have k1 : Nk s (wI s 74 2 (nI (a + 1))) := Nk_wI Nk.rf (by decide) _
      obtain ⟨u, a1, a2, a3⟩ := ih (a + 1) n (wI s 74 2 (nI (a + 1))) (by omega) (by omega) (ht.nk k1) (rI_same _ _ _ _)
      exact ⟨u, by rw [hstep, if_pos c]; exact a1, k1.tr a2, by rw [rnQ_y c]; exact a3⟩
    · have cf : qB tx a = false := by simpa using c
      obtain ⟨u, a1, a2, a3⟩ := next52_m (tx := tx) (N := N) (A := a) (by omega) ht h2
      exact ⟨u, by rw [hstep, if_neg c]; exact a1, a2, by rw [rnQ_n cf]; exact a3⟩
theorem next_from {tx : Nat → Int32} {N b : Nat} (hb : b ≤ N) {s : St} (ht : TxM tx N s) (h2 : rI s 74 2 = nI b) : ∃ u, f_X11_next s = some ((), u) ∧ Nk s u ∧ TkM tx N (rnQ (qB tx) (N - b) b) u := by
  have hN := ht.1
  exact next0_l (N - b) b FU s (by omega) (FU_lt (by omega)) ht h2
theorem next_m {tx : Nat → Int32} {N A : Nat} (hA : A ≤ N) {s : St} (ht : TxM tx N s) (hk : TkM tx N A s) : ∃ u, f_X11_next s = some ((), u) ∧ Nk s u ∧ TkM tx N (nxA tx N A) u := next_from (enA_in tx hA).1 ht hk.2.2.1
