/-! ===== the log ===== -/
theorem isSec0 {x : Int32} {s : St} (h : x < 0 ∨ 999 < x) : f_X10_isSecond x s = some (0, s) := by
  unfold f_X10_isSecond
  by_cases h0 : x < 0
  · rw [if_pos h0]
  · rw [if_neg h0, if_pos (h.resolve_left h0)]
theorem isSec1 {v : Nat} {s : St} (h : v ≤ 999) : f_X10_isSecond (nI v) s = some (1, s) := by
  unfold f_X10_isSecond
  rw [if_neg (nI_pos (by omega)), if_neg (show ¬ (999 : Int32) < nI v from nI_nlt (a := 999) (b := v) h (by omega))]
theorem sec3 (x : Int32) : (x < 0 ∨ 999 < x) ∨ ∃ v : Nat, v ≤ 999 ∧ x = nI v := by
  rcases three x (n := 1000) (by omega) with hx | ⟨v, hv, rfl⟩
  · left
    exact hx.imp id (fun q => by rw [fa_le] at q; rw [fa_lt]; have e1 : (nI 1000).toInt = 1000 := (by decide); have e2 : (999 : Int32).toInt = 999 := (by decide); omega)
  · exact Or.inr ⟨v, by omega, rfl⟩
/-- a row more -/
def dR (D : Dt) (w v : Nat) : Dt := dS (dA (dA D 13 (D.1 4) w) 14 (D.1 4) v) 4 (D.1 4 + 1)
theorem dR_a {D : Dt} {w v a k : Nat} (h1 : a ≠ 13) (h2 : a ≠ 14) : (dR D w v).2 a k = D.2 a k := by
  show (dA (dA D 13 (D.1 4) w) 14 (D.1 4) v).2 a k = _
  rw [dA_ne h2, dA_ne h1]
theorem dR_13 {D : Dt} {w v k : Nat} : (dR D w v).2 13 k = if k = D.1 4 then w else D.2 13 k := by
  show (dA (dA D 13 (D.1 4) w) 14 (D.1 4) v).2 13 k = _
  rw [dA_ne (by decide)]
  by_cases h : k = D.1 4
  · rw [if_pos h, h, dA_eq]
  · rw [if_neg h, dA_nj h]
theorem dR_14 {D : Dt} {w v k : Nat} : (dR D w v).2 14 k = if k = D.1 4 then v else D.2 14 k := by
  show (dA (dA D 13 (D.1 4) w) 14 (D.1 4) v).2 14 k = _
  by_cases h : k = D.1 4
  · rw [if_pos h, h]
    exact dA_eq
  · rw [if_neg h, dA_nj h, dA_ne (by decide)]
theorem Bd_dR {D : Dt} (h : Bd D) {w v : Nat} (hN : D.1 4 < 60) (hw : w < D.1 2) (hv : v ≤ 999) (hm : 0 < D.1 4 → D.2 14 (D.1 4 - 1) ≤ v) : Bd (dR D w v) := by
  obtain ⟨h1, h2, h3, h4, h5, h6⟩ := h
  have e : ∀ k, k ≠ 4 → (dR D w v).1 k = D.1 k := fun k hk => dS_ne hk
  have e4 : (dR D w v).1 4 = D.1 4 + 1 := dS_eq
  refine ⟨?_, fun p hp => ?_, fun a ha => ?_, fun q hq => ?_, fun r hr => ?_, fun i hi => ?_⟩
  · rw [e 0 (by decide), e 1 (by decide), e 2 (by decide), e 3 (by decide), e4, e 5 (by decide), e 6 (by decide), e 7 (by decide)]
    exact ⟨h1.1, h1.2.1, h1.2.2.1, h1.2.2.2.1, by omega, h1.2.2.2.2.2⟩
  · rw [e 0 (by decide)] at hp
    rw [dR_a (by decide) (by decide)]; exact h2 p hp
  · rw [e 1 (by decide)] at ha
    rw [dR_a (by decide) (by decide), dR_a (by decide) (by decide), dR_a (by decide) (by decide), e 0 (by decide)]; exact h3 a ha
  · rw [e 2 (by decide)] at hq
    rw [dR_a (by decide) (by decide), dR_a (by decide) (by decide), dR_a (by decide) (by decide), dR_a (by decide) (by decide), dR_a (by decide) (by decide), dR_a (by decide) (by decide), dR_a (by decide) (by decide), e 0 (by decide), e 2 (by decide)]; exact h4 q hq
  · rw [e 3 (by decide)] at hr
    rw [dR_a (by decide) (by decide), dR_a (by decide) (by decide), dR_a (by decide) (by decide), dR_a (by decide) (by decide), e 2 (by decide)]; exact h5 r hr
  · rw [e4] at hi
    rw [dR_13, dR_14, e 2 (by decide)]
    by_cases hl : i = D.1 4
    · rw [if_pos hl, if_pos hl]
      refine ⟨hw, hv, fun j hj => ?_⟩
      rw [dR_14, if_neg (by omega)]
      have h0 : 0 < D.1 4 := by omega
      have hlast := hm h0
      by_cases hjl : j = D.1 4 - 1
      · rw [hjl]; exact hlast
      · exact Nat.le_trans ((h6 (D.1 4 - 1) (by omega)).2.2 j (by omega)) hlast
    · rw [if_neg hl, if_neg hl]
      refine ⟨(h6 i (by omega)).1, (h6 i (by omega)).2.1, fun j hj => ?_⟩
      rw [dR_14, if_neg (by omega)]
      exact (h6 i (by omega)).2.2 j hj
theorem dA_s {D : Dt} {a j v k : Nat} : (dA D a j v).1 k = D.1 k := rfl
theorem add_c {D : Dt} {tx : Nat → Int32} {s : St} (hc : RC D tx s) {w v : Nat} (hN : D.1 4 < 60) : ∃ t, f_X5_add (nI w) (nI v) s = some ((), t) ∧ Kp [35, 36, 37] s t ∧ RC (dR D w v) tx t ∧ rI t 35 2 = nI (D.1 4 + 1) := by
  have g := hc.1 (35, 2, 4) (by decide)
  have e1 : rI (wI s 36 (D.1 4) (nI w)) 35 2 = nI (D.1 4) := by rw [rI_nk (by decide)]; exact g
  have e2 : rI (wI (wI s 36 (D.1 4) (nI w)) 37 (D.1 4) (nI v)) 35 2 = nI (D.1 4) := by rw [rI_nk (by decide)]; exact e1
  refine ⟨wI (wI (wI s 36 (D.1 4) (nI w)) 37 (D.1 4) (nI v)) 35 2 (nI (D.1 4 + 1)), ?_, Kp_wI (Kp_wI (Kp_wI Kp.rf (by decide) _ _) (by decide) _ _) (by decide) _ _, ?_, rI_same _ _ _ _⟩
  · unfold f_X5_add
    rw [show rI s 35 2 = nI (D.1 4) from g, if_neg (show ¬ (60 : Int32) ≤ nI (D.1 4) from nI_ge (a := D.1 4) (b := 60) hN (by decide)), gi_nI hN (by decide), cl_nI (by omega)]
    show gi (rI (wI s 36 (D.1 4) (nI w)) 35 2) 60 _ = _
    rw [e1, gi_nI hN (by decide), cl_nI (by omega)]
    show some ((), wI (wI (wI s 36 (D.1 4) (nI w)) 37 (D.1 4) (nI v)) 35 2 (rI (wI (wI s 36 (D.1 4) (nI w)) 37 (D.1 4) (nI v)) 35 2 + 1)) = _
    rw [e2, nI_1]
  · have h1 := RC_dA (v := w) hc (c := 36) (a := 13) (n := 4) (j := D.1 4) (by decide)
    have h2 := RC_dA (v := v) h1 (c := 37) (a := 14) (n := 4) (j := D.1 4) (by decide)
    refine RC_dS h2 (c := 35) (j := 2) (k := 4) (v := D.1 4 + 1) (by decide) (Or.inl rfl) (fun i hi1 hi2 q hq hk => ?_)
    have hi : i = D.1 4 := by have : (dA (dA D 13 (D.1 4) w) 14 (D.1 4) v).1 4 = D.1 4 := rfl; omega
    subst hi
    simp only [arrC, List.mem_cons, List.not_mem_nil, or_false] at hq
    rcases hq with rfl | rfl | rfl | rfl | rfl | rfl | rfl | rfl | rfl | rfl | rfl | rfl
    all_goals (try (exact absurd hk (by decide)))
    · show rI _ 36 (D.1 4) = nI ((dA (dA D 13 (D.1 4) w) 14 (D.1 4) v).2 13 (D.1 4))
      rw [rI_nk (by decide), rI_same, dA_ne (by decide), dA_eq]
    · show rI _ 37 (D.1 4) = nI ((dA (dA D 13 (D.1 4) w) 14 (D.1 4) v).2 14 (D.1 4))
      rw [rI_same]
      exact congrArg nI dA_eq.symm
theorem add_m {D : Dt} {tx : Nat → Int32} {s : St} (hm : RM D tx s) {w v : Nat} (hN : D.1 4 < 60) : RM (dR D w v) tx (wI (wI (wI s 94 (D.1 4) (nI w)) 95 (D.1 4) (nI v)) 74 32 (nI (D.1 4 + 1))) := by
  have h1 := RM_dA (v := w) hm (c := 94) (a := 13) (n := 4) (j := D.1 4) (by decide)
  have h2 := RM_dA (v := v) h1 (c := 95) (a := 14) (n := 4) (j := D.1 4) (by decide)
  refine RM_dS h2 (j := 32) (k := 4) (v := D.1 4 + 1) (by decide) (Or.inl rfl) (fun i hi1 hi2 q hq hk => ?_)
  have hi : i = D.1 4 := by have : (dA (dA D 13 (D.1 4) w) 14 (D.1 4) v).1 4 = D.1 4 := rfl; omega
  subst hi
  simp only [arrM, List.mem_cons, List.not_mem_nil, or_false] at hq
  rcases hq with rfl | rfl | rfl | rfl | rfl | rfl | rfl | rfl | rfl | rfl | rfl
  all_goals (try (exact absurd hk (by decide)))
  · show rI _ 94 (D.1 4) = nI ((dA (dA D 13 (D.1 4) w) 14 (D.1 4) v).2 13 (D.1 4))
    rw [rI_nk (by decide), rI_same, dA_ne (by decide), dA_eq]
  · show rI _ 95 (D.1 4) = nI ((dA (dA D 13 (D.1 4) w) 14 (D.1 4) v).2 14 (D.1 4))
    rw [rI_same]
    exact congrArg nI dA_eq.symm
theorem canAdd_c {D : Dt} {tx : Nat → Int32} {s : St} (hc : RC D tx s) (hb : Bd D) {v : Nat} (hv : v ≤ 999) : f_X5_canAdd (nI v) s = some (if 60 ≤ D.1 4 then 0 else if D.1 4 = 0 then 1 else if v < D.2 14 (D.1 4 - 1) then 0 else 1, s) := by
  have g := hc.1 (35, 2, 4) (by decide)
  have hN := hb.1.2.2.2.2.1
  unfold f_X5_canAdd
  rw [show rI s 35 2 = nI (D.1 4) from g]
  by_cases h60 : 60 ≤ D.1 4
  · rw [if_pos (show (60 : Int32) ≤ nI (D.1 4) from nI_le (a := 60) (b := D.1 4) h60 (by omega)), if_pos h60]
  · rw [if_neg (show ¬ (60 : Int32) ≤ nI (D.1 4) from nI_ge (a := D.1 4) (b := 60) (by omega) (by decide)), if_neg h60]
    by_cases h0 : D.1 4 = 0
    · rw [h0, if_pos nI_0, if_pos rfl]
    · rw [if_neg (nI_ne0 (by omega) (by omega)), if_neg h0]
      have hp : nI (D.1 4) - 1 = nI (D.1 4 - 1) := pk_sub (a := D.1 4) (b := 1) (by omega)
      rw [hp, gi_nI (by omega) (by decide), cl_nI (by omega), gArr hc (c := 37) (a := 14) (n := 4) (by decide) (by omega)]
      have hlast := (hb.2.2.2.2.2 (D.1 4 - 1) (by omega)).2.1
      by_cases hl : v < D.2 14 (D.1 4 - 1)
      · rw [if_pos (nI_lt hl (by omega)), if_pos hl]
      · rw [if_neg (nI_nlt (by omega) (by omega)), if_neg hl]
theorem call_log {D : Dt} {tx : Nat → Int32} {s : St} (h : Rel D tx s) (x1 x2 : Int32) : Ok (f_X10_log x1 x2) (f_X11_log x1 x2) s := by
  obtain ⟨hb, hc, hm⟩ := id h
  have hW := hb.1.2.2.1
  have hN := hb.1.2.2.2.2.1
  rcases three x1 (n := D.1 2) (by omega) with hx | ⟨w, hw, rfl⟩
  · refine rel0 h (r := -1) ?_ ?_
    · unfold f_X10_log; rw [cWin0 hc hx, bd_ok, if_pos rfl]
    · unfold f_X11_log; rw [mWin0 hm hb hx, bd_ok, if_pos rfl]
  · rcases sec3 x2 with hx | ⟨v, hv, rfl⟩
    · refine rel0 h (r := -1) ?_ ?_
      · unfold f_X10_log; rw [cWin1 hc hb hw, bd_ok, if_neg (by decide), isSec0 hx, bd_ok, if_pos rfl]
      · unfold f_X11_log
        rw [mWin1 hm hb hw, bd_ok, if_neg (by decide), hm.1 (74, 32, 4) (by decide)]
        by_cases h0 : D.1 4 = 0
        · rw [if_pos (by show nI (D.1 4) = 0; rw [h0]; rfl)]
          unfold j_X11_log_31
          rw [inM0 hx, bd_ok, if_pos rfl]
        · have hp : nI (D.1 4) - 1 = nI (D.1 4 - 1) := pk_sub (a := D.1 4) (b := 1) (by omega)
          rw [if_neg (nI_ne0 (n := D.1 4) (by omega) (by omega)), show nI (D.1 (74, 32, 4).2.2) - 1 = nI (D.1 4 - 1) from hp, gi_nI (by omega) (by decide), cl_nI (by omega), gArrM hm (c := 95) (a := 14) (n := 4) (by decide) (by omega)]
          unfold j_X11_log_31
          rw [inM0, bd_ok, if_pos rfl]
          refine hx.imp (fun q => ?_) id
          rw [fa_lt] at q ⊢
          have e0 : (0 : Int32).toInt = 0 := by decide
          have := (hb.2.2.2.2.2 (D.1 4 - 1) (by omega)).2.1
          rw [nI_toInt (by omega)]
          omega
    · by_cases hbad : 60 ≤ D.1 4 ∨ (D.1 4 ≠ 0 ∧ v < D.2 14 (D.1 4 - 1))
      · refine rel0 h (r := -1) ?_ ?_
        · unfold f_X10_log
          rw [cWin1 hc hb hw, bd_ok, if_neg (by decide), isSec1 hv, bd_ok, if_neg (by decide), canAdd_c hc hb hv, bd_ok]
          rw [if_pos]
          by_cases h60 : 60 ≤ D.1 4
          · rw [if_pos h60]
          · have := hbad.resolve_left h60
            rw [if_neg h60, if_neg this.1, if_pos this.2]
        · unfold f_X11_log
          rw [mWin1 hm hb hw, bd_ok, if_neg (by decide), hm.1 (74, 32, 4) (by decide)]
          by_cases h0 : D.1 4 = 0
          · omega
          · have hp : nI (D.1 4) - 1 = nI (D.1 4 - 1) := pk_sub (a := D.1 4) (b := 1) (by omega)
            rw [if_neg (nI_ne0 (n := D.1 4) (by omega) (by omega)), show nI (D.1 (74, 32, 4).2.2) - 1 = nI (D.1 4 - 1) from hp, gi_nI (by omega) (by decide), cl_nI (by omega), gArrM hm (c := 95) (a := 14) (n := 4) (by decide) (by omega)]
            have hl1 := (hb.2.2.2.2.2 (D.1 4 - 1) (by omega)).2.1
            unfold j_X11_log_31
            by_cases hl : v < D.2 14 (D.1 4 - 1)
            · rw [inM0 (Or.inl (nI_lt hl (by omega))), bd_ok, if_pos rfl]
            · have h60 : D.1 4 = 60 := by omega
              rw [inM1 (hi := 999) (nI_nlt (a := v) (b := D.2 14 (D.1 4 - 1)) (by omega) (by omega)) (show ¬ (999 : Int32) < nI v from nI_nlt (a := 999) (b := v) hv (by omega)), bd_ok, if_neg (by decide), hm.1 (74, 32, 4) (by decide), if_pos]
              show nI (D.1 4) = 60
              rw [h60]; rfl
      · have hN2 : D.1 4 < 60 := by omega
        obtain ⟨t, ht, hkt, hct, hrt⟩ := add_c hc (w := w) (v := v) hN2
        have hm1 := RM_kpC hm hkt (by decide)
        refine ⟨nI (D.1 4 + 1), t, wI (wI (wI t 94 (D.1 4) (nI w)) 95 (D.1 4) (nI v)) 74 32 (nI (D.1 4 + 1)), dR D w v, tx, ?_, ?_, Bd_dR hb hN2 hw hv (by omega), ?_, add_m hm1 hN2⟩
        · unfold f_X10_log
          rw [cWin1 hc hb hw, bd_ok, if_neg (by decide), isSec1 hv, bd_ok, if_neg (by decide), canAdd_c hc hb hv, bd_ok, if_neg, ht, bd_ok, hrt]
          rw [if_neg (by omega)]
          by_cases h0 : D.1 4 = 0
          · rw [if_pos h0]; decide
          · rw [if_neg h0, if_neg (by omega)]; decide
        · have g := hm1.1 (74, 32, 4) (by decide)
          have e1 : rI (wI t 94 (D.1 4) (nI w)) 74 32 = nI (D.1 4) := by rw [rI_nk (by decide)]; exact g
          have e2 : rI (wI (wI t 94 (D.1 4) (nI w)) 95 (D.1 4) (nI v)) 74 32 = nI (D.1 4) := by rw [rI_nk (by decide)]; exact e1
          have key : ∀ lo : Int32, ¬ nI v < lo → j_X11_log_31 (nI w) (nI v) (nI v) lo t = some (nI (D.1 4 + 1), wI (wI (wI t 94 (D.1 4) (nI w)) 95 (D.1 4) (nI v)) 74 32 (nI (D.1 4 + 1))) := by
            intro lo hlo
            unfold j_X11_log_31
            rw [inM1 (hi := 999) hlo (show ¬ (999 : Int32) < nI v from nI_nlt (a := 999) (b := v) hv (by omega)), bd_ok, if_neg (by decide), show rI t 74 32 = nI (D.1 4) from g, if_neg (show ¬ nI (D.1 4) = 60 from fun q => by have := (nI_eq (a := D.1 4) (b := 60) (by omega) (by decide)).mp q; omega), gi_nI hN2 (by decide), cl_nI (by omega)]
            show gi (rI (wI t 94 (D.1 4) (nI w)) 74 32) 60 _ = _
            rw [e1, gi_nI hN2 (by decide), cl_nI (by omega)]
            show some (rI (wI (wI (wI t 94 (D.1 4) (nI w)) 95 (D.1 4) (nI v)) 74 32 (rI (wI (wI t 94 (D.1 4) (nI w)) 95 (D.1 4) (nI v)) 74 32 + 1)) 74 32, wI (wI (wI t 94 (D.1 4) (nI w)) 95 (D.1 4) (nI v)) 74 32 (rI (wI (wI t 94 (D.1 4) (nI w)) 95 (D.1 4) (nI v)) 74 32 + 1)) = _
            rw [e2, nI_1, rI_same]
          unfold f_X11_log
          rw [mWin1 hm1 hb hw, bd_ok, if_neg (by decide), hm1.1 (74, 32, 4) (by decide)]
          by_cases h0 : D.1 4 = 0
          · rw [if_pos (by show nI (D.1 4) = 0; rw [h0]; rfl)]
            exact key 0 (nI_pos (by omega))
          · have hp : nI (D.1 4) - 1 = nI (D.1 4 - 1) := pk_sub (a := D.1 4) (b := 1) (by omega)
            rw [if_neg (nI_ne0 (n := D.1 4) (by omega) (by omega)), show nI (D.1 (74, 32, 4).2.2) - 1 = nI (D.1 4 - 1) from hp, gi_nI (by omega) (by decide), cl_nI (by omega), gArrM hm1 (c := 95) (a := 14) (n := 4) (by decide) (by omega)]
            exact key _ (nI_nlt (by omega) (by omega))
        · refine RC_kpM (ks := [74, 94, 95]) hct (Kp_wI (Kp_wI (Kp_wI Kp.rf (by decide) _ _) (by decide) _ _) (by decide) _ _) (by decide)
