/-! ===== the wall's places, the log, the rules that rest ===== -/
theorem FU_lt {n : Nat} (h : n < 5000) : n < FU := by have : FU = 10000 := rfl; omega
theorem gArr {D : Dt} {tx : Nat → Int32} {s : St} (h : RC D tx s) {c a n : Nat} (hq : (c, a, n) ∈ arrC) {i : Nat} (hi : i < D.1 n) : rI s c i = nI (D.2 a i) := h.2.1 (c, a, n) hq i hi
theorem gArrM {D : Dt} {tx : Nat → Int32} {s : St} (h : RM D tx s) {c a n : Nat} (hq : (c, a, n) ∈ arrM) {i : Nat} (hi : i < D.1 n) : rI s c i = nI (D.2 a i) := h.2.1 (c, a, n) hq i hi
theorem placeOf_l {D : Dt} {tx : Nat → Int32} {s : St} (hc : RC D tx s) (hb : Bd D) {w : Nat} (hw : w < D.1 2) : ∀ (d i n : Nat), i + d = D.2 12 w → d < n → l_X0_placeOf_2 n (nI w) (nI i) s = some (nI (D.2 12 w), s) := by
  have hW := hb.1.2.2.1
  have hp := hb.2.2.2.1 w hw
  intro d
  induction d with
  | zero =>
    intro i n hi hn
    obtain ⟨n, rfl⟩ : ∃ m, n = m + 1 := ⟨n - 1, by omega⟩
    show b_X0_placeOf_2 (l_X0_placeOf_2 n) (nI w) (nI i) s = _
    have hi2 : i = D.2 12 w := by omega
    have hlt : i < D.1 2 := by rw [hi2]; exact hp.2.2.2.2.1
    unfold b_X0_placeOf_2
    rw [hc.1 (8, 2, 2) (by decide), if_neg (nI_ge hlt (by show D.1 2 < 2 ^ 31; omega)), gi_nI (lt_n hlt hW) (by decide), cl_nI (by omega), gArr hc (c := 46) (a := 11) (n := 2) (by decide) hlt, if_pos, hi2]
    rw [hi2, hp.2.2.2.2.2]
  | succ d ih =>
    intro i n hi hn
    obtain ⟨n, rfl⟩ : ∃ m, n = m + 1 := ⟨n - 1, by omega⟩
    show b_X0_placeOf_2 (l_X0_placeOf_2 n) (nI w) (nI i) s = _
    have hlt : i < D.1 2 := by have := hp.2.2.2.2.1; omega
    have hpi := (hb.2.2.2.1 i hlt).2.2.2.1
    unfold b_X0_placeOf_2
    rw [hc.1 (8, 2, 2) (by decide), if_neg (nI_ge hlt (by show D.1 2 < 2 ^ 31; omega)), gi_nI (lt_n hlt hW) (by decide), cl_nI (by omega), gArr hc (c := 46) (a := 11) (n := 2) (by decide) hlt, if_neg]
    · show l_X0_placeOf_2 n (nI w) (nI i + 1) s = _
      rw [nI_1]
      exact ih (i + 1) n (by omega) (by omega)
    · intro e
      have e2 : D.2 11 i = w := (nI_eq (by omega) (by omega)).mp e
      have := hpi.2
      rw [e2] at this
      omega
theorem placeOf_c {D : Dt} {tx : Nat → Int32} {s : St} (hc : RC D tx s) (hb : Bd D) {w : Nat} (hw : w < D.1 2) : f_X0_placeOf (nI w) s = some (nI (D.2 12 w), s) := by
  have hW := hb.1.2.2.1
  have hp := (hb.2.2.2.1 w hw).2.2.2.2.1
  exact placeOf_l hc hb hw (D.2 12 w) 0 FU (by omega) (FU_lt (by omega))
theorem windowAt_l {D : Dt} {tx : Nat → Int32} {s : St} (hm : RM D tx s) (hb : Bd D) {p : Nat} (hp : p < D.1 2) : ∀ (d i n : Nat), i + d = D.2 11 p → d < n → l_X11_windowAt_2 n (nI p) (nI i) s = some (nI (D.2 11 p), s) := by
  have hW := hb.1.2.2.1
  have hq := hb.2.2.2.1 p hp
  intro d
  induction d with
  | zero =>
    intro i n hi hn
    obtain ⟨n, rfl⟩ : ∃ m, n = m + 1 := ⟨n - 1, by omega⟩
    show b_X11_windowAt_2 (l_X11_windowAt_2 n) (nI p) (nI i) s = _
    have hi2 : i = D.2 11 p := by omega
    have hlt : i < D.1 2 := by rw [hi2]; exact hq.2.2.2.1.1
    unfold b_X11_windowAt_2
    rw [hm.1 (74, 24, 2) (by decide), if_neg (nI_ge hlt (by show D.1 2 < 2 ^ 31; omega)), gi_nI (lt_n hlt hW) (by decide), cl_nI (by omega), gArrM hm (c := 91) (a := 12) (n := 2) (by decide) hlt, if_pos, hi2]
    rw [hi2, hq.2.2.2.1.2]
  | succ d ih =>
    intro i n hi hn
    obtain ⟨n, rfl⟩ : ∃ m, n = m + 1 := ⟨n - 1, by omega⟩
    show b_X11_windowAt_2 (l_X11_windowAt_2 n) (nI p) (nI i) s = _
    have hlt : i < D.1 2 := by have := hq.2.2.2.1.1; omega
    have hpi := (hb.2.2.2.1 i hlt).2.2.2.2
    unfold b_X11_windowAt_2
    rw [hm.1 (74, 24, 2) (by decide), if_neg (nI_ge hlt (by show D.1 2 < 2 ^ 31; omega)), gi_nI (lt_n hlt hW) (by decide), cl_nI (by omega), gArrM hm (c := 91) (a := 12) (n := 2) (by decide) hlt, if_neg]
    · show l_X11_windowAt_2 n (nI p) (nI i + 1) s = _
      rw [nI_1]
      exact ih (i + 1) n (by omega) (by omega)
    · intro e
      have e2 : D.2 12 i = p := (nI_eq (by omega) (by omega)).mp e
      have := hpi.2
      rw [e2] at this
      omega
theorem windowAt_m {D : Dt} {tx : Nat → Int32} {s : St} (hm : RM D tx s) (hb : Bd D) {p : Nat} (hp : p < D.1 2) : f_X11_windowAt (nI p) s = some (nI (D.2 11 p), s) := by
  have hW := hb.1.2.2.1
  have hq := (hb.2.2.2.1 p hp).2.2.2.1.1
  exact windowAt_l hm hb hp (D.2 11 p) 0 FU (by omega) (FU_lt (by omega))
theorem call_window {D : Dt} {tx : Nat → Int32} {s : St} (h : Rel D tx s) (x1 x2 : Int32) : Ok (f_X10_window x1 x2) (f_X11_window x1 x2) s := by
  obtain ⟨hb, hc, hm⟩ := id h
  have hW := hb.1.2.2.1
  rcases three x1 (n := D.1 2) (by omega) with hx | ⟨j, hj, rfl⟩
  · refine rel0 h (r := -1) ?_ ?_
    · unfold f_X10_window; rw [cWin0 hc hx, bd_ok, if_pos rfl]
    · unfold f_X11_window; rw [mWin0 hm hb hx, bd_ok, if_pos rfl]
  · have hg : ∀ {α : Type} (k : Option α), gi (nI j) 12 k = k := fun k => gi_nI (lt_n hj hW) (by decide)
    have hcl := cl_nI (n := j) (by omega)
    by_cases h0 : x2 = 0
    · subst h0
      refine rel0 h (r := nI (D.2 4 j)) ?_ ?_
      · unfold f_X10_window; rw [cWin1 hc hb hj, bd_ok, if_neg (by decide), if_pos rfl, hg, hcl, gArr hc (c := 13) (a := 4) (n := 2) (by decide) hj]
      · unfold f_X11_window; rw [mWin1 hm hb hj, bd_ok, if_neg (by decide), if_pos rfl, hg, hcl, gArrM hm (c := 88) (a := 4) (n := 2) (by decide) hj]
    by_cases h1 : x2 = 1
    · subst h1
      refine rel0 h (r := nI (D.2 5 j)) ?_ ?_
      · unfold f_X10_window; rw [cWin1 hc hb hj, bd_ok, if_neg (by decide), if_neg h0, if_pos rfl, hg, hcl, gArr hc (c := 14) (a := 5) (n := 2) (by decide) hj]
      · unfold f_X11_window; rw [mWin1 hm hb hj, bd_ok, if_neg (by decide), if_neg h0, if_pos rfl, hg, hcl, gArrM hm (c := 89) (a := 5) (n := 2) (by decide) hj]
    by_cases h2 : x2 = 2
    · subst h2
      refine rel0 h (r := nI (D.2 9 j)) ?_ ?_
      · unfold f_X10_window; rw [cWin1 hc hb hj, bd_ok, if_neg (by decide), if_neg h0, if_neg h1, if_pos rfl, hg, hcl, gArr hc (c := 33) (a := 9) (n := 2) (by decide) hj]
      · unfold f_X11_window; rw [mWin1 hm hb hj, bd_ok, if_neg (by decide), if_neg h0, if_neg h1, if_pos rfl, hg, hcl, gArrM hm (c := 90) (a := 9) (n := 2) (by decide) hj]
    by_cases h3 : x2 = 3
    · subst h3
      refine rel0 h (r := nI (D.2 12 j)) ?_ ?_
      · unfold f_X10_window; rw [cWin1 hc hb hj, bd_ok, if_neg (by decide), if_neg h0, if_neg h1, if_neg h2, if_pos rfl, placeOf_c hc hb hj, bd_ok]
      · unfold f_X11_window; rw [mWin1 hm hb hj, bd_ok, if_neg (by decide), if_neg h0, if_neg h1, if_neg h2, if_pos rfl, hg, hcl, gArrM hm (c := 91) (a := 12) (n := 2) (by decide) hj]
    · refine rel0 h (r := -1) ?_ ?_
      · unfold f_X10_window; rw [cWin1 hc hb hj, bd_ok, if_neg (by decide), if_neg h0, if_neg h1, if_neg h2, if_neg h3]
      · unfold f_X11_window; rw [mWin1 hm hb hj, bd_ok, if_neg (by decide), if_neg h0, if_neg h1, if_neg h2, if_neg h3]
/-- two places change about -/
def dW (D : Dt) (i j : Nat) : Dt := dA (dA (dA (dA D 11 i (D.2 11 j)) 11 j (D.2 11 i)) 12 (D.2 11 i) j) 12 (D.2 11 j) i
theorem dW_1 (D : Dt) (i j : Nat) : (dW D i j).1 = D.1 := rfl
theorem dW_ne {D : Dt} {i j a k : Nat} (h1 : a ≠ 11) (h2 : a ≠ 12) : (dW D i j).2 a k = D.2 a k := by
  unfold dW
  rw [dA_ne h2, dA_ne h2, dA_ne h1, dA_ne h1]
theorem dW_11 {D : Dt} {i j k : Nat} : (dW D i j).2 11 k = if k = j then D.2 11 i else if k = i then D.2 11 j else D.2 11 k := by
  unfold dW
  rw [dA_ne (by decide), dA_ne (by decide)]
  by_cases h : k = j
  · subst h; rw [dA_eq, if_pos rfl]
  · rw [dA_nj h, if_neg h]
    by_cases h2 : k = i
    · subst h2; rw [dA_eq, if_pos rfl]
    · rw [dA_nj h2, if_neg h2]
theorem dW_12 {D : Dt} {i j k : Nat} : (dW D i j).2 12 k = if k = D.2 11 j then i else if k = D.2 11 i then j else D.2 12 k := by
  unfold dW
  by_cases h : k = D.2 11 j
  · subst h; rw [dA_eq, if_pos rfl]
  · rw [dA_nj h, if_neg h]
    by_cases h2 : k = D.2 11 i
    · subst h2; rw [dA_eq, if_pos rfl]
    · rw [dA_nj h2, if_neg h2, dA_ne (by decide), dA_ne (by decide)]
theorem Bd_dW {D : Dt} (h : Bd D) {i j : Nat} (hi : i < D.1 2) (hj : j < D.1 2) : Bd (dW D i j) := by
  obtain ⟨h1, h2, h3, h4, h5, h6⟩ := h
  have pi := h4 i hi
  have pj := h4 j hj
  refine ⟨h1, fun p hp => ?_, fun a ha => ?_, fun w hw => ?_, fun r hr => ?_, fun q hq => ?_⟩
  · rw [dW_ne (by decide) (by decide)]; exact h2 p hp
  · rw [dW_ne (by decide) (by decide), dW_ne (by decide) (by decide), dW_ne (by decide) (by decide)]; exact h3 a ha
  · have pw := h4 w hw
    refine ⟨by rw [dW_ne (by decide) (by decide)]; exact pw.1, by rw [dW_ne (by decide) (by decide)]; exact pw.2.1, by rw [dW_ne (by decide) (by decide)]; exact pw.2.2.1, ⟨?_, ?_⟩, ⟨?_, ?_⟩⟩
    · rw [dW_11]
      show _ < D.1 2
      split
      · exact pi.2.2.2.1.1
      · split
        · exact pj.2.2.2.1.1
        · exact pw.2.2.2.1.1
    · rw [dW_12, dW_11]
      by_cases e1 : w = j
      · subst e1
        rw [if_pos rfl]
        by_cases e2 : D.2 11 i = D.2 11 w
        · rw [if_pos e2]
          have := pi.2.2.2.1.2
          rw [e2] at this
          omega
        · rw [if_neg e2, if_pos rfl]
      · rw [if_neg e1]
        by_cases e2 : w = i
        · subst e2; rw [if_pos rfl, if_pos rfl]
        · rw [if_neg e2, if_neg, if_neg]
          · exact pw.2.2.2.1.2
          · intro e; have := pw.2.2.2.1.2; rw [e] at this; omega
          · intro e; have := pw.2.2.2.1.2; rw [e] at this; omega
    · rw [dW_12]
      show _ < D.1 2
      split
      · exact hi
      · split
        · exact hj
        · exact pw.2.2.2.2.1
    · rw [dW_11, dW_12]
      by_cases e1 : w = D.2 11 j
      · rw [if_pos e1]
        by_cases e3 : i = j
        · subst e3; rw [if_pos rfl, e1]
        · rw [if_neg e3, if_pos rfl, e1]
      · rw [if_neg e1]
        by_cases e2 : w = D.2 11 i
        · rw [if_pos e2, if_pos rfl, e2]
        · rw [if_neg e2, if_neg, if_neg]
          · exact pw.2.2.2.2.2
          · intro e; have := pw.2.2.2.2.2; rw [e] at this; exact e2 this.symm
          · intro e; have := pw.2.2.2.2.2; rw [e] at this; exact e1 this.symm
  · rw [dW_ne (by decide) (by decide), dW_ne (by decide) (by decide), dW_ne (by decide) (by decide), dW_ne (by decide) (by decide)]; exact h5 r hr
  · have := h6 q hq
    refine ⟨by rw [dW_ne (by decide) (by decide)]; exact this.1, by rw [dW_ne (by decide) (by decide)]; exact this.2.1, fun j1 hj1 => ?_⟩
    rw [dW_ne (by decide) (by decide), dW_ne (by decide) (by decide)]; exact this.2.2 j1 hj1
theorem swap_c {D : Dt} {tx : Nat → Int32} {s : St} (hc : RC D tx s) (hb : Bd D) {i j : Nat} (hi : i < D.1 2) (hj : j < D.1 2) : ∃ t, f_X0_swap (nI i) (nI j) s = some ((), t) ∧ Kp [46] s t ∧ RC (dW D i j) tx t := by
  have hW := hb.1.2.2.1
  have gI := gArr hc (c := 46) (a := 11) (n := 2) (by decide) hi
  have gJ := gArr hc (c := 46) (a := 11) (n := 2) (by decide) hj
  refine ⟨wI (wI s 46 i (nI (D.2 11 j))) 46 j (nI (D.2 11 i)), ?_, Kp_wI (Kp_wI Kp.rf (by decide) _ _) (by decide) _ _, ?_⟩
  · unfold f_X0_swap
    rw [gi_nI (lt_n hi hW) (by decide), cl_nI (by omega), gi_nI (lt_n hj hW) (by decide), cl_nI (n := j) (by omega), gi_nI (lt_n hi hW) (by decide), gi_nI (lt_n hj hW) (by decide), gI, gJ]
  · have h1 := RC_dA (v := D.2 11 j) hc (c := 46) (a := 11) (n := 2) (j := i) (by decide)
    have h2 := RC_dA (v := D.2 11 i) h1 (c := 46) (a := 11) (n := 2) (j := j) (by decide)
    exact RC_dA_not (RC_dA_not h2 rfl) rfl
theorem swaps_m {D : Dt} {tx : Nat → Int32} {s : St} (hm : RM D tx s) (hb : Bd D) {i j : Nat} (hi : i < D.1 2) (hj : j < D.1 2) : ∃ t, f_X11_swaps (nI i) (nI j) s = some ((), t) ∧ Kp [91] s t ∧ RM (dW D i j) tx t := by
  have hW := hb.1.2.2.1
  have pi := (hb.2.2.2.1 i hi).2.2.2.1.1
  have pj := (hb.2.2.2.1 j hj).2.2.2.1.1
  refine ⟨wI (wI s 91 (D.2 11 i) (nI j)) 91 (D.2 11 j) (nI i), ?_, Kp_wI (Kp_wI Kp.rf (by decide) _ _) (by decide) _ _, ?_⟩
  · unfold f_X11_swaps
    rw [windowAt_m hm hb hi, bd_ok, windowAt_m hm hb hj, bd_ok, gi_nI (lt_n pi hW) (by decide), cl_nI (by omega), gi_nI (lt_n pj hW) (by decide), cl_nI (by omega)]
  · have h0 := RM_dA_not (v := D.2 11 j) hm (a := 11) (j := i) rfl
    have h1 := RM_dA_not (v := D.2 11 i) h0 (a := 11) (j := j) rfl
    have h2 := RM_dA (v := j) h1 (c := 91) (a := 12) (n := 2) (j := D.2 11 i) (by decide)
    exact RM_dA (v := i) h2 (c := 91) (a := 12) (n := 2) (j := D.2 11 j) (by decide)
theorem RC_kpM {D : Dt} {tx : Nat → Int32} {s t : St} (h : RC D tx s) {ks : List Nat} (hk : Kp ks s t) (hd : ∀ k ∈ ks, 74 ≤ k) : RC D tx t := RC_ext h (fun k h1 => hk k (fun q => by have := hd k q; omega))
theorem RM_kpC {D : Dt} {tx : Nat → Int32} {s t : St} (h : RM D tx s) {ks : List Nat} (hk : Kp ks s t) (hd : ∀ k ∈ ks, k < 74) : RM D tx t := RM_ext h (fun k h1 => hk k (fun q => by have := hd k q; omega))
theorem call_change {D : Dt} {tx : Nat → Int32} {s : St} (h : Rel D tx s) (x1 x2 : Int32) : Ok (f_X10_change x1 x2) (f_X11_change x1 x2) s := by
  obtain ⟨hb, hc, hm⟩ := id h
  have hW := hb.1.2.2.1
  rcases three x1 (n := D.1 2) (by omega) with hx | ⟨i, hi, rfl⟩
  · refine rel0 h (r := 0) ?_ ?_
    · unfold f_X10_change; rw [cWin0 hc hx, bd_ok, if_pos rfl]
    · unfold f_X11_change; rw [mWin0 hm hb hx, bd_ok, if_pos rfl]
  · rcases three x2 (n := D.1 2) (by omega) with hx | ⟨j, hj, rfl⟩
    · refine rel0 h (r := 0) ?_ ?_
      · unfold f_X10_change; rw [cWin1 hc hb hi, bd_ok, if_neg (by decide), cWin0 hc hx, bd_ok, if_pos rfl]
      · unfold f_X11_change; rw [mWin1 hm hb hi, bd_ok, if_neg (by decide), mWin0 hm hb hx, bd_ok, if_pos rfl]
    · by_cases e : i = j
      · subst e
        refine rel0 h (r := 0) ?_ ?_
        · unfold f_X10_change; rw [cWin1 hc hb hi, bd_ok, if_neg (by decide), cWin1 hc hb hi, bd_ok, if_neg (by decide), if_pos rfl]
        · unfold f_X11_change; rw [mWin1 hm hb hi, bd_ok, if_neg (by decide), mWin1 hm hb hi, bd_ok, if_neg (by decide), if_pos rfl]
      · have hne : ¬ nI i = nI j := fun q => e ((nI_eq (by omega) (by omega)).mp q)
        obtain ⟨t, ht, hkt, hct⟩ := swap_c hc hb hi hj
        have hm1 := RM_kpC hm hkt (by decide)
        obtain ⟨u, hu, hku, hmu⟩ := swaps_m hm1 hb hi hj
        refine ⟨1, t, u, dW D i j, tx, ?_, ?_, Bd_dW hb hi hj, RC_kpM hct hku (by decide), hmu⟩
        · unfold f_X10_change; rw [cWin1 hc hb hi, bd_ok, if_neg (by decide), cWin1 hc hb hj, bd_ok, if_neg (by decide), if_neg hne, ht, bd_ok]
        · unfold f_X11_change; rw [mWin1 hm1 hb hi, bd_ok, if_neg (by decide), mWin1 hm1 hb hj, bd_ok, if_neg (by decide), if_neg hne, hu, bd_ok]
