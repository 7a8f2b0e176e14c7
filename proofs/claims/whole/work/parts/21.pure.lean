/-! ===== the simple calls ===== -/
theorem rel0 {D : Dt} {tx : Nat → Int32} {s : St} (h : Rel D tx s) {fc fm : St → Option (Int32 × St)} {r : Int32} (hc : fc s = some (r, s)) (hm : fm s = some (r, s)) : Ok fc fm s := ⟨r, s, s, D, tx, hc, hm, h⟩
theorem lt_n {j n m : Nat} (h : j < n) (h2 : n ≤ m) : j < m := Nat.lt_of_lt_of_le h h2
/-- bounds stay when a row's place changes to a good value -/
theorem Bd_how {D : Dt} (h : Bd D) {j v : Nat} (hv : v ≤ 2) : Bd (dA D 9 j v) := by
  obtain ⟨h1, h2, h3, h4, h5, h6⟩ := h
  refine ⟨h1, fun p hp => ?_, fun a ha => ?_, fun w hw => ?_, fun r hr => ?_, fun i hi => ?_⟩
  · rw [dA_ne (by decide)]; exact h2 p hp
  · rw [dA_ne (by decide), dA_ne (by decide), dA_ne (by decide)]; exact h3 a ha
  · have := h4 w hw
    refine ⟨by rw [dA_ne (by decide)]; exact this.1, by rw [dA_ne (by decide)]; exact this.2.1, ?_, ?_⟩
    · by_cases e : w = j
      · subst e; rw [dA_eq]; exact hv
      · rw [dA_nj e]; exact this.2.2.1
    · rw [dA_ne (by decide), dA_ne (by decide), dA_ne (by decide), dA_ne (by decide)]; exact this.2.2.2
  · rw [dA_ne (by decide), dA_ne (by decide), dA_ne (by decide), dA_ne (by decide)]; exact h5 r hr
  · have := h6 i hi
    refine ⟨by rw [dA_ne (by decide)]; exact this.1, by rw [dA_ne (by decide)]; exact this.2.1, fun j1 hj1 => ?_⟩
    rw [dA_ne (by decide), dA_ne (by decide)]; exact this.2.2 j1 hj1
theorem RC_ext {D : Dt} {tx : Nat → Int32} {s t : St} (h : RC D tx s) (hk : ∀ k, k < 74 → t.1 k = s.1 k) : RC D tx t :=
  h.keep (fun k hm => hk k (by simp only [List.mem_cons, List.not_mem_nil, or_false] at hm; omega)) (by show t.1 32 4 = s.1 32 4; rw [hk 32 (by decide)]) (by show t.1 38 6 = s.1 38 6; rw [hk 38 (by decide)]) (by show t.1 42 4 = s.1 42 4; rw [hk 42 (by decide)])
theorem RM_ext {D : Dt} {tx : Nat → Int32} {s t : St} (h : RM D tx s) (hk : ∀ k, 74 ≤ k → t.1 k = s.1 k) : RM D tx t :=
  h.keep (fun k hm => hk k (by simp only [List.mem_cons, List.not_mem_nil, or_false] at hm; omega)) (fun j _ => by show t.1 74 j = s.1 74 j; rw [hk 74 (by decide)])
theorem wI_lo {s : St} {c j : Nat} {v : Int32} (hc : 74 ≤ c) : ∀ k, k < 74 → (wI s c j v).1 k = s.1 k := fun k hk => by
  show va_up s.1 c _ k = _
  simp only [va_up, if_neg (show k ≠ c by omega)]
theorem wI_hi {s : St} {c j : Nat} {v : Int32} (hc : c < 74) : ∀ k, 74 ≤ k → (wI s c j v).1 k = s.1 k := fun k hk => by
  show va_up s.1 c _ k = _
  simp only [va_up, if_neg (show k ≠ c by omega)]
theorem call_stick {D : Dt} {tx : Nat → Int32} {s : St} (h : Rel D tx s) (x1 x2 : Int32) : Ok (f_X10_stick x1 x2) (f_X11_stick x1 x2) s := by
  obtain ⟨hb, hc, hm⟩ := id h
  have hW := hb.1.2.2.1
  rcases three x1 (n := D.1 2) (by omega) with hx | ⟨j, hj, rfl⟩
  · refine rel0 h (r := 0) ?_ ?_
    · unfold f_X10_stick; rw [cWin0 hc hx, bd_ok, if_pos rfl]
    · unfold f_X11_stick; rw [mWin0 hm hb hx, bd_ok, if_pos rfl]
  · rcases three x2 (n := 3) (by omega) with hx | ⟨v, hv, rfl⟩
    · have hx2 : x2 < 0 ∨ 2 < x2 := hx.imp id (fun q => by rw [fa_le] at q; rw [fa_lt]; have e1 : (nI 3).toInt = 3 := (by decide); have e2 : (2 : Int32).toInt = 2 := (by decide); omega)
      refine rel0 h (r := 0) ?_ ?_
      · unfold f_X10_stick
        rw [cWin1 hc hb hj, bd_ok, if_neg (by decide)]
        by_cases h0 : x2 < 0
        · rw [if_pos h0]
        · rw [if_neg h0, if_neg]
          have := hx2.resolve_left h0
          rw [fa_lt] at this; rw [fa_le]; omega
      · unfold f_X11_stick
        rw [mWin1 hm hb hj, bd_ok, if_neg (by decide), inM0 hx2, bd_ok, if_pos rfl]
    · have h0 : ¬ nI v < 0 := nI_pos (by omega)
      have h2 : nI v ≤ 2 := nI_le (a := v) (b := 2) (by omega) (by omega)
      refine ⟨1, wI s 33 j (nI v), wI (wI s 33 j (nI v)) 90 j (nI v), dA D 9 j v, tx, ?_, ?_, Bd_how hb (by omega), ?_, ?_⟩
      · unfold f_X10_stick
        rw [cWin1 hc hb hj, bd_ok, if_neg (by decide), if_neg h0, if_pos h2, gi_nI (lt_n hj hW) (by decide), cl_nI (by omega)]
      · unfold f_X11_stick
        have hm1 : RM D tx (wI s 33 j (nI v)) := RM_ext hm (wI_hi (by decide))
        rw [mWin1 hm1 hb hj, bd_ok, if_neg (by decide), inM1 h0 (by rw [fa_lt]; rw [fa_le] at h2; omega), bd_ok, if_neg (by decide), gi_nI (lt_n hj hW) (by decide), cl_nI (by omega)]
      · exact RC_ext (RC_dA hc (c := 33) (a := 9) (n := 2) (by decide)) (wI_lo (by decide))
      · exact RM_dA (RM_ext hm (wI_hi (by decide))) (c := 90) (a := 9) (n := 2) (by decide)
theorem call_erase {D : Dt} {tx : Nat → Int32} {s : St} (h : Rel D tx s) : Ok f_X10_erase f_X11_erase s := by
  obtain ⟨hb, hc, hm⟩ := id h
  refine ⟨nI (D.1 4), wI s 35 2 0, wI (wI s 35 2 0) 74 32 0, dS D 4 0, tx, ?_, ?_, ?_, ?_, ?_⟩
  · unfold f_X10_erase; rw [hc.1 (35, 2, 4) (by decide)]
  · unfold f_X11_erase
    have hm1 : RM D tx (wI s 35 2 0) := RM_ext hm (wI_hi (by decide))
    rw [hm1.1 (74, 32, 4) (by decide)]
  · obtain ⟨h1, h2, h3, h4, h5, h6⟩ := hb
    refine ⟨⟨h1.1, h1.2.1, h1.2.2.1, h1.2.2.2.1, ?_, h1.2.2.2.2.2⟩, h2, h3, h4, h5, fun i hi => absurd hi ?_⟩
    · rw [dS_eq]; omega
    · rw [dS_eq]; omega
  · exact RC_ext (RC_dS hc (c := 35) (j := 2) (k := 4) (v := 0) (by decide) (Or.inl rfl) (fun i _ hi => absurd hi (by omega))) (wI_lo (by decide))
  · exact RM_dS (RM_ext hm (wI_hi (by decide))) (j := 32) (k := 4) (v := 0) (by decide) (Or.inl rfl) (fun i _ hi => absurd hi (by omega))
theorem call_off {D : Dt} {tx : Nat → Int32} {s : St} (h : Rel D tx s) (x : Int32) : Ok (f_X10_off x) (f_X11_off x) s := by
  obtain ⟨hb, hc, hm⟩ := id h
  rcases three x (n := 21) (by omega) with hx | ⟨v, hv, rfl⟩
  · have hx2 : x < 0 ∨ 20 < x := hx.imp id (fun q => by rw [fa_le] at q; rw [fa_lt]; have e1 : (nI 21).toInt = 21 := (by decide); have e2 : (20 : Int32).toInt = 20 := (by decide); omega)
    refine rel0 h (r := 0) ?_ ?_
    · unfold f_X10_off
      by_cases h0 : x < 0
      · rw [if_pos h0]
      · rw [if_neg h0, if_neg]
        have := hx2.resolve_left h0
        rw [fa_lt] at this; rw [fa_le]; omega
    · unfold f_X11_off; rw [inM0 hx2, bd_ok, if_pos rfl]
  · have h0 : ¬ nI v < 0 := nI_pos (by omega)
    have h2 : nI v ≤ 20 := nI_le (a := v) (b := 20) (by omega) (by omega)
    refine ⟨1, wI s 38 6 (nI v), wI (wI s 38 6 (nI v)) 74 35 (nI v), dS D 5 v, tx, ?_, ?_, ?_, ?_, ?_⟩
    · unfold f_X10_off; rw [if_neg h0, if_pos h2]
    · unfold f_X11_off; rw [inM1 h0 (by rw [fa_lt]; rw [fa_le] at h2; omega), bd_ok, if_neg (by decide)]
    · obtain ⟨h1, h2, h3, h4, h5, h6⟩ := hb
      refine ⟨⟨h1.1, h1.2.1, h1.2.2.1, h1.2.2.2.1, h1.2.2.2.2.1, ?_, h1.2.2.2.2.2.2⟩, h2, h3, h4, h5, h6⟩
      rw [dS_eq]; omega
    · exact RC_ext (RC_dS hc (c := 38) (j := 6) (k := 5) (v := v) (by decide) (Or.inr (Or.inl rfl)) (fun i _ _ q hq hk => absurd hk (by
        simp only [arrC, List.mem_cons, List.not_mem_nil, or_false] at hq
        rcases hq with rfl | rfl | rfl | rfl | rfl | rfl | rfl | rfl | rfl | rfl | rfl | rfl <;> decide))) (wI_lo (by decide))
    · exact RM_dS (RM_ext hm (wI_hi (by decide))) (j := 35) (k := 5) (v := v) (by decide) (Or.inr (Or.inl rfl)) (fun i _ _ q hq hk => absurd hk (by
        simp only [arrM, List.mem_cons, List.not_mem_nil, or_false] at hq
        rcases hq with rfl | rfl | rfl | rfl | rfl | rfl | rfl | rfl | rfl | rfl | rfl <;> decide))
theorem call_till {D : Dt} {tx : Nat → Int32} {s : St} (h : Rel D tx s) (x : Int32) : Ok (f_X10_till x) (f_X11_till x) s := by
  obtain ⟨hb, hc, hm⟩ := id h
  have hl : (x < 1 ∨ 600 < x) ∨ ∃ v : Nat, (1 ≤ v ∧ v ≤ 600) ∧ x = nI v := by
    rcases three x (n := 601) (by omega) with hx | ⟨v, hv, rfl⟩
    · left
      rcases hx with hx | hx
      · left; rw [fa_lt] at hx ⊢; have e1 : (0 : Int32).toInt = 0 := (by decide); have e2 : (1 : Int32).toInt = 1 := (by decide); omega
      · right; rw [fa_le] at hx; rw [fa_lt]; have e1 : (nI 601).toInt = 601 := (by decide); have e2 : (600 : Int32).toInt = 600 := (by decide); omega
    · by_cases hv0 : v = 0
      · subst hv0; left; left; decide
      · exact Or.inr ⟨v, by omega, rfl⟩
  rcases hl with hx2 | ⟨v, hv, rfl⟩
  · refine rel0 h (r := 0) ?_ ?_
    · unfold f_X10_till
      by_cases h0 : x < 1
      · rw [if_pos h0]
      · rw [if_neg h0, if_neg]
        have := hx2.resolve_left h0
        rw [fa_lt] at this; rw [fa_le]; omega
    · unfold f_X11_till; rw [inM0 hx2, bd_ok, if_pos rfl]
  · have h0 : ¬ nI v < 1 := nI_nlt (a := v) (b := 1) (by omega) (by omega)
    have h2 : nI v ≤ 600 := nI_le (a := v) (b := 600) (by omega) (by omega)
    refine ⟨1, wI s 42 4 (nI v), wI (wI s 42 4 (nI v)) 74 36 (nI v), dS D 6 v, tx, ?_, ?_, ?_, ?_, ?_⟩
    · unfold f_X10_till; rw [if_neg h0, if_pos h2]
    · unfold f_X11_till; rw [inM1 h0 (by rw [fa_lt]; rw [fa_le] at h2; omega), bd_ok, if_neg (by decide)]
    · obtain ⟨h1, h2, h3, h4, h5, h6⟩ := hb
      refine ⟨⟨h1.1, h1.2.1, h1.2.2.1, h1.2.2.2.1, h1.2.2.2.2.1, h1.2.2.2.2.2.1, ?_, h1.2.2.2.2.2.2.2⟩, h2, h3, h4, h5, h6⟩
      rw [dS_eq]; exact hv
    · exact RC_ext (RC_dS hc (c := 42) (j := 4) (k := 6) (v := v) (by decide) (Or.inr (Or.inr rfl)) (fun i _ _ q hq hk => absurd hk (by
        simp only [arrC, List.mem_cons, List.not_mem_nil, or_false] at hq
        rcases hq with rfl | rfl | rfl | rfl | rfl | rfl | rfl | rfl | rfl | rfl | rfl | rfl <;> decide))) (wI_lo (by decide))
    · exact RM_dS (RM_ext hm (wI_hi (by decide))) (j := 36) (k := 6) (v := v) (by decide) (Or.inr (Or.inr rfl)) (fun i _ _ q hq hk => absurd hk (by
        simp only [arrM, List.mem_cons, List.not_mem_nil, or_false] at hq
        rcases hq with rfl | rfl | rfl | rfl | rfl | rfl | rfl | rfl | rfl | rfl | rfl <;> decide))
