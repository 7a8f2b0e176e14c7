/-! ===== the reader: a point, a rule ===== -/
def nmB (x : Nat) : Bool := decide (x ≠ 0) && (List.range 11).all (fun k => decide (x ≠ kw k))
theorem nmB_iff (x : Nat) : nmB x = true ↔ nmP x := by
  unfold nmB nmP isk
  simp only [Bool.and_eq_true, decide_eq_true_eq, List.all_eq_true, List.mem_range, not_exists, not_and]
def pPt (tx : Nat → Int32) (N : Nat) (E : Dt) (A : Nat) : Ln :=
  if kdA tx N (nxA tx N A) = 0 ∧ nmB (wdA tx N (nxA tx N A)) = true then
    if hsP tx N E (nxA tx N A) then (false, (nxA tx N A), E)
    else if wrd tx N 2 (nxA tx N (nxA tx N A)) ∨ wrd tx N 1 (nxA tx N (nxA tx N A)) then
      if kdA tx N (nxA tx N (nxA tx N (nxA tx N A))) = 2 then (true, (nxA tx N (nxA tx N (nxA tx N (nxA tx N A)))), addP E (if wrd tx N 2 (nxA tx N (nxA tx N A)) then 1 else 0) (wdA tx N (nxA tx N A)))
      else (false, (nxA tx N (nxA tx N (nxA tx N A))), E)
    else (false, (nxA tx N (nxA tx N A)), E)
  else (false, (nxA tx N A), E)
theorem one_nI (P : Prop) [Decidable P] : (if P then (1 : Int32) else 0) = nI (if P then 1 else 0) := by
  by_cases c : P
  · rw [if_pos c, if_pos c]; rfl
  · rw [if_neg c, if_neg c]; rfl
theorem one_le (P : Prop) [Decidable P] : (if P then 1 else 0) ≤ 1 := by
  split <;> omega
theorem pt98_c {tx : Nat → Int32} {N a : Nat} {E : Dt} {s u : St} (h : SC tx N a E u) (hK : Kp KC s u) (hn : E.1 0 < 12) {al x : Nat} (ha : al ≤ 1) (hx : NmC tx N x (rI u 4 (E.1 0)) (rI u 5 (E.1 0))) : LnC tx N s (j_X4_readPoint_d_98 (nI al) u) (if kdA tx N (nxA tx N a) = 2 then (true, nxA tx N (nxA tx N a), addP E al x) else (false, nxA tx N a, E)) := by
  obtain ⟨u1, a1, k1, h1⟩ := adv_S h
  have K1 : Kp KC s u1 := hK.tr (k1.mono (by decide))
  unfold j_X4_readPoint_d_98
  rw [a1, bd_ok]
  by_cases c : kdA tx N (nxA tx N a) = 2
  · obtain ⟨u2, a2, k2, h2⟩ := takeSemi_y h1 c
    have hx2 : NmC tx N x (rI u2 4 (E.1 0)) (rI u2 5 (E.1 0)) := by rw [Kp_rI k2 (by decide), Kp_rI k2 (by decide), Kp_rI k1 (by decide), Kp_rI k1 (by decide)]; exact hx
    obtain ⟨u3, a3, k3, h3⟩ := addPoint_c h2 hn ha hx2
    rw [if_pos c, a2, bd_ok, if_neg (by decide), a3, bd_ok]
    exact LnC_y h3 (K1.tr ((k2.mono (by decide)).tr (k3.mono (by decide)))) rfl
  · rw [if_neg c, takeSemi_n h1 c, bd_ok, if_pos rfl]
    exact LnC_n h1 K1 rfl
theorem point_c {tx : Nat → Int32} {N A : Nat} {E : Dt} {s : St} (h : SC tx N A E s) (hB : BE E) (hn : E.1 0 < 12) : LnC tx N s (f_X4_readPoint_d s) (pPt tx N E A) := by
  obtain ⟨u1, a1, k1, h1⟩ := adv_S h
  have K1 : Kp KC s u1 := k1.mono (by decide)
  obtain ⟨n1, n2⟩ := isName_c h1.1 h1.2.1 h1.2.2.1
  unfold pPt f_X4_readPoint_d
  rw [a1, bd_ok]
  by_cases c1 : kdA tx N (nxA tx N A) = 0 ∧ nmB (wdA tx N (nxA tx N A)) = true
  · have hnm := (nmB_iff _).mp c1.2
    rw [if_pos c1, n1 ⟨c1.1, hnm⟩, bd_ok, if_neg (by decide), h1.2.2.2.1 0 (by decide), findPoint_c h1 hB, bd_ok]
    by_cases c2 : hsP tx N E (nxA tx N A)
    · have := c2.2
      rw [if_pos c2, if_pos c2, if_neg (ne_m1 (by have := hB.1.1; omega))]
      exact LnC_n h1 K1 rfl
    · rw [if_neg c2, if_neg c2, if_pos rfl, h1.2.2.2.1 0 (by decide), gi_nI (j := E.1 0) (n := 12) hn (by decide), cl_nI (n := E.1 0) (by omega), h1.2.2.1.2.1]
      have k2 : Kp [4] u1 (wI u1 4 (E.1 0) (nI (nxA tx N A))) := Kp_wI Kp.rf (by decide) _ _
      have h2 : SC tx N (nxA tx N A) E (wI u1 4 (E.1 0) (nI (nxA tx N A))) := ⟨h1.1, h1.2.1.kp k2 (by decide) (by decide), h1.2.2.1.kp k2 (by decide), h1.2.2.2.w45 (Or.inl rfl) _⟩
      have k3 : Kp [5] (wI u1 4 (E.1 0) (nI (nxA tx N A))) (wI (wI u1 4 (E.1 0) (nI (nxA tx N A))) 5 (E.1 0) (nI (enA tx N (nxA tx N A)))) := Kp_wI Kp.rf (by decide) _ _
      have h3 : SC tx N (nxA tx N A) E (wI (wI u1 4 (E.1 0) (nI (nxA tx N A))) 5 (E.1 0) (nI (enA tx N (nxA tx N A)))) := ⟨h2.1, h2.2.1.kp k3 (by decide) (by decide), h2.2.2.1.kp k3 (by decide), h2.2.2.2.w45 (Or.inr rfl) _⟩
      have hx3 : NmC tx N (wdA tx N (nxA tx N A)) (rI (wI (wI u1 4 (E.1 0) (nI (nxA tx N A))) 5 (E.1 0) (nI (enA tx N (nxA tx N A)))) 4 (E.1 0)) (rI (wI (wI u1 4 (E.1 0) (nI (nxA tx N A))) 5 (E.1 0) (nI (enA tx N (nxA tx N A)))) 5 (E.1 0)) := by
        obtain ⟨w1, w2, w3⟩ := wordL h1.1 c1.1
        have l8 : enA tx N (nxA tx N A) - (nxA tx N A) ≤ 8 := by
          have := (wd_lt h1.1 c1.1).2
          have := hnm.1
          omega
        refine ⟨(nxA tx N A), enA tx N (nxA tx N A), w1, w2, l8, w3, by rw [rI_nk (by decide), rI_same], rI_same _ _ _ _, ?_⟩
        unfold wdA
        rw [if_pos l8]
      show LnC tx N s (gi (rI (wI u1 4 (E.1 0) (nI (nxA tx N A))) 18 0) 12 (bd (f_X9_advance (wI (wI u1 4 (E.1 0) (nI (nxA tx N A))) 5 (rI (wI u1 4 (E.1 0) (nI (nxA tx N A))) 18 0).toNatClampNeg (rI (wI u1 4 (E.1 0) (nI (nxA tx N A))) 7 3))) _)) _
      rw [h2.2.2.2.1 0 (by decide), gi_nI (j := E.1 0) (n := 12) hn (by decide), cl_nI (n := E.1 0) (by omega), h2.2.2.1.2.2.1]
      have K3 : Kp KC s (wI (wI u1 4 (E.1 0) (nI (nxA tx N A))) 5 (E.1 0) (nI (enA tx N (nxA tx N A)))) := K1.tr ((k2.mono (by decide)).tr (k3.mono (by decide)))
      generalize wI (wI u1 4 (E.1 0) (nI (nxA tx N A))) 5 (E.1 0) (nI (enA tx N (nxA tx N A))) = u3 at *
      obtain ⟨u4, a4, k4, h4⟩ := adv_S h3
      have K4 : Kp KC s u4 := K3.tr (k4.mono (by decide))
      have hx4 : NmC tx N (wdA tx N (nxA tx N A)) (rI u4 4 (E.1 0)) (rI u4 5 (E.1 0)) := by rw [Kp_rI k4 (by decide), Kp_rI k4 (by decide)]; exact hx3
      rw [a4, bd_ok, isWord_c h4.1 h4.2.1 h4.2.2.1 (k := 2) (by decide), bd_ok, one0]
      by_cases c3 : wrd tx N 2 (nxA tx N (nxA tx N A))
      · have := pt98_c h4 K4 hn (al := 1) (by decide) hx4
        rw [if_pos c3, if_pos (Or.inl c3), if_pos c3, if_pos c3]
        exact this
      · rw [if_neg c3, isWord_c h4.1 h4.2.1 h4.2.2.1 (k := 1) (by decide), bd_ok, one0]
        by_cases c4 : wrd tx N 1 (nxA tx N (nxA tx N A))
        · have := pt98_c h4 K4 hn (al := 0) (by decide) hx4
          rw [if_pos c4, if_pos (Or.inr c4), if_neg c3, if_neg c3]
          exact this
        · rw [if_neg c4, if_neg (fun q => q.elim c3 c4)]
          exact LnC_n h4 K4 rfl
  · rw [if_neg c1, n2 (fun q => c1 ⟨q.1, (nmB_iff _).mpr q.2⟩), bd_ok, if_pos rfl]
    exact LnC_n h1 K1 rfl
theorem pt84_m {tx : Nat → Int32} {N a : Nat} {E : Dt} {s u : St} (h : SM tx N a E u) (hK : Km s u) {al x : Nat} (h77 : rI u 77 (E.1 0) = nI al) (h76 : rL u 76 (E.1 0) = lN x) : LnM tx N s (j_X11_pointLine_84 u) (if kdA tx N (nxA tx N a) = 2 then (true, nxA tx N (nxA tx N a), addP E al x) else (false, nxA tx N a, E)) := by
  obtain ⟨f1, f2, f3, f4, f5, f6⟩ := addP_e E al x
  have hpush := DM_push (m := 6) (c := 0) (by decide) h.2.2.2 f1 f2 f3 f4 (fun q hq hc => by
    simp only [arrF, List.mem_cons, List.not_mem_nil, or_false] at hq
    rcases hq with rfl | rfl | rfl | rfl | rfl | rfl <;> first | exact absurd hc (by decide) | skip
    rw [f5]; exact h77) (fun q => absurd q (by decide)) (fun _ => by rw [f6]; exact h76)
  have h2 := SM_wI h (k := 74) (j := 6) (Or.inr ⟨rfl, by decide⟩) hpush
  have K2 : Km s (wI u 74 6 (nI (E.1 0 + 1))) := hK.tr (Km_74 (by decide) _)
  obtain ⟨u3, a3, k3, h3⟩ := next_S h2
  have K3 := K2.tr (Km_nk k3)
  unfold j_X11_pointLine_84
  rw [h.2.2.2.1 (6, 0) (by decide), nI_1]
  show LnM tx N s (bd (f_X11_next (wI u 74 6 (nI (E.1 0 + 1)))) _) _
  rw [a3, bd_ok]
  by_cases c : kdA tx N (nxA tx N a) = 2
  · obtain ⟨u4, a4, k4, h4⟩ := closes_y h3 c
    rw [if_pos c, a4, bd_ok, gb_1]
    exact LnM_y h4 (K3.tr (Km_nk k4)) rfl
  · rw [if_neg c, closes_n h3 c, bd_ok, gb_0]
    exact LnM_n h3 K3 rfl
theorem point_m {tx : Nat → Int32} {N A : Nat} {E : Dt} {s : St} (h : SM tx N A E s) (hB : BE E) (hn : E.1 0 < 12) : LnM tx N s (f_X11_pointLine s) (pPt tx N E A) := by
  obtain ⟨u1, a1, k1, h1⟩ := next_S h
  have K1 : Km s u1 := Km_nk k1
  obtain ⟨n1, n2⟩ := isName_m h1.1 h1.2.2.1
  unfold pPt f_X11_pointLine
  rw [h.2.2.2.1 (6, 0) (by decide), if_neg (show ¬ nI (E.1 0) = (12 : Int32) from fun q => by
    have := (nI_eq (a := E.1 0) (b := 12) (by omega) (by omega)).mp q
    omega), a1, bd_ok]
  by_cases c1 : kdA tx N (nxA tx N A) = 0 ∧ nmB (wdA tx N (nxA tx N A)) = true
  · have hnm := (nmB_iff _).mp c1.2
    rw [if_pos c1, n1 ⟨c1.1, hnm⟩, bd_ok, if_neg (by decide), named_m h1 hB, bd_ok]
    by_cases c2 : hsP tx N E (nxA tx N A)
    · have := c2.2
      rw [if_pos c2, if_pos c2, if_neg (ne_m1 (by have := hB.1.1; omega))]
      exact LnM_n h1 K1 rfl
    · rw [if_neg c2, if_neg c2, if_pos rfl, h1.2.2.2.1 (6, 0) (by decide), gi_nI (j := E.1 0) (n := 12) hn (by decide), cl_nI (n := E.1 0) (by omega), h1.2.2.1.2.2.2.2 c1.1]
      have h2 := SM_w76 h1 (lN (wdA tx N (nxA tx N A)))
      have K2 : Km s (wL u1 76 (E.1 0) (lN (wdA tx N (nxA tx N A)))) := K1.tr (Km_wL _)
      have x2 : rL (wL u1 76 (E.1 0) (lN (wdA tx N (nxA tx N A)))) 76 (E.1 0) = lN (wdA tx N (nxA tx N A)) := rL_same _ _ _ _
      show LnM tx N s (bd (f_X11_next (wL u1 76 (E.1 0) (lN (wdA tx N (nxA tx N A))))) _) _
      generalize wL u1 76 (E.1 0) (lN (wdA tx N (nxA tx N A))) = u2 at *
      obtain ⟨u3, a3, k3, h3⟩ := next_S h2
      have K3 := K2.tr (Km_nk k3)
      have x3 : rL u3 76 (E.1 0) = lN (wdA tx N (nxA tx N A)) := by rw [k3.2.2]; exact x2
      rw [a3, bd_ok, isWord_m h3.1 h3.2.2.1 (k := 2) (by decide), bd_ok, h3.2.2.2.1 (6, 0) (by decide), gi_nI (j := E.1 0) (n := 12) hn (by decide), cl_nI (n := E.1 0) (by omega), one_nI, nar01 (one_le _)]
      have h4 := SM_wI h3 (k := 77) (j := E.1 0) (v := nI (if wrd tx N 2 (nxA tx N (nxA tx N A)) then 1 else 0)) (Or.inl (by decide)) (h3.2.2.2.w (q := (77, 0, 0)) (by decide) _)
      have K4 : Km s (wI u3 77 (E.1 0) (nI (if wrd tx N 2 (nxA tx N (nxA tx N A)) then 1 else 0))) := K3.tr (Km_wI (by decide) _)
      have x4 : rL (wI u3 77 (E.1 0) (nI (if wrd tx N 2 (nxA tx N (nxA tx N A)) then 1 else 0))) 76 (E.1 0) = lN (wdA tx N (nxA tx N A)) := by rw [rL_wI]; exact x3
      have y4 : rI (wI u3 77 (E.1 0) (nI (if wrd tx N 2 (nxA tx N (nxA tx N A)) then 1 else 0))) 77 (E.1 0) = nI (if wrd tx N 2 (nxA tx N (nxA tx N A)) then 1 else 0) := rI_same _ _ _ _
      show LnM tx N s (bd (f_X11_isWord 1 (wI u3 77 (E.1 0) (nI (if wrd tx N 2 (nxA tx N (nxA tx N A)) then 1 else 0)))) _) _
      generalize wI u3 77 (E.1 0) (nI (if wrd tx N 2 (nxA tx N (nxA tx N A)) then 1 else 0)) = u4 at *
      have hl := pt84_m h4 K4 y4 x4
      rw [isWord_m h4.1 h4.2.2.1 (k := 1) (by decide), bd_ok, one0]
      by_cases c4 : wrd tx N 1 (nxA tx N (nxA tx N A))
      · rw [if_pos c4, if_pos (Or.inr c4)]
        exact hl
      · rw [if_neg c4, isWord_m h4.1 h4.2.2.1 (k := 2) (by decide), bd_ok, one0]
        by_cases c3 : wrd tx N 2 (nxA tx N (nxA tx N A))
        · rw [if_pos c3, if_pos (Or.inl c3)]
          exact hl
        · rw [if_neg c3, if_neg (fun q => q.elim c3 c4)]
          exact LnM_n h4 K4 rfl
  · rw [if_neg c1, n2 (fun q => c1 ⟨q.1, (nmB_iff _).mpr q.2⟩), bd_ok, if_pos rfl]
    exact LnM_n h1 K1 rfl
