/-! ===== the reader: a point, an arc ===== -/
abbrev Ln : Type := Bool × Nat × Dt
def KC : List Nat := [3, 4, 5, 6, 7, 18, 19, 20, 21, 22, 23, 24, 25, 26, 27]
def LnC (tx : Nat → Int32) (N : Nat) (s : St) (f : Option (Int32 × St)) (R : Ln) : Prop := ∃ u, f = some (if R.1 then 1 else 0, u) ∧ Kp KC s u ∧ R.2.1 ≤ N ∧ TxC tx N u ∧ TkC tx N R.2.1 u ∧ (R.1 = true → DC tx N R.2.2 u)
theorem LnC_n {tx : Nat → Int32} {N A : Nat} {E F : Dt} {s u : St} {f : Option (Int32 × St)} (h : SC tx N A F u) (hk : Kp KC s u) (hf : f = some (0, u)) : LnC tx N s f (false, A, E) := ⟨u, hf, hk, h.1, h.2.1, h.2.2.1, fun q => Bool.noConfusion q⟩
theorem LnC_y {tx : Nat → Int32} {N A : Nat} {E : Dt} {s u : St} {f : Option (Int32 × St)} (h : SC tx N A E u) (hk : Kp KC s u) (hf : f = some (1, u)) : LnC tx N s f (true, A, E) := ⟨u, hf, hk, h.1, h.2.1, h.2.2.1, fun _ => h.2.2.2⟩
def Km (s u : St) : Prop := Kp [74, 76, 77, 78, 79, 80, 81, 82, 83, 96] s u ∧ ∀ j, j ∉ [2, 3, 4, 6, 9, 13, 16] → rI u 74 j = rI s 74 j
theorem Km.rf {s : St} : Km s s := ⟨Kp.rf, fun _ _ => rfl⟩
theorem Km.tr {s t u : St} (h1 : Km s t) (h2 : Km t u) : Km s u := ⟨h1.1.tr h2.1, fun j h => (h2.2 j h).trans (h1.2 j h)⟩
theorem Km_nk {s t : St} (h : Nk s t) : Km s t := ⟨h.1.mono (by decide), fun j hj => h.2.1 j (fun e => hj (by rw [e]; decide)) (fun e => hj (by rw [e]; decide)) (fun e => hj (by rw [e]; decide))⟩
theorem Km_wI {s : St} {k j : Nat} (hk : k ∈ [76, 77, 78, 79, 80, 81, 82, 83, 96]) (v : Int32) : Km s (wI s k j v) := ⟨Kp_wI Kp.rf (by
  simp only [List.mem_cons, List.not_mem_nil, or_false] at hk ⊢
  omega) _ _, fun i _ => rI_nk (fun e => by rw [← e] at hk; exact absurd hk (by decide))⟩
theorem Km_74 {s : St} {j : Nat} (hj : j ∈ [2, 3, 4, 6, 9, 13, 16]) (v : Int32) : Km s (wI s 74 j v) := ⟨Kp_wI Kp.rf (by decide) _ _, fun i hi => rI_nj (fun e => hi (by rw [e]; exact hj))⟩
theorem Km_wL {s : St} {k j : Nat} (v : Int64) : Km s (wL s k j v) := ⟨Kp_wL Kp.rf _ _ _, fun _ _ => rI_wL _ _ _ _ _ _⟩
def LnM (tx : Nat → Int32) (N : Nat) (s : St) (f : Option (Int32 × St)) (R : Ln) : Prop := ∃ u, f = some (if R.1 then 1 else 0, u) ∧ Km s u ∧ R.2.1 ≤ N ∧ TxM tx N u ∧ TkM tx N R.2.1 u ∧ (R.1 = true → DM R.2.2 u)
theorem LnM_n {tx : Nat → Int32} {N A : Nat} {E F : Dt} {s u : St} {f : Option (Int32 × St)} (h : SM tx N A F u) (hk : Km s u) (hf : f = some (0, u)) : LnM tx N s f (false, A, E) := ⟨u, hf, hk, h.1, h.2.1, h.2.2.1, fun q => Bool.noConfusion q⟩
theorem LnM_y {tx : Nat → Int32} {N A : Nat} {E : Dt} {s u : St} {f : Option (Int32 × St)} (h : SM tx N A E u) (hk : Km s u) (hf : f = some (1, u)) : LnM tx N s f (true, A, E) := ⟨u, hf, hk, h.1, h.2.1, h.2.2.1, fun _ => h.2.2.2⟩
/-- a write of the reference that touches no token -/
theorem TkM.w {tx : Nat → Int32} {N A : Nat} {s t : St} (h : TkM tx N A s) (h2 : ∀ j, j = 2 ∨ j = 3 ∨ j = 4 → rI t 74 j = rI s 74 j) (h5 : rL t 74 5 = rL s 74 5) : TkM tx N A t := by
  unfold TkM
  rw [h2 2 (by decide), h2 3 (by decide), h2 4 (by decide), h5]
  exact h
theorem SM_wI {tx : Nat → Int32} {N A : Nat} {E F : Dt} {s : St} (h : SM tx N A E s) {k j : Nat} {v : Int32} (hk : k ∈ [76, 77, 78, 79, 80, 81, 82, 83, 96] ∨ k = 74 ∧ j ∈ [6, 9, 13, 16]) (hd : DM F (wI s k j v)) : SM tx N A F (wI s k j v) := by
  obtain ⟨hA, ht, ht2, _⟩ := h
  have e74 : ∀ i, i ∉ [6, 9, 13, 16] → rI (wI s k j v) 74 i = rI s 74 i := fun i hi => by
    rcases hk with hk | ⟨rfl, hj⟩
    · exact rI_nk (fun e => by rw [← e] at hk; exact absurd hk (by decide))
    · exact rI_nj (fun e => hi (by rw [e]; exact hj))
  refine ⟨hA, ⟨ht.1, by rw [e74 1 (by decide)]; exact ht.2.1, fun i hi => ?_⟩, ht2.w (fun i hi => e74 i (by rcases hi with rfl | rfl | rfl <;> decide)) (rL_wI _ _ _ _ _ _), hd⟩
  rw [rI_nk]
  · exact ht.2.2 i hi
  · rcases hk with hk | ⟨rfl, hj⟩
    · exact fun e => by rw [← e] at hk; exact absurd hk (by decide)
    · decide
theorem SM_w76 {tx : Nat → Int32} {N A : Nat} {E : Dt} {s : St} (h : SM tx N A E s) (v : Int64) : SM tx N A E (wL s 76 (E.1 0) v) := by
  obtain ⟨hA, ht, hk, hd⟩ := h
  exact ⟨hA, ht, hk.w (fun _ _ => rfl) (rL_nk (by decide)), hd.w76 v⟩
/-- an arc's line, from its first word at A -/
def pArc (tx : Nat → Int32) (N : Nat) (E : Dt) (A : Nat) : Ln :=
  if hsP tx N E (nxA tx N A) then
    if wrd tx N 4 (nxA tx N (nxA tx N A)) then
      if hsP tx N E (nxA tx N (nxA tx N (nxA tx N A))) then
        if wrd tx N 5 (nxA tx N (nxA tx N (nxA tx N (nxA tx N A)))) then
          if nmb tx N 0 61 (nxA tx N (nxA tx N (nxA tx N (nxA tx N (nxA tx N A))))) then
            if kdA tx N (nxA tx N (nxA tx N (nxA tx N (nxA tx N (nxA tx N (nxA tx N A)))))) = 2 then
              (true, nxA tx N (nxA tx N (nxA tx N (nxA tx N (nxA tx N (nxA tx N (nxA tx N A)))))), addA E (fpN E (wdA tx N (nxA tx N A))) (fpN E (wdA tx N (nxA tx N (nxA tx N (nxA tx N A))))) (vlA tx N (nxA tx N (nxA tx N (nxA tx N (nxA tx N (nxA tx N A)))))))
            else (false, nxA tx N (nxA tx N (nxA tx N (nxA tx N (nxA tx N (nxA tx N A))))), E)
          else (false, nxA tx N (nxA tx N (nxA tx N (nxA tx N (nxA tx N A)))), E)
        else (false, nxA tx N (nxA tx N (nxA tx N (nxA tx N A))), E)
      else (false, nxA tx N (nxA tx N (nxA tx N A)), E)
    else (false, nxA tx N (nxA tx N A), E)
  else (false, nxA tx N A, E)
theorem arc_c {tx : Nat → Int32} {N A : Nat} {E : Dt} {s : St} (h : SC tx N A E s) (hB : BE E) (hn : E.1 1 < 24) : LnC tx N s (f_X4_readArc_d s) (pArc tx N E A) := by
  obtain ⟨u1, a1, k1, h1⟩ := adv_S h
  have K1 : Kp KC s u1 := k1.mono (by decide)
  unfold pArc f_X4_readArc_d
  rw [a1, bd_ok]
  by_cases c1 : hsP tx N E (nxA tx N A)
  · obtain ⟨u2, a2, k2, v2, h2⟩ := takePoint_y h1 hB c1
    have K2 : Kp KC s u2 := K1.tr (k2.mono (by decide))
    rw [if_pos c1, a2, bd_ok, if_neg (by decide), v2]
    by_cases c2 : wrd tx N 4 (nxA tx N (nxA tx N A))
    · obtain ⟨u3, a3, k3, h3⟩ := takeWord_y h2 (k := 4) (by decide) c2
      have K3 : Kp KC s u3 := K2.tr (k3.mono (by decide))
      rw [if_pos c2, a3, bd_ok, if_neg (by decide)]
      by_cases c3 : hsP tx N E (nxA tx N (nxA tx N (nxA tx N A)))
      · obtain ⟨u4, a4, k4, v4, h4⟩ := takePoint_y h3 hB c3
        have K4 : Kp KC s u4 := K3.tr (k4.mono (by decide))
        rw [if_pos c3, a4, bd_ok, if_neg (by decide), v4]
        by_cases c4 : wrd tx N 5 (nxA tx N (nxA tx N (nxA tx N (nxA tx N A))))
        · obtain ⟨u5, a5, k5, h5⟩ := takeWord_y h4 (k := 5) (by decide) c4
          have K5 : Kp KC s u5 := K4.tr (k5.mono (by decide))
          rw [if_pos c4, a5, bd_ok, if_neg (by decide)]
          by_cases c5 : nmb tx N 0 61 (nxA tx N (nxA tx N (nxA tx N (nxA tx N (nxA tx N A)))))
          · obtain ⟨u6, a6, k6, v6, h6⟩ := takeNumber_y h5 (by decide) c5 (x1 := 0) (x2 := 60) rfl (by decide)
            have K6 : Kp KC s u6 := K5.tr (k6.mono (by decide))
            rw [if_pos c5, a6, bd_ok, if_neg (by decide), v6]
            by_cases c6 : kdA tx N (nxA tx N (nxA tx N (nxA tx N (nxA tx N (nxA tx N (nxA tx N A)))))) = 2
            · obtain ⟨u7, a7, k7, h7⟩ := takeSemi_y h6 c6
              obtain ⟨u8, a8, k8, h8⟩ := addArc_c h7 hn (fpN E (wdA tx N (nxA tx N A))) (fpN E (wdA tx N (nxA tx N (nxA tx N (nxA tx N A))))) (vlA tx N (nxA tx N (nxA tx N (nxA tx N (nxA tx N (nxA tx N A))))))
              rw [if_pos c6, a7, bd_ok, if_neg (by decide)]
              refine LnC_y h8 (K6.tr ((k7.mono (by decide)).tr (k8.mono (by decide)))) ?_
              rw [a8, bd_ok]
            · rw [if_neg c6, takeSemi_n h6 c6, bd_ok, if_pos rfl]
              exact LnC_n h6 K6 rfl
          · rw [if_neg c5, takeNumber_n h5 (by decide) (by decide) c5 (x1 := 0) (x2 := 60) rfl (by decide), bd_ok, if_pos rfl]
            exact LnC_n h5 K5 rfl
        · rw [if_neg c4, takeWord_n h4 (by decide) c4, bd_ok, if_pos rfl]
          exact LnC_n h4 K4 rfl
      · rw [if_neg c3, takePoint_n h3 hB c3, bd_ok, if_pos rfl]
        exact LnC_n h3 K3 rfl
    · rw [if_neg c2, takeWord_n h2 (by decide) c2, bd_ok, if_pos rfl]
      exact LnC_n h2 K2 rfl
  · rw [if_neg c1, takePoint_n h1 hB c1, bd_ok, if_pos rfl]
    exact LnC_n h1 K1 rfl
theorem toI_lN (n : Nat) : (lN n).toInt32 = nI n := lN_i n
theorem arc_m {tx : Nat → Int32} {N A : Nat} {E : Dt} {s : St} (h : SM tx N A E s) (hB : BE E) (hn : E.1 1 < 24) : LnM tx N s (f_X11_arcLine s) (pArc tx N E A) := by
  have hP := hB.1.1
  obtain ⟨u1, a1, k1, h1⟩ := next_S h
  have K1 : Km s u1 := Km_nk k1
  unfold pArc f_X11_arcLine
  rw [h.2.2.2.1 (9, 1) (by decide), if_neg (show ¬ nI (E.1 1) = (24 : Int32) from fun q => by
    have := (nI_eq (a := E.1 1) (b := 24) (by omega) (by omega)).mp q
    omega), a1, bd_ok, named_m h1 hB, bd_ok, h1.2.2.2.1 (9, 1) (by decide), gi_nI (j := E.1 1) (n := 24) hn (by decide), cl_nI (n := E.1 1) (by omega)]
  generalize hr1 : (if hsP tx N E (nxA tx N A) then nI (fpN E (wdA tx N (nxA tx N A))) else (-1 : Int32)) = r1
  have h1w : SM tx N (nxA tx N A) E (wI u1 78 (E.1 1) r1) := SM_wI h1 (Or.inl (by decide)) (h1.2.2.2.w (q := (78, 1, 1)) (by decide) _)
  have K1w : Km s (wI u1 78 (E.1 1) r1) := K1.tr (Km_wI (by decide) _)
  have e1 : rI (wI u1 78 (E.1 1) r1) 78 (E.1 1) = r1 := rI_same _ _ _ _
  show LnM tx N s (gi (rI (wI u1 78 (E.1 1) r1) 74 9) 24 (if rI (wI u1 78 (E.1 1) r1) 78 (rI (wI u1 78 (E.1 1) r1) 74 9).toNatClampNeg = -1 then some (0, wI u1 78 (E.1 1) r1) else bd (f_X11_next (wI u1 78 (E.1 1) r1)) _)) _
  generalize wI u1 78 (E.1 1) r1 = u1w at *
  rw [h1w.2.2.2.1 (9, 1) (by decide), gi_nI (j := E.1 1) (n := 24) hn (by decide), cl_nI (n := E.1 1) (by omega), e1]
  by_cases c1 : hsP tx N E (nxA tx N A)
  · have hf1 := c1.2
    rw [if_pos c1] at hr1
    obtain ⟨u2, a2, k2, h2⟩ := next_S h1w
    have K2 : Km s u2 := K1w.tr (Km_nk k2)
    have e2 : rI u2 78 (E.1 1) = nI (fpN E (wdA tx N (nxA tx N A))) := by rw [Kp_rI k2.1 (by decide), e1, hr1]
    rw [if_pos c1, if_neg (by rw [← hr1]; exact ne_m1 (by omega)), a2, bd_ok]
    by_cases c2 : wrd tx N 4 (nxA tx N (nxA tx N A))
    · obtain ⟨u3, a3, k3, h3⟩ := word_y h2 (k := 4) (by decide) c2
      have K3 : Km s u3 := K2.tr (Km_nk k3)
      have e3 : rI u3 78 (E.1 1) = nI (fpN E (wdA tx N (nxA tx N A))) := by rw [Kp_rI k3.1 (by decide), e2]
      rw [if_pos c2, a3, bd_ok, if_neg (by decide), named_m h3 hB, bd_ok, h3.2.2.2.1 (9, 1) (by decide), gi_nI (j := E.1 1) (n := 24) hn (by decide), cl_nI (n := E.1 1) (by omega)]
      generalize hr3 : (if hsP tx N E (nxA tx N (nxA tx N (nxA tx N A))) then nI (fpN E (wdA tx N (nxA tx N (nxA tx N (nxA tx N A))))) else (-1 : Int32)) = r3
      have h3w : SM tx N (nxA tx N (nxA tx N (nxA tx N A))) E (wI u3 79 (E.1 1) r3) := SM_wI h3 (Or.inl (by decide)) (h3.2.2.2.w (q := (79, 2, 1)) (by decide) _)
      have K3w : Km s (wI u3 79 (E.1 1) r3) := K3.tr (Km_wI (by decide) _)
      have e3w : rI (wI u3 79 (E.1 1) r3) 78 (E.1 1) = nI (fpN E (wdA tx N (nxA tx N A))) := by rw [rI_nk (by decide)]; exact e3
      have g3w : rI (wI u3 79 (E.1 1) r3) 79 (E.1 1) = r3 := rI_same _ _ _ _
      show LnM tx N s (gi (rI (wI u3 79 (E.1 1) r3) 74 9) 24 (if rI (wI u3 79 (E.1 1) r3) 79 (rI (wI u3 79 (E.1 1) r3) 74 9).toNatClampNeg = -1 then some (0, wI u3 79 (E.1 1) r3) else bd (f_X11_next (wI u3 79 (E.1 1) r3)) _)) _
      generalize wI u3 79 (E.1 1) r3 = u3w at *
      rw [h3w.2.2.2.1 (9, 1) (by decide), gi_nI (j := E.1 1) (n := 24) hn (by decide), cl_nI (n := E.1 1) (by omega), g3w]
      by_cases c3 : hsP tx N E (nxA tx N (nxA tx N (nxA tx N A)))
      · have hf3 := c3.2
        rw [if_pos c3] at hr3
        obtain ⟨u4, a4, k4, h4⟩ := next_S h3w
        have K4 : Km s u4 := K3w.tr (Km_nk k4)
        have e4 : rI u4 78 (E.1 1) = nI (fpN E (wdA tx N (nxA tx N A))) := by rw [Kp_rI k4.1 (by decide), e3w]
        have g4 : rI u4 79 (E.1 1) = nI (fpN E (wdA tx N (nxA tx N (nxA tx N (nxA tx N A))))) := by rw [Kp_rI k4.1 (by decide), g3w, hr3]
        rw [if_pos c3, if_neg (by rw [← hr3]; exact ne_m1 (by omega)), a4, bd_ok]
        by_cases c4 : wrd tx N 5 (nxA tx N (nxA tx N (nxA tx N (nxA tx N A))))
        · obtain ⟨u5, a5, k5, h5⟩ := word_y h4 (k := 5) (by decide) c4
          have K5 : Km s u5 := K4.tr (Km_nk k5)
          have e5 : rI u5 78 (E.1 1) = nI (fpN E (wdA tx N (nxA tx N A))) := by rw [Kp_rI k5.1 (by decide), e4]
          have g5 : rI u5 79 (E.1 1) = nI (fpN E (wdA tx N (nxA tx N (nxA tx N (nxA tx N A))))) := by rw [Kp_rI k5.1 (by decide), g4]
          rw [if_pos c4, a5, bd_ok, if_neg (by decide), isNumber_m h5 (l := 0) (g := 61) (by decide) (by decide) (x1 := 0) (x2 := 60) rfl (by decide), bd_ok, one0]
          by_cases c5 : nmb tx N 0 61 (nxA tx N (nxA tx N (nxA tx N (nxA tx N (nxA tx N A)))))
          · rw [if_pos c5, if_pos c5, h5.2.2.2.1 (9, 1) (by decide), gi_nI (j := E.1 1) (n := 24) hn (by decide), cl_nI (n := E.1 1) (by omega), val_m h5 (by decide) c5, lN_i]
            have h5w := SM_wI h5 (k := 80) (j := E.1 1) (v := nI (vlA tx N (nxA tx N (nxA tx N (nxA tx N (nxA tx N (nxA tx N A))))))) (Or.inl (by decide)) (h5.2.2.2.w (q := (80, 3, 1)) (by decide) _)
            obtain ⟨f1, f2, f3, f4, f5, f6, f7⟩ := addA_e E (fpN E (wdA tx N (nxA tx N A))) (fpN E (wdA tx N (nxA tx N (nxA tx N (nxA tx N A))))) (vlA tx N (nxA tx N (nxA tx N (nxA tx N (nxA tx N (nxA tx N A))))))
            have hpush := DM_push (m := 9) (c := 1) (by decide) h5w.2.2.2 f1 f2 f3 f4 (fun q hq hc => by
              simp only [arrF, List.mem_cons, List.not_mem_nil, or_false] at hq
              rcases hq with rfl | rfl | rfl | rfl | rfl | rfl <;> first | exact absurd hc (by decide) | skip
              · rw [f5, rI_nk (by decide)]; exact e5
              · rw [f6, rI_nk (by decide)]; exact g5
              · rw [f7]; exact rI_same _ _ _ _) (fun q => absurd q (by decide)) (fun q => absurd q (by decide))
            have h6 := SM_wI h5w (k := 74) (j := 9) (Or.inr ⟨rfl, by decide⟩) hpush
            have K6 := (K5.tr (Km_wI (k := 80) (j := E.1 1) (by decide) (nI (vlA tx N (nxA tx N (nxA tx N (nxA tx N (nxA tx N (nxA tx N A))))))))).tr (Km_74 (j := 9) (by decide) (nI (E.1 1 + 1)))
            obtain ⟨u7, a7, k7, h7⟩ := next_S h6
            have K7 := K6.tr (Km_nk k7)
            show LnM tx N s (bd (f_X11_next (wI (wI u5 80 (E.1 1) (nI (vlA tx N (nxA tx N (nxA tx N (nxA tx N (nxA tx N (nxA tx N A)))))))) 74 9 (rI (wI u5 80 (E.1 1) (nI (vlA tx N (nxA tx N (nxA tx N (nxA tx N (nxA tx N (nxA tx N A)))))))) 74 9 + 1))) _) _
            rw [rI_nk (by decide), h5.2.2.2.1 (9, 1) (by decide), nI_1, a7, bd_ok]
            by_cases c6 : kdA tx N (nxA tx N (nxA tx N (nxA tx N (nxA tx N (nxA tx N (nxA tx N A)))))) = 2
            · obtain ⟨u8, a8, k8, h8⟩ := closes_y h7 c6
              rw [if_pos c6, a8, bd_ok, gb_1]
              exact LnM_y h8 (K7.tr (Km_nk k8)) rfl
            · rw [if_neg c6, closes_n h7 c6, bd_ok, gb_0]
              exact LnM_n h7 K7 rfl
          · rw [if_neg c5, if_neg c5]
            exact LnM_n h5 K5 rfl
        · rw [if_neg c4, word_n h4 (by decide) c4, bd_ok, if_pos rfl]
          exact LnM_n h4 K4 rfl
      · rw [if_neg c3] at hr3
        rw [if_neg c3, if_pos hr3.symm]
        exact LnM_n h3w K3w rfl
    · rw [if_neg c2, word_n h2 (by decide) c2, bd_ok, if_pos rfl]
      exact LnM_n h2 K2 rfl
  · rw [if_neg c1] at hr1
    rw [if_neg c1, if_pos hr1.symm]
    exact LnM_n h1w K1w rfl
