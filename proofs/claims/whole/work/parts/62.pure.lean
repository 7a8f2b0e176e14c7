/-! ===== plant ===== -/
def dP (D E : Dt) : Dt := (fun k => if k < 4 then E.1 k else if k = 4 ∨ k = 7 then 0 else D.1 k, fun a i => if a ≤ 8 then E.2 a i else if a = 9 ∨ a = 10 then 0 else if a = 11 ∨ a = 12 then i else D.2 a i)
theorem Bd_dP {D E : Dt} (h : Bd D) (hB : BE E) : Bd (dP D E) := by
  obtain ⟨h1, h2, h3, h4, h5, h6⟩ := h
  obtain ⟨b1, b2, b3, b4, b5⟩ := hB
  refine ⟨?_, fun p hp => ?_, fun a ha => ?_, fun w hw => ?_, fun r hr => ?_, fun i hi => ?_⟩
  · simp only [dP]
    simp
    omega
  · exact (b2 p hp).1
  · exact b3 a ha
  · exact ⟨(b4 w hw).1, (b4 w hw).2, Nat.zero_le _, ⟨hw, rfl⟩, hw, rfl⟩
  · exact ⟨(b5 r hr).1, (b5 r hr).2.1, (b5 r hr).2.2, Nat.zero_le _⟩
  · exact absurd hi (Nat.not_lt_zero i)
theorem bitsI_0 : ∀ n, bitsI (fun _ => false) n = 0
  | 0 => rfl
  | n + 1 => by
    have ih := bitsI_0 n
    show (if false = true then _ else bitsI (fun _ => false) n) = 0
    rw [if_neg (by decide)]
    exact ih
/-- the class has taken the plant over -/
theorem RC_dP {D E : Dt} {tx : Nat → Int32} {s u : St} (hR : RC D tx s) (hB : BE E) (hk38 : rI u 38 6 = rI s 38 6) (hk42 : rI u 42 4 = rI s 42 4) (h8 : ∀ k, k < 4 → rI u 8 k = nI (E.1 k)) (h9 : ∀ j, j < E.1 0 → rI u 9 j = nI (E.2 0 j)) (h10 : ∀ j, j < E.1 1 → rI u 10 j = nI (E.2 1 j) ∧ rI u 11 j = nI (E.2 2 j) ∧ rI u 12 j = nI (E.2 3 j)) (h13 : ∀ j, j < E.1 2 → rI u 13 j = nI (E.2 4 j) ∧ rI u 14 j = nI (E.2 5 j)) (h15 : ∀ j, j < E.1 3 → rI u 15 j = nI (E.2 6 j) ∧ rI u 16 j = nI (E.2 7 j) ∧ rI u 17 j = nI (E.2 8 j) - 1) (h33 : ∀ j, j < 12 → rI u 33 j = 0) (h46 : ∀ j, j < 12 → rI u 46 j = nI j) (h32 : rI u 32 4 = 0) (h35 : rI u 35 2 = 0) (h1 : rI u 1 1 = 0) : RC (dP D E) tx u := by
  have hb := hB.1
  refine ⟨fun q hq => ?_, fun q hq i hi => ?_, fun i hi => (h15 i hi).2.2, ?_, fun i hi => absurd hi (Nat.not_lt_zero i)⟩
  · simp only [scalC, List.mem_cons, List.not_mem_nil, or_false] at hq
    rcases hq with rfl | rfl | rfl | rfl | rfl | rfl | rfl | rfl
    · exact h8 0 (by decide)
    · exact h8 1 (by decide)
    · exact h8 2 (by decide)
    · exact h8 3 (by decide)
    · exact h35
    · exact hk38.trans (hR.1 (38, 6, 5) (by decide))
    · exact hk42.trans (hR.1 (42, 4, 6) (by decide))
    · exact h1
  · simp only [arrC, List.mem_cons, List.not_mem_nil, or_false] at hq
    rcases hq with rfl | rfl | rfl | rfl | rfl | rfl | rfl | rfl | rfl | rfl | rfl | rfl
    · exact h9 i hi
    · exact (h10 i hi).1
    · exact (h10 i hi).2.1
    · exact (h10 i hi).2.2
    · exact (h13 i hi).1
    · exact (h13 i hi).2
    · exact (h15 i hi).1
    · exact (h15 i hi).2.1
    · exact h33 i (Nat.lt_of_lt_of_le hi hb.2.2.1)
    · exact h46 i (Nat.lt_of_lt_of_le hi hb.2.2.1)
    · exact absurd hi (Nat.not_lt_zero i)
    · exact absurd hi (Nat.not_lt_zero i)
  · rw [h32]
    exact (bitsI_0 _).symm
theorem plant_c {D : Dt} {tx : Nat → Int32} {s : St} (hB : Bd D) (hR : RC D tx s) : ((rdR tx (D.1 7)).1 = true ∧ (rdR tx (D.1 7)).2.2.1 0 ≠ 0 → BE (rdR tx (D.1 7)).2.2 ∧ ∃ u, f_X10_plant s = some (nI ((rdR tx (D.1 7)).2.2.1 0), u) ∧ Kp (1 :: 32 :: 33 :: 35 :: 46 :: 8 :: 9 :: 10 :: 11 :: 12 :: 13 :: 14 :: 15 :: 16 :: 17 :: KC) s u ∧ RC (dP D (rdR tx (D.1 7)).2.2) tx u) ∧ (¬ ((rdR tx (D.1 7)).1 = true ∧ (rdR tx (D.1 7)).2.2.1 0 ≠ 0) → ∃ u, f_X10_plant s = some (-1, u) ∧ Kp KC s u) := by
  have hN := hB.1.2.2.2.2.2.2.2
  obtain ⟨u, a1, a2, a3, a4⟩ := read_c (TxC_of hB hR)
  have hm1 := ansR_m1 hN a3
  unfold f_X10_plant
  rw [a1, bd_ok]
  refine ⟨fun hc => ?_, fun hc => ?_⟩
  · rw [if_pos (hm1.mpr hc)]
    obtain ⟨d1, hE⟩ := a4 hc.1
    generalize (rdR tx (D.1 7)).2.2 = E at *
    refine ⟨hE, ?_⟩
    obtain ⟨u1, b1, b2, b3, b4, b5, b6, b7⟩ := copy_c hE d1
    obtain ⟨u2, c1, c2, c3⟩ := fill33_l 0 12 0 FU u1 (by omega) (FU_lt (by omega)) (fun j hj => absurd hj (Nat.not_lt_zero j))
    have k3 : Kp [32] u2 (wI u2 32 4 0) := Kp_wI Kp.rf (by decide) _ _
    obtain ⟨u4, g1, g2, g3⟩ := reset46_l 12 0 FU (wI u2 32 4 0) (by omega) (FU_lt (by omega)) (fun j hj => absurd hj (Nat.not_lt_zero j))
    have k5 : Kp [1, 35] u4 (wI (wI u4 35 2 0) 1 1 0) := Kp_wI (Kp_wI Kp.rf (by decide) _ _) (by decide) _ _
    have KA : Kp [1, 32, 33, 35, 46, 8, 9, 10, 11, 12, 13, 14, 15, 16, 17] u (wI (wI u4 35 2 0) 1 1 0) := (b2.mono (by decide)).tr ((c2.mono (by decide)).tr ((k3.mono (by decide)).tr ((g2.mono (by decide)).tr (k5.mono (by decide)))))
    have K1 : Kp [1, 32, 33, 35, 46] u1 (wI (wI u4 35 2 0) 1 1 0) := (c2.mono (by decide)).tr ((k3.mono (by decide)).tr ((g2.mono (by decide)).tr (k5.mono (by decide))))
    have K2 : Kp [1, 32, 35, 46] u2 (wI (wI u4 35 2 0) 1 1 0) := (k3.mono (by decide)).tr ((g2.mono (by decide)).tr (k5.mono (by decide)))
    have K4 : Kp [1, 35] u4 (wI (wI u4 35 2 0) 1 1 0) := k5
    have z1 : rI (wI (wI u4 35 2 0) 1 1 0) 1 1 = 0 := rI_same _ _ _ _
    have z35 : rI (wI (wI u4 35 2 0) 1 1 0) 35 2 = 0 := by rw [rI_nk (by decide), rI_same]
    have z32 : rI (wI (wI u4 35 2 0) 1 1 0) 32 4 = 0 := by rw [Kp_rI K4 (by decide), Kp_rI g2 (by decide), rI_same]
    refine ⟨wI (wI u4 35 2 0) 1 1 0, ?_, (a2.mono (by decide)).tr (KA.mono (by decide)), ?_⟩
    · rw [b1, bd_ok]
      unfold f_X2_reset f_X0_reset
      rw [show f_J7_fill_53178_33 0 u1 = some ((), u2) from c1, bd_ok]
      show bd (some ((), wI u2 32 4 0)) _ = _
      rw [bd_ok, show l_X0_reset_2 FU 0 (wI u2 32 4 0) = some ((), u4) from g1, bd_ok]
      show some (rI (wI (wI u4 35 2 0) 1 1 0) 8 0, wI (wI u4 35 2 0) 1 1 0) = _
      rw [Kp_rI K1 (by decide), b3 0 (by decide)]
    · refine RC_dP hR hE ?_ ?_ (fun k hk => ?_) (fun j hj => ?_) (fun j hj => ?_) (fun j hj => ?_) (fun j hj => ?_) (fun j hj => ?_) (fun j hj => ?_) z32 z35 z1
      · rw [Kp_rI KA (by decide), Kp_rI a2 (by decide)]
      · rw [Kp_rI KA (by decide), Kp_rI a2 (by decide)]
      · rw [Kp_rI K1 (by decide)]; exact b3 k hk
      · rw [Kp_rI K1 (by decide)]; exact b4 j hj
      · rw [Kp_rI K1 (by decide), Kp_rI K1 (by decide), Kp_rI K1 (by decide)]; exact b5 j hj
      · rw [Kp_rI K1 (by decide), Kp_rI K1 (by decide)]; exact b6 j hj
      · rw [Kp_rI K1 (by decide), Kp_rI K1 (by decide), Kp_rI K1 (by decide)]; exact b7 j hj
      · rw [Kp_rI K2 (by decide)]; exact c3 j hj
      · rw [Kp_rI K4 (by decide)]; exact g3 j hj
  · rw [if_neg (fun q => hc (hm1.mp q))]
    exact ⟨u, rfl, a2⟩
/-- the reference has taken the plant over -/
theorem RM_dP {D E : Dt} {tx : Nat → Int32} {s u : St} (hS : RM D tx s) (hB : BE E) (h35 : rI u 74 35 = rI s 74 35) (h36 : rI u 74 36 = rI s 74 36) (h18 : rI u 74 18 = nI (E.1 0)) (h20 : rI u 74 20 = nI (E.1 1)) (h24 : rI u 74 24 = nI (E.1 2)) (h29 : rI u 74 29 = nI (E.1 3)) (h32 : rI u 74 32 = 0) (h1 : rI u 74 1 = 0) (h84 : ∀ j, j < E.1 0 → rI u 84 j = nI (E.2 0 j)) (h85 : ∀ j, j < E.1 1 → rI u 85 j = nI (E.2 1 j) ∧ rI u 86 j = nI (E.2 2 j) ∧ rI u 87 j = nI (E.2 3 j)) (h88 : ∀ j, j < E.1 2 → rI u 88 j = nI (E.2 4 j) ∧ rI u 89 j = nI (E.2 5 j) ∧ rI u 90 j = 0 ∧ rI u 91 j = nI j) (h92 : ∀ i, i < E.1 3 → rI u 92 (3 * i) = nI (E.2 6 i) ∧ rI u 92 (3 * i + 1) = nI (E.2 7 i) ∧ rI u 92 (3 * i + 2) = nI (E.2 8 i) - 1) (h93 : ∀ j, j < E.1 3 → rI u 93 j = 0) : RM (dP D E) tx u := by
  refine ⟨fun q hq => ?_, fun q hq i hi => ?_, fun i hi => h92 i hi, fun i hi => absurd hi (Nat.not_lt_zero i)⟩
  · simp only [scalM, List.mem_cons, List.not_mem_nil, or_false] at hq
    rcases hq with rfl | rfl | rfl | rfl | rfl | rfl | rfl | rfl
    · exact h18
    · exact h20
    · exact h24
    · exact h29
    · exact h32
    · exact h35.trans (hS.1 (74, 35, 5) (by decide))
    · exact h36.trans (hS.1 (74, 36, 6) (by decide))
    · exact h1
  · simp only [arrM, List.mem_cons, List.not_mem_nil, or_false] at hq
    rcases hq with rfl | rfl | rfl | rfl | rfl | rfl | rfl | rfl | rfl | rfl | rfl
    · exact h84 i hi
    · exact (h85 i hi).1
    · exact (h85 i hi).2.1
    · exact (h85 i hi).2.2
    · exact (h88 i hi).1
    · exact (h88 i hi).2.1
    · exact (h88 i hi).2.2.1
    · exact (h88 i hi).2.2.2
    · exact absurd hi (Nat.not_lt_zero i)
    · exact absurd hi (Nat.not_lt_zero i)
    · exact h93 i hi
def KM : List Nat := [74, 76, 77, 78, 79, 80, 81, 82, 83, 84, 85, 86, 87, 88, 89, 90, 91, 92, 93, 96]
theorem plant_m {D : Dt} {tx : Nat → Int32} {s : St} (hB : Bd D) (hS : RM D tx s) (hle : (rdR tx (D.1 7)).2.1 ≤ D.1 7) : ((rdR tx (D.1 7)).1 = true ∧ (rdR tx (D.1 7)).2.2.1 0 ≠ 0 → BE (rdR tx (D.1 7)).2.2 → ∃ u, f_X11_plant s = some (nI ((rdR tx (D.1 7)).2.2.1 0), u) ∧ Kp KM s u ∧ RM (dP D (rdR tx (D.1 7)).2.2) tx u) ∧ (¬ ((rdR tx (D.1 7)).1 = true ∧ (rdR tx (D.1 7)).2.2.1 0 ≠ 0) → ∃ u, f_X11_plant s = some (-1, u) ∧ Km s u) := by
  have hN := hB.1.2.2.2.2.2.2.2
  obtain ⟨u, a1, a2, a3⟩ := fault_m (TxM_of hB hS)
  have hm1 := ansR_m1 hN hle
  unfold f_X11_plant
  rw [a1, bd_ok]
  refine ⟨fun hc hE => ?_, fun hc => ?_⟩
  · rw [if_pos (hm1.mpr hc)]
    obtain ⟨d1, d2, d3, d4⟩ := a3 hc.1
    generalize (rdR tx (D.1 7)).2.2 = E at *
    have hb := hE.1
    have f6 := d1 (6, 0) (by decide)
    have f9 := d1 (9, 1) (by decide)
    have f13 := d1 (13, 2) (by decide)
    have f16 := d1 (16, 3) (by decide)
    -- the four numbers
    have k0 : Kp [74] u (wI (wI (wI (wI u 74 18 (nI (E.1 0))) 74 20 (nI (E.1 1))) 74 24 (nI (E.1 2))) 74 29 (nI (E.1 3))) := Kp_wI (Kp_wI (Kp_wI (Kp_wI Kp.rf (by decide) _ _) (by decide) _ _) (by decide) _ _) (by decide) _ _
    have n18 : rI (wI (wI (wI (wI u 74 18 (nI (E.1 0))) 74 20 (nI (E.1 1))) 74 24 (nI (E.1 2))) 74 29 (nI (E.1 3))) 74 18 = nI (E.1 0) := by rw [rI_nj (by decide), rI_nj (by decide), rI_nj (by decide), rI_same]
    have n20 : rI (wI (wI (wI (wI u 74 18 (nI (E.1 0))) 74 20 (nI (E.1 1))) 74 24 (nI (E.1 2))) 74 29 (nI (E.1 3))) 74 20 = nI (E.1 1) := by rw [rI_nj (by decide), rI_nj (by decide), rI_same]
    have n24 : rI (wI (wI (wI (wI u 74 18 (nI (E.1 0))) 74 20 (nI (E.1 1))) 74 24 (nI (E.1 2))) 74 29 (nI (E.1 3))) 74 24 = nI (E.1 2) := by rw [rI_nj (by decide), rI_same]
    have n29 : rI (wI (wI (wI (wI u 74 18 (nI (E.1 0))) 74 20 (nI (E.1 1))) 74 24 (nI (E.1 2))) 74 29 (nI (E.1 3))) 74 29 = nI (E.1 3) := rI_same _ _ _ _
    have nx : ∀ j, j ≠ 18 → j ≠ 20 → j ≠ 24 → j ≠ 29 → rI (wI (wI (wI (wI u 74 18 (nI (E.1 0))) 74 20 (nI (E.1 1))) 74 24 (nI (E.1 2))) 74 29 (nI (E.1 3))) 74 j = rI u 74 j := fun j h1 h2 h3 h4 => by rw [rI_nj h4, rI_nj h3, rI_nj h2, rI_nj h1]
    have estep : ∀ X : St → Option (Int32 × St), (let s_15 : St := wI u 74 18 (rI u 74 6); let s_23 : St := wI s_15 74 20 (rI s_15 74 9); let s_31 : St := wI s_23 74 24 (rI s_23 74 13); let s_39 : St := wI s_31 74 29 (rI s_31 74 16); X s_39) = X (wI (wI (wI (wI u 74 18 (nI (E.1 0))) 74 20 (nI (E.1 1))) 74 24 (nI (E.1 2))) 74 29 (nI (E.1 3))) := fun X => by
      show X (wI (wI (wI (wI u 74 18 (rI u 74 6)) 74 20 (rI (wI u 74 18 (rI u 74 6)) 74 9)) 74 24 (rI (wI (wI u 74 18 (rI u 74 6)) 74 20 (rI (wI u 74 18 (rI u 74 6)) 74 9)) 74 13)) 74 29 (rI (wI (wI (wI u 74 18 (rI u 74 6)) 74 20 (rI (wI u 74 18 (rI u 74 6)) 74 9)) 74 24 (rI (wI (wI u 74 18 (rI u 74 6)) 74 20 (rI (wI u 74 18 (rI u 74 6)) 74 9)) 74 13)) 74 16)) = _
      rw [f6, rI_nj (show (9 : Nat) ≠ 18 by decide), f9, rI_nj (show (13 : Nat) ≠ 20 by decide), rI_nj (show (13 : Nat) ≠ 18 by decide), f13, rI_nj (show (16 : Nat) ≠ 24 by decide), rI_nj (show (16 : Nat) ≠ 20 by decide), rI_nj (show (16 : Nat) ≠ 18 by decide), f16]
    have hfun := estep (fun t => l_X11_plant_44 FU 0 t)
    generalize wI (wI (wI (wI u 74 18 (nI (E.1 0))) 74 20 (nI (E.1 1))) 74 24 (nI (E.1 2))) 74 29 (nI (E.1 3)) = u0 at *
    obtain ⟨u1, b1, b2, b3⟩ := pl44_l u0 12 0 FU u0 (by omega) (FU_lt (by omega)) Kp.rf (fun j hj => absurd hj (Nat.not_lt_zero j))
    obtain ⟨u2, c1, c2, c3⟩ := pl70_l u1 24 0 FU u1 (by omega) (FU_lt (by omega)) Kp.rf (fun j hj => absurd hj (Nat.not_lt_zero j))
    obtain ⟨u3, g1, g2, g3⟩ := pl120_l u2 12 0 FU u2 (by omega) (FU_lt (by omega)) Kp.rf (fun j hj => absurd hj (Nat.not_lt_zero j))
    obtain ⟨u4, l1, l2, l3⟩ := pl172_l u3 24 0 FU u3 (by omega) (FU_lt (by omega)) Kp.rf (fun j hj => absurd hj (Nat.not_lt_zero j))
    obtain ⟨u5, m1, m2, m3⟩ := pl198_l u4 8 0 FU u4 (by omega) (FU_lt (by omega)) Kp.rf (fun j hj => absurd hj (Nat.not_lt_zero j))
    have k6 : Kp [74] u5 (wI (wI u5 74 32 0) 74 1 0) := Kp_wI (Kp_wI Kp.rf (by decide) _ _) (by decide) _ _
    have kall : Kp [84, 85, 86, 87, 88, 89, 90, 91, 92, 93] u0 u5 := ((b2.mono (by decide)).tr (c2.mono (by decide))).tr ((g2.mono (by decide)).tr ((l2.mono (by decide)).tr (m2.mono (by decide))))
    have s74 : ∀ j, j ≠ 1 → j ≠ 32 → rI (wI (wI u5 74 32 0) 74 1 0) 74 j = rI u0 74 j := fun j h1 h2 => by rw [rI_nj h1, rI_nj h2, Kp_rI kall (by decide)]
    refine ⟨wI (wI u5 74 32 0) 74 1 0, ?_, (a2.1.mono (by decide)).tr ((k0.mono (by decide)).tr ((kall.mono (by decide)).tr (k6.mono (by decide)))), ?_⟩
    · refine Eq.trans hfun ?_
      refine (b1.trans (c1.trans (g1.trans (l1.trans m1)))).trans ?_
      rw [Kp_rI kall (by decide), n18]
    · refine RM_dP hS hE ?_ ?_ ?_ ?_ ?_ ?_ ?_ ?_ (fun j hj => ?_) (fun j hj => ?_) (fun j hj => ?_) (fun j hj => ?_) (fun j hj => ?_)
      · rw [s74 35 (by decide) (by decide), nx 35 (by decide) (by decide) (by decide) (by decide), a2.2 35 (by decide)]
      · rw [s74 36 (by decide) (by decide), nx 36 (by decide) (by decide) (by decide) (by decide), a2.2 36 (by decide)]
      · rw [s74 18 (by decide) (by decide)]; exact n18
      · rw [s74 20 (by decide) (by decide)]; exact n20
      · rw [s74 24 (by decide) (by decide)]; exact n24
      · rw [s74 29 (by decide) (by decide)]; exact n29
      · rw [rI_nj (by decide), rI_same]
      · exact rI_same _ _ _ _
      · rw [Kp_rI k6 (by decide), Kp_rI m2 (by decide), Kp_rI l2 (by decide), Kp_rI g2 (by decide), Kp_rI c2 (by decide), b3 j (by omega), Kp_rI k0 (by decide), d2 (77, 0, 0) (by decide) j hj]
        exact nar01 (hE.2.1 j hj).1
      · obtain ⟨x1, x2, x3⟩ := c3 j (by omega)
        refine ⟨?_, ?_, ?_⟩
        · rw [Kp_rI k6 (by decide), Kp_rI m2 (by decide), Kp_rI l2 (by decide), Kp_rI g2 (by decide), x1, Kp_rI b2 (by decide), Kp_rI k0 (by decide)]; exact d2 (78, 1, 1) (by decide) j hj
        · rw [Kp_rI k6 (by decide), Kp_rI m2 (by decide), Kp_rI l2 (by decide), Kp_rI g2 (by decide), x2, Kp_rI b2 (by decide), Kp_rI k0 (by decide)]; exact d2 (79, 2, 1) (by decide) j hj
        · rw [Kp_rI k6 (by decide), Kp_rI m2 (by decide), Kp_rI l2 (by decide), Kp_rI g2 (by decide), x3, Kp_rI b2 (by decide), Kp_rI k0 (by decide)]; exact d2 (80, 3, 1) (by decide) j hj
      · obtain ⟨x1, x2, x3, x4⟩ := g3 j (by omega)
        refine ⟨?_, ?_, ?_, ?_⟩
        · rw [Kp_rI k6 (by decide), Kp_rI m2 (by decide), Kp_rI l2 (by decide), x1, Kp_rI c2 (by decide), Kp_rI b2 (by decide), Kp_rI k0 (by decide)]; exact d2 (81, 4, 2) (by decide) j hj
        · rw [Kp_rI k6 (by decide), Kp_rI m2 (by decide), Kp_rI l2 (by decide), x2, Kp_rI c2 (by decide), Kp_rI b2 (by decide), Kp_rI k0 (by decide)]; exact d2 (82, 5, 2) (by decide) j hj
        · rw [Kp_rI k6 (by decide), Kp_rI m2 (by decide), Kp_rI l2 (by decide), x3]
        · rw [Kp_rI k6 (by decide), Kp_rI m2 (by decide), Kp_rI l2 (by decide), x4]
      · have e : ∀ i, i < 24 → rI (wI (wI u5 74 32 0) 74 1 0) 92 i = rI u 83 i := fun i hi => by
          rw [Kp_rI k6 (by decide), Kp_rI m2 (by decide), l3 i hi, Kp_rI g2 (by decide), Kp_rI c2 (by decide), Kp_rI b2 (by decide), Kp_rI k0 (by decide)]
        rw [e _ (by omega), e _ (by omega), e _ (by omega)]
        exact d3 j hj
      · rw [Kp_rI k6 (by decide), m3 j (by omega)]
        decide
  · rw [if_neg (fun q => hc (hm1.mp q))]
    exact ⟨u, rfl, a2⟩
theorem call_plant {D : Dt} {tx : Nat → Int32} {s : St} (h : Rel D tx s) : Ok f_X10_plant f_X11_plant s := by
  obtain ⟨hB, hR, hS⟩ := h
  have hle : (rdR tx (D.1 7)).2.1 ≤ D.1 7 := by
    obtain ⟨_, _, _, q, _⟩ := read_c (TxC_of hB hR)
    exact q
  obtain ⟨p1, p2⟩ := plant_c hB hR
  by_cases c : (rdR tx (D.1 7)).1 = true ∧ (rdR tx (D.1 7)).2.2.1 0 ≠ 0
  · obtain ⟨hE, u, a1, a2, a3⟩ := p1 c
    have hS1 : RM D tx u := RM_kpC hS a2 (by decide)
    obtain ⟨v, b1, b2, b3⟩ := (plant_m hB hS1 hle).1 c hE
    exact ⟨_, u, v, dP D (rdR tx (D.1 7)).2.2, tx, a1, b1, Bd_dP hB hE, RC_kpM a3 b2 (by decide), b3⟩
  · obtain ⟨u, a1, a2⟩ := p2 c
    have hS1 : RM D tx u := RM_kpC hS a2 (by decide)
    obtain ⟨v, b1, b2⟩ := (plant_m hB hS1 hle).2 c
    exact ⟨_, u, v, D, tx, a1, b1, hB, RC_kpM (hR.kp a2 (by decide)) (Km_ge b2) (by decide), hS1.km b2⟩
