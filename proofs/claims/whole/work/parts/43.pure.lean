/-! ===== told: the nearest ===== -/
/-- the nearest of the windows x below i: one more; 0 for none -/
def nq (D : Dt) (x : Int32) : Nat → Nat
  | 0 => 0
  | i + 1 => if bt x i then (if nq D x i = 0 then i + 1 else if D.2 12 (nq D x i - 1) ≤ D.2 12 i then nq D x i else i + 1) else nq D x i
theorem nq_spec (D : Dt) (x : Int32) : ∀ i, (nq D x i = 0 → ∀ w, w < i → bt x w = false) ∧ (nq D x i ≠ 0 → nq D x i ≤ i ∧ bt x (nq D x i - 1) = true ∧ ∀ w, w < i → bt x w = true → D.2 12 (nq D x i - 1) ≤ D.2 12 w)
  | 0 => ⟨fun _ w hw => absurd hw (Nat.not_lt_zero w), fun h => absurd rfl h⟩
  | i + 1 => by
    obtain ⟨h0, h1⟩ := nq_spec D x i
    by_cases c : bt x i = true
    · by_cases z : nq D x i = 0
      · have e : nq D x (i + 1) = i + 1 := by
          show (if bt x i then (if nq D x i = 0 then i + 1 else if D.2 12 (nq D x i - 1) ≤ D.2 12 i then nq D x i else i + 1) else nq D x i) = _
          rw [if_pos c, if_pos z]
        rw [e]
        refine ⟨fun q => absurd q (Nat.succ_ne_zero i), fun _ => ⟨Nat.le_refl _, c, fun w hw hq => ?_⟩⟩
        by_cases ew : w = i
        · rw [ew]; exact Nat.le_refl _
        · have := h0 z w (by omega)
          rw [this] at hq; cases hq
      · obtain ⟨g1, g2, g3⟩ := h1 z
        by_cases p : D.2 12 (nq D x i - 1) ≤ D.2 12 i
        · have e : nq D x (i + 1) = nq D x i := by
            show (if bt x i then (if nq D x i = 0 then i + 1 else if D.2 12 (nq D x i - 1) ≤ D.2 12 i then nq D x i else i + 1) else nq D x i) = _
            rw [if_pos c, if_neg z, if_pos p]
          rw [e]
          refine ⟨fun q => absurd q z, fun _ => ⟨by omega, g2, fun w hw hq => ?_⟩⟩
          by_cases ew : w = i
          · rw [ew]; exact p
          · exact g3 w (by omega) hq
        · have e : nq D x (i + 1) = i + 1 := by
            show (if bt x i then (if nq D x i = 0 then i + 1 else if D.2 12 (nq D x i - 1) ≤ D.2 12 i then nq D x i else i + 1) else nq D x i) = _
            rw [if_pos c, if_neg z, if_neg p]
          rw [e]
          refine ⟨fun q => absurd q (Nat.succ_ne_zero i), fun _ => ⟨Nat.le_refl _, c, fun w hw hq => ?_⟩⟩
          show D.2 12 i ≤ D.2 12 w
          by_cases ew : w = i
          · rw [ew]; exact Nat.le_refl _
          · have := g3 w (by omega) hq
            omega
    · have e : nq D x (i + 1) = nq D x i := by
        show (if bt x i then (if nq D x i = 0 then i + 1 else if D.2 12 (nq D x i - 1) ≤ D.2 12 i then nq D x i else i + 1) else nq D x i) = _
        rw [if_neg c]
      rw [e]
      have cf : bt x i = false := by simpa using c
      refine ⟨fun q w hw => ?_, fun q => ?_⟩
      · by_cases ew : w = i
        · rw [ew]; exact cf
        · exact h0 q w (by omega)
      · obtain ⟨g1, g2, g3⟩ := h1 q
        refine ⟨by omega, g2, fun w hw hq => ?_⟩
        by_cases ew : w = i
        · rw [ew, cf] at hq; cases hq
        · exact g3 w (by omega) hq
theorem nearest_l {D : Dt} {tx : Nat → Int32} {s : St} (hR : RC D tx s) (hb : Bw D) (x : Int32) : ∀ (d k n : Nat), k + d = D.1 2 → d < n → (∀ j, j < k → bt x (D.2 11 j) = false) → l_X0_nearest_2 n x (nI k) s = some (nI (nq D x (D.1 2) - 1), s) := by
  have hW := hb.1.2.2.1
  obtain ⟨q0, q1⟩ := nq_spec D x (D.1 2)
  intro d
  induction d with
  | zero =>
    intro k n hk hn hno
    obtain ⟨n, rfl⟩ : ∃ m, n = m + 1 := ⟨n - 1, by omega⟩
    have z : nq D x (D.1 2) = 0 := by
      by_cases z : nq D x (D.1 2) = 0
      · exact z
      · obtain ⟨g1, g2, g3⟩ := q1 z
        have hw : nq D x (D.1 2) - 1 < D.1 2 := by omega
        have p := (hb.2.2.2.1 _ hw).2.2.2.2
        have := hno (D.2 12 (nq D x (D.1 2) - 1)) (by omega)
        rw [p.2, g2] at this
        cases this
    show b_X0_nearest_2 (l_X0_nearest_2 n) x (nI k) s = _
    unfold b_X0_nearest_2
    rw [hR.1 (8, 2, 2) (by decide), if_pos (nI_le (a := D.1 2) (b := k) (by omega) (by omega)), z]
    rfl
  | succ d ih =>
    intro k n hk hn hno
    obtain ⟨n, rfl⟩ : ∃ m, n = m + 1 := ⟨n - 1, by omega⟩
    have hlt : k < D.1 2 := by omega
    have p := (hb.2.2.2.1 k hlt).2.2.2.1
    show b_X0_nearest_2 (l_X0_nearest_2 n) x (nI k) s = _
    unfold b_X0_nearest_2
    rw [hR.1 (8, 2, 2) (by decide), if_neg (nI_ge (a := k) (b := D.1 2) hlt (by omega)), gi_nI (lt_n hlt hW) (by decide), cl_nI (n := k) (by omega), gArr hR (c := 46) (a := 11) (n := 2) (by decide) hlt, hasBit_c _ (by omega), bd_ok]
    by_cases c : bt x (D.2 11 k) = true
    · rw [if_pos c, if_neg (by decide), gi_nI (lt_n hlt hW) (by decide), gArr hR (c := 46) (a := 11) (n := 2) (by decide) hlt]
      have z : nq D x (D.1 2) ≠ 0 := fun z => by
        have := q0 z _ p.1
        rw [c] at this; cases this
      obtain ⟨g1, g2, g3⟩ := q1 z
      have hw : nq D x (D.1 2) - 1 < D.1 2 := by omega
      have pw := (hb.2.2.2.1 _ hw).2.2.2.2
      have h1 := g3 _ p.1 c
      rw [p.2] at h1
      have h2 : ¬ D.2 12 (nq D x (D.1 2) - 1) < k := fun q => by
        have := hno _ q
        rw [pw.2, g2] at this
        cases this
      have h3 : D.2 12 (nq D x (D.1 2) - 1) = k := by omega
      rw [← pw.2, h3]
    · rw [if_neg c, if_pos rfl, nI_1]
      refine ih (k + 1) n (by omega) (by omega) (fun j hj => ?_)
      by_cases e : j = k
      · rw [e]; simpa using c
      · exact hno j (by omega)
theorem nearest_c {D : Dt} {tx : Nat → Int32} {s : St} (hR : RC D tx s) (hb : Bw D) (x : Int32) : f_X0_nearest x s = some (nI (nq D x (D.1 2) - 1), s) := by
  have hW := hb.1.2.2.1
  exact nearest_l hR hb x (D.1 2) 0 FU (by omega) (FU_lt (by omega)) (fun j hj => absurd hj (Nat.not_lt_zero j))
