/-! ===== explain: one heap, the reference ===== -/
def Ky (s t : St) : Prop := Kp [74, 97, 98] s t ∧ ∀ j, j < 40 → rI t 74 j = rI s 74 j
theorem Ky_rf (s : St) : Ky s s := ⟨Kp.rf, fun _ _ => rfl⟩
theorem Ky_tr {s t u : St} (h1 : Ky s t) (h2 : Ky t u) : Ky s u := ⟨h1.1.tr h2.1, fun j hj => (h2.2 j hj).trans (h1.2 j hj)⟩
theorem Ky_97 {s t : St} (h : Kp [97] s t) : Ky s t := ⟨h.mono (by decide), fun j _ => Kp_rI h (by decide) j⟩
theorem Ky_98 {s t : St} (h : Kp [98] s t) : Ky s t := ⟨h.mono (by decide), fun j _ => Kp_rI h (by decide) j⟩
theorem RM_y {D : Dt} {tx : Nat → Int32} {s t : St} (h : RM D tx s) (hk : Ky s t) : RM D tx t := h.keep (fun k hm => hk.1 k (by
  simp only [List.mem_cons, List.not_mem_nil, or_false] at hm ⊢
  omega)) (fun j hj => hk.2 j (by
  simp only [List.mem_cons, List.not_mem_nil, or_false] at hj
  omega))
def m8 (s : St) (v1 v2 v3 v4 v5 v6 v7 v8 : Int32) : St := wI (wI (wI (wI (wI (wI (wI (wI s 74 40 v1) 74 41 v2) 74 42 v3) 74 43 v4) 74 44 v5) 74 45 v6) 74 46 v7) 74 47 v8
def m4 (s : St) (v5 v6 v7 v8 : Int32) : St := wI (wI (wI (wI s 74 44 v5) 74 45 v6) 74 46 v7) 74 47 v8
theorem m8_ky (s : St) (v1 v2 v3 v4 v5 v6 v7 v8 : Int32) : Ky s (m8 s v1 v2 v3 v4 v5 v6 v7 v8) := ⟨Kp_wI (Kp_wI (Kp_wI (Kp_wI (Kp_wI (Kp_wI (Kp_wI (Kp_wI Kp.rf (by decide) _ _) (by decide) _ _) (by decide) _ _) (by decide) _ _) (by decide) _ _) (by decide) _ _) (by decide) _ _) (by decide) _ _, fun j hj => by
  unfold m8
  rw [rI_nj (by omega), rI_nj (by omega), rI_nj (by omega), rI_nj (by omega), rI_nj (by omega), rI_nj (by omega), rI_nj (by omega), rI_nj (by omega)]⟩
theorem m4_ky (s : St) (v5 v6 v7 v8 : Int32) : Ky s (m4 s v5 v6 v7 v8) := ⟨Kp_wI (Kp_wI (Kp_wI (Kp_wI Kp.rf (by decide) _ _) (by decide) _ _) (by decide) _ _) (by decide) _ _, fun j hj => by
  unfold m4
  rw [rI_nj (by omega), rI_nj (by omega), rI_nj (by omega), rI_nj (by omega)]⟩
theorem m8_kp (s : St) (v1 v2 v3 v4 v5 v6 v7 v8 : Int32) : Kp [74] s (m8 s v1 v2 v3 v4 v5 v6 v7 v8) := Kp_wI (Kp_wI (Kp_wI (Kp_wI (Kp_wI (Kp_wI (Kp_wI (Kp_wI Kp.rf (by decide) _ _) (by decide) _ _) (by decide) _ _) (by decide) _ _) (by decide) _ _) (by decide) _ _) (by decide) _ _) (by decide) _ _
theorem m4_kp (s : St) (v5 v6 v7 v8 : Int32) : Kp [74] s (m4 s v5 v6 v7 v8) := Kp_wI (Kp_wI (Kp_wI (Kp_wI Kp.rf (by decide) _ _) (by decide) _ _) (by decide) _ _) (by decide) _ _
theorem m4_lo (s : St) (v5 v6 v7 v8 : Int32) {j : Nat} (hj : j < 44) : rI (m4 s v5 v6 v7 v8) 74 j = rI s 74 j := by
  unfold m4
  rw [rI_nj (by omega), rI_nj (by omega), rI_nj (by omega), rI_nj (by omega)]
theorem m8_at (s : St) (v1 v2 v3 v4 v5 v6 v7 v8 : Int32) : rI (m8 s v1 v2 v3 v4 v5 v6 v7 v8) 74 40 = v1 ∧ rI (m8 s v1 v2 v3 v4 v5 v6 v7 v8) 74 41 = v2 ∧ rI (m8 s v1 v2 v3 v4 v5 v6 v7 v8) 74 42 = v3 ∧ rI (m8 s v1 v2 v3 v4 v5 v6 v7 v8) 74 43 = v4 ∧ rI (m8 s v1 v2 v3 v4 v5 v6 v7 v8) 74 44 = v5 ∧ rI (m8 s v1 v2 v3 v4 v5 v6 v7 v8) 74 45 = v6 ∧ rI (m8 s v1 v2 v3 v4 v5 v6 v7 v8) 74 46 = v7 ∧ rI (m8 s v1 v2 v3 v4 v5 v6 v7 v8) 74 47 = v8 := by
  unfold m8
  simp [rI_wI]
theorem m4_at (s : St) (v5 v6 v7 v8 : Int32) : rI (m4 s v5 v6 v7 v8) 74 44 = v5 ∧ rI (m4 s v5 v6 v7 v8) 74 45 = v6 ∧ rI (m4 s v5 v6 v7 v8) 74 46 = v7 ∧ rI (m4 s v5 v6 v7 v8) 74 47 = v8 := by
  unfold m4
  simp [rI_wI]
theorem j202 (r35 : Int32 → Int32 → St → Option (Unit × St)) (r42 : Int32 → Int32 → Int32 → St → Option (Unit × St)) (x1 x2 x3 x6 : Int32) (s : St) : j_X11_explains_202 r35 r42 x1 x2 x3 x6 s = r42 x1 x2 (x3 + 1) (m4 s (rI s 74 44 + 1) (rI s 74 45 &&& x3) (rI s 74 46 ||| x3) (rI s 74 47 &&& x6)) := by
  unfold j_X11_explains_202 m4
  simp [rI_wI]
theorem m1_and (x : Int32) : (-1 : Int32) &&& x = x := by
  apply b_ext
  intro i hi
  rw [b_and, b_m1 i hi]
  simp
theorem z_or (x : Int32) : (0 : Int32) ||| x = x := by
  apply b_ext
  intro i hi
  rw [b_or, b_0]
  simp
def MlA (A : Ax) (s : St) : Prop := rI s 74 40 = nI A.1 ∧ A.1 ≤ 1000000 ∧ ∀ j, 1 ≤ j → j ≤ 7 → rI s 74 (40 + j) = A.2 j
theorem e81_l {D : Dt} {tx : Nat → Int32} {s : St} (hS : RM D tx s) (hb : Bw D) {ra : Nat → Nat} (hle : ∀ i, i < D.1 4 → ra i ≤ 999) {c k : Nat} (hk : k ≤ 3) (h97 : ∀ p, p < D.1 0 → rI s 97 p = nI (fl D (nI c) p)) (h98 : ∀ w, w < D.1 2 → rI s 98 w = nI (fsU D ra (D.1 4) w) - 1) (r35 : Int32 → Int32 → St → Option (Unit × St)) (r42 : Int32 → Int32 → Int32 → St → Option (Unit × St)) : ∀ (d b n : Nat), b + d = La D ra (D.1 4) → d < n → ∃ m, l_X11_explains_81 r35 r42 n (nI (La D ra (D.1 4))) (nI k) (nI c) (nI (2 * k + cn D ra (nI c) (bb D ra (nI c) b))) (nI (bb D ra (nI c) b)) (WR D ra (nI c) (bb D ra (nI c) b)) (nI (b + 1)) s = l_X11_explains_81 r35 r42 (m + 1) (nI (La D ra (D.1 4))) (nI k) (nI c) (nI (cst D ra c k)) (nI (bgn D ra c)) (WR D ra (nI c) (bgn D ra c)) (nI (La D ra (D.1 4) + 1)) s := by
  have hW := hb.1.2.2.1
  have hLa := La_le (D := D) hle (Nat.le_refl (D.1 4))
  intro d
  induction d with
  | zero =>
    intro b n hbL hn
    obtain ⟨n, rfl⟩ : ∃ m, n = m + 1 := ⟨n - 1, by omega⟩
    have e : b = La D ra (D.1 4) := by omega
    rw [e]
    exact ⟨n, rfl⟩
  | succ d ih =>
    intro b n hbL hn
    obtain ⟨n, rfl⟩ : ∃ m, n = m + 1 := ⟨n - 1, by omega⟩
    obtain ⟨m, hm⟩ := ih (b + 1) n (by omega) (by omega)
    refine ⟨m, ?_⟩
    rw [← hm]
    have l1 := cn_le (D := D) (ra := ra) (h := nI c) (b := b + 1)
    have l0 := cn_le (D := D) (ra := ra) (h := nI c) (b := bb D ra (nI c) b)
    have m2 : (2 : Int32) * nI k = nI (2 * k) := pk_mul 2 k
    show b_X11_explains_81 r35 r42 (l_X11_explains_81 r35 r42 n) _ _ _ _ _ _ (nI (b + 1)) s = _
    unfold b_X11_explains_81
    rw [if_neg (nI_nlt (a := La D ra (D.1 4)) (b := b + 1) (by omega) (by omega)), wrong_m hS hb hle h97 h98 (b := b + 1) (by omega), bd_ok, ones_WR hb, bd_ok, m2, nI_add]
    by_cases q : cn D ra (nI c) (b + 1) < cn D ra (nI c) (bb D ra (nI c) b)
    · have e : bb D ra (nI c) (b + 1) = b + 1 := if_pos q
      rw [if_pos (nI_lt (by omega) (by omega)), ones_WR hb, bd_ok, nI_add, nI_1, e]
    · have e : bb D ra (nI c) (b + 1) = bb D ra (nI c) b := if_neg q
      rw [if_neg (nI_nlt (by omega) (by omega)), nI_1, e]
def IvM (D : Dt) (tx : Nat → Int32) (ra : Nat → Nat) (A : Ax) (s : St) : Prop := RM D tx s ∧ (∀ w, w < D.1 2 → rI s 98 w = nI (fsU D ra (D.1 4) w) - 1) ∧ MlA A s
theorem heap_m {D : Dt} {tx : Nat → Int32} (hb : Bw D) {ra : Nat → Nat} (hle : ∀ i, i < D.1 4 → ra i ≤ 999) {A : Ax} {s : St} (h : IvM D tx ra A s) (c : Nat) {k : Nat} (hk : k ≤ 3) (r35 : Int32 → Int32 → St → Option (Unit × St)) (r42 : Int32 → Int32 → Int32 → St → Option (Unit × St)) : ∃ u, (bd (f_X11_findFails (nI c) s) fun _ t => l_X11_explains_81 r35 r42 FU (nI (La D ra (D.1 4))) (nI k) (nI c) 1000000 0 0 0 t) = r42 (nI (La D ra (D.1 4))) (nI k) (nI (c + 1)) u ∧ Ky s u ∧ IvM D tx ra (stp D ra A (c, k)) u := by
  obtain ⟨hS, h98, A10, Ale, Aj⟩ := h
  have hW := hb.1.2.2.1
  have hLa := La_le (D := D) hle (Nat.le_refl (D.1 4))
  obtain ⟨s1, a1, a2, a3⟩ := find_m hS hb (nI c)
  have y1 : Ky s s1 := Ky_97 a2
  have hS1 : RM D tx s1 := hS.kp a2 (by decide)
  have h981 : ∀ w, w < D.1 2 → rI s1 98 w = nI (fsU D ra (D.1 4) w) - 1 := fun w hw => by rw [Kp_rI a2 (by decide)]; exact h98 w hw
  have g : ∀ j, rI s1 74 j = rI s 74 j := fun j => Kp_rI a2 (by decide) j
  obtain ⟨n, hn⟩ : ∃ m, FU = m + 1 := ⟨9999, rfl⟩
  obtain ⟨m, hm⟩ := e81_l hS1 hb hle hk a3 h981 r35 r42 (La D ra (D.1 4)) 0 n (by omega) (by have : FU = 10000 := rfl; omega)
  have l0 := cn_le (D := D) (ra := ra) (h := nI c) (b := 0)
  have lb0 := cn_le (D := D) (ra := ra) (h := nI c) (b := bgn D ra c)
  have m2 : (2 : Int32) * nI k = nI (2 * k) := pk_mul 2 k
  have hcost : cst D ra c k = 2 * k + cn D ra (nI c) (bgn D ra c) := rfl
  have first : l_X11_explains_81 r35 r42 FU (nI (La D ra (D.1 4))) (nI k) (nI c) 1000000 0 0 0 s1 = l_X11_explains_81 r35 r42 (m + 1) (nI (La D ra (D.1 4))) (nI k) (nI c) (nI (cst D ra c k)) (nI (bgn D ra c)) (WR D ra (nI c) (bgn D ra c)) (nI (La D ra (D.1 4) + 1)) s1 := by
    rw [← hm, hn]
    show b_X11_explains_81 r35 r42 (l_X11_explains_81 r35 r42 n) _ _ _ _ _ _ 0 s1 = _
    unfold b_X11_explains_81
    rw [if_neg (nI_pos (n := La D ra (D.1 4)) (by omega)), show f_X11_wrong 0 (nI (La D ra (D.1 4))) s1 = _ from wrong_m hS1 hb hle a3 h981 (b := 0) (by omega), bd_ok, ones_WR hb, bd_ok, m2, nI_add, if_pos (show nI (2 * k + cn D ra (nI c) 0) < (1000000 : Int32) from nI_lt (a := 2 * k + cn D ra (nI c) 0) (b := 1000000) (by omega) (by omega)), ones_WR hb, bd_ok, nI_add]
    rfl
  have hbody : l_X11_explains_81 r35 r42 (m + 1) (nI (La D ra (D.1 4))) (nI k) (nI c) (nI (cst D ra c k)) (nI (bgn D ra c)) (WR D ra (nI c) (bgn D ra c)) (nI (La D ra (D.1 4) + 1)) s1 = if nI (cst D ra c k) ≤ nI A.1 then (if nI A.1 ≤ nI (cst D ra c k) then j_X11_explains_202 r35 r42 (nI (La D ra (D.1 4))) (nI k) (nI c) (WR D ra (nI c) (bgn D ra c)) s1 else j_X11_explains_202 r35 r42 (nI (La D ra (D.1 4))) (nI k) (nI c) (WR D ra (nI c) (bgn D ra c)) (m8 s1 (nI (cst D ra c k)) (nI c) (nI (bgn D ra c)) (WR D ra (nI c) (bgn D ra c)) 0 (-1) 0 (-1))) else r42 (nI (La D ra (D.1 4))) (nI k) (nI (c + 1)) s1 := by
    show b_X11_explains_81 r35 r42 (l_X11_explains_81 r35 r42 m) _ _ _ _ _ _ (nI (La D ra (D.1 4) + 1)) s1 = _
    unfold b_X11_explains_81
    rw [if_pos (nI_lt (a := La D ra (D.1 4)) (b := La D ra (D.1 4) + 1) (by omega) (by omega)), g 40, A10, nI_1]
    rfl
  rw [a1, bd_ok, first, hbody]
  by_cases c1 : cst D ra c k < A.1
  · have es : stp D ra A (c, k) = (cst D ra c k, newA (nI c) (nI (bgn D ra c)) (WR D ra (nI c) (bgn D ra c))) := if_pos c1
    rw [if_pos (nI_le (by omega) (by omega)), if_neg (nI_ge c1 (by omega)), j202, nI_1, es]
    obtain ⟨z0, z1, z2, z3, z4, z5, z6, z7⟩ := m8_at s1 (nI (cst D ra c k)) (nI c) (nI (bgn D ra c)) (WR D ra (nI c) (bgn D ra c)) 0 (-1) 0 (-1)
    have k8p := m8_kp s1 (nI (cst D ra c k)) (nI c) (nI (bgn D ra c)) (WR D ra (nI c) (bgn D ra c)) 0 (-1) 0 (-1)
    have k8 := m8_ky s1 (nI (cst D ra c k)) (nI c) (nI (bgn D ra c)) (WR D ra (nI c) (bgn D ra c)) 0 (-1) 0 (-1)
    generalize m8 s1 (nI (cst D ra c k)) (nI c) (nI (bgn D ra c)) (WR D ra (nI c) (bgn D ra c)) 0 (-1) 0 (-1) = t at *
    rw [z4, z5, z6, z7, m1_and, m1_and, z_or]
    obtain ⟨y4, y5, y6, y7⟩ := m4_at t (0 + 1) (nI c) (nI c) (WR D ra (nI c) (bgn D ra c))
    have k4 := m4_ky t (0 + 1) (nI c) (nI c) (WR D ra (nI c) (bgn D ra c))
    have kk := Ky_tr k8 k4
    refine ⟨_, rfl, Ky_tr y1 kk, RM_y hS1 kk, fun w hw => ?_, ?_, by show cst D ra c k ≤ 1000000; omega, fun j h1 h2 => ?_⟩
    · rw [Kp_rI (m4_kp t _ _ _ _) (by decide), Kp_rI k8p (by decide)]
      exact h981 w hw
    · rw [m4_lo _ _ _ _ _ (by omega)]; exact z0
    · rcases (show j = 1 ∨ j = 2 ∨ j = 3 ∨ j = 4 ∨ j = 5 ∨ j = 6 ∨ j = 7 by omega) with rfl | rfl | rfl | rfl | rfl | rfl | rfl
      · exact (m4_lo _ _ _ _ _ (by omega)).trans z1
      · exact (m4_lo _ _ _ _ _ (by omega)).trans z2
      · exact (m4_lo _ _ _ _ _ (by omega)).trans z3
      · exact y4
      · exact y5
      · exact y6
      · exact y7
  · by_cases c2 : cst D ra c k = A.1
    · have es : stp D ra A (c, k) = (A.1, updA A.2 (nI c) (WR D ra (nI c) (bgn D ra c))) := by
        unfold stp
        rw [if_neg c1, if_pos c2]
      rw [if_pos (nI_le (by omega) (by omega)), if_pos (nI_le (by omega) (by omega)), j202, nI_1, es]
      rw [g 44, g 45, g 46, g 47, show rI s 74 44 = A.2 4 from Aj 4 (by omega) (by omega), show rI s 74 45 = A.2 5 from Aj 5 (by omega) (by omega), show rI s 74 46 = A.2 6 from Aj 6 (by omega) (by omega), show rI s 74 47 = A.2 7 from Aj 7 (by omega) (by omega)]
      obtain ⟨y4, y5, y6, y7⟩ := m4_at s1 (A.2 4 + 1) (A.2 5 &&& nI c) (A.2 6 ||| nI c) (A.2 7 &&& WR D ra (nI c) (bgn D ra c))
      have k4 := m4_ky s1 (A.2 4 + 1) (A.2 5 &&& nI c) (A.2 6 ||| nI c) (A.2 7 &&& WR D ra (nI c) (bgn D ra c))
      refine ⟨_, rfl, Ky_tr y1 k4, RM_y hS1 k4, fun w hw => ?_, ?_, Ale, fun j h1 h2 => ?_⟩
      · rw [Kp_rI (m4_kp s1 _ _ _ _) (by decide)]
        exact h981 w hw
      · rw [m4_lo _ _ _ _ _ (by omega), g 40]; exact A10
      · rcases (show j = 1 ∨ j = 2 ∨ j = 3 ∨ j = 4 ∨ j = 5 ∨ j = 6 ∨ j = 7 by omega) with rfl | rfl | rfl | rfl | rfl | rfl | rfl
        · exact (m4_lo _ _ _ _ _ (by omega)).trans ((g 41).trans (Aj 1 (by omega) (by omega)))
        · exact (m4_lo _ _ _ _ _ (by omega)).trans ((g 42).trans (Aj 2 (by omega) (by omega)))
        · exact (m4_lo _ _ _ _ _ (by omega)).trans ((g 43).trans (Aj 3 (by omega) (by omega)))
        · exact y4
        · exact y5
        · exact y6
        · exact y7
    · have es : stp D ra A (c, k) = A := by
        unfold stp
        rw [if_neg c1, if_neg c2]
      rw [if_neg (nI_ge (by omega) (by omega)), es]
      exact ⟨s1, rfl, y1, hS1, h981, by rw [g 40]; exact A10, Ale, fun j h1 h2 => by rw [g (40 + j)]; exact Aj j h1 h2⟩
