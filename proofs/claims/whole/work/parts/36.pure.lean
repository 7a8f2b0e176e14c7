/-! ===== explain: one heap, the class ===== -/
abbrev Ax : Type := Nat × (Nat → Int32)
def newA (h b w : Int32) : Nat → Int32 := fun j => if j = 1 then h else if j = 2 then b else if j = 3 then w else if j = 4 then 1 else if j = 5 then h else if j = 6 then h else w
def updA (A : Nat → Int32) (h w : Int32) : Nat → Int32 := fun j => if j = 4 then A 4 + 1 else if j = 5 then A 5 &&& h else if j = 6 then A 6 ||| h else if j = 7 then A 7 &&& w else A j
def bgn (D : Dt) (ra : Nat → Nat) (c : Nat) : Nat := bb D ra (nI c) (La D ra (D.1 4))
def cst (D : Dt) (ra : Nat → Nat) (c k : Nat) : Nat := 2 * k + cn D ra (nI c) (bgn D ra c)
def stp (D : Dt) (ra : Nat → Nat) (A : Ax) (q : Nat × Nat) : Ax := if cst D ra q.1 q.2 < A.1 then (cst D ra q.1 q.2, newA (nI q.1) (nI (bgn D ra q.1)) (WR D ra (nI q.1) (bgn D ra q.1))) else if cst D ra q.1 q.2 = A.1 then (A.1, updA A.2 (nI q.1) (WR D ra (nI q.1) (bgn D ra q.1))) else A
def ClA (A : Ax) (s : St) : Prop := rI s 38 10 = nI A.1 ∧ A.1 ≤ 1000000 ∧ ∀ j, 1 ≤ j → j ≤ 7 → rI s 38 (10 + j) = A.2 j
theorem stp_le {D : Dt} {ra : Nat → Nat} {A : Ax} (h : A.1 ≤ 1000000) (q : Nat × Nat) : (stp D ra A q).1 ≤ 1000000 := by
  unfold stp
  by_cases c : cst D ra q.1 q.2 < A.1
  · rw [if_pos c]; show cst D ra q.1 q.2 ≤ _; omega
  · rw [if_neg c]
    by_cases c2 : cst D ra q.1 q.2 = A.1
    · rw [if_pos c2]; exact h
    · rw [if_neg c2]; exact h
theorem spans_l {D : Dt} {tx : Nat → Int32} (hb : Bw D) {ra : Nat → Nat} (hle : ∀ i, i < D.1 4 → ra i ≤ 999) {h : Int32} (x1 x2 : Int32) : ∀ (d i n : Nat) (s : St), i + d = D.1 2 → d < n → RC D tx s → (∀ p, p < D.1 0 → rI s 29 p = nI (fl D h p)) → rI s 38 7 = nI (La D ra (D.1 4)) → (∀ w, w < D.1 2 → rI s 39 w = nI (fsU D ra (D.1 4) w) - 1) → (∀ w, w < i → (rI s 40 w).toInt = loS (fsU D ra (D.1 4) w) (La D ra (D.1 4)) (D.1 5) (lu D h w)) → (∀ w, w < i → (rI s 41 w).toInt = hiS (fsU D ra (D.1 4) w) (D.1 5) (lu D h w)) → ∃ t m, l_X1_tryHeap_21 n x1 x2 (nI i) s = l_X1_tryHeap_21 (m + 1) x1 x2 (nI (D.1 2)) t ∧ Kp [40, 41] s t ∧ (∀ w, w < D.1 2 → (rI t 40 w).toInt = loS (fsU D ra (D.1 4) w) (La D ra (D.1 4)) (D.1 5) (lu D h w)) ∧ ∀ w, w < D.1 2 → (rI t 41 w).toInt = hiS (fsU D ra (D.1 4) w) (D.1 5) (lu D h w) := by
  have hW := hb.1.2.2.1
  have hE := hb.1.2.2.2.2.2.1
  have hLa := La_le (D := D) hle (Nat.le_refl (D.1 4))
  intro d
  induction d with
  | zero =>
    intro i n s hi hn hR h29 h7 h39 h40 h41
    obtain ⟨n, rfl⟩ : ∃ m, n = m + 1 := ⟨n - 1, by omega⟩
    have e : i = D.1 2 := by omega
    subst e
    exact ⟨s, n, rfl, Kp.rf, h40, h41⟩
  | succ d ih =>
    intro i n s hi hn hR h29 h7 h39 h40 h41
    obtain ⟨n, rfl⟩ : ∃ m, n = m + 1 := ⟨n - 1, by omega⟩
    have hlt : i < D.1 2 := by omega
    have hl := lu_G hb h hlt
    obtain ⟨a, b, a1, a2, a3⟩ := setSpan_c (s := s) (w := i) (F := fsU D ra (D.1 4) i) (L := La D ra (D.1 4)) (E := D.1 5) (l := lu D h i) (by omega) (fsU_le hle i (D.1 4) (Nat.le_refl _)) hLa hE (by omega) (h39 i hlt) h7 (hR.1 (38, 6, 5) (by decide))
    have k1 : Kp [40, 41] s (wI (wI s 40 i a) 41 i b) := Kp_wI (Kp_wI Kp.rf (by decide) _ _) (by decide) _ _
    obtain ⟨t, m, b1, b2, b3, b4⟩ := ih (i + 1) n (wI (wI s 40 i a) 41 i b) (by omega) (by omega) (hR.kp k1 (by decide)) (fun p hp => by rw [Kp_rI k1 (by decide)]; exact h29 p hp) (by rw [Kp_rI k1 (by decide)]; exact h7) (fun w hw => by rw [Kp_rI k1 (by decide)]; exact h39 w hw) (fun w hw => by
      rw [rI_nk (by decide)]
      by_cases e : w = i
      · subst e; rw [rI_same]; exact a2
      · rw [rI_nj e]; exact h40 w (by omega)) (fun w hw => by
      by_cases e : w = i
      · subst e; rw [rI_same]; exact a3
      · rw [rI_nj e, rI_nk (by decide)]; exact h41 w (by omega))
    refine ⟨t, m, ?_, k1.tr b2, b3, b4⟩
    show b_X1_tryHeap_21 (l_X1_tryHeap_21 n) x1 x2 (nI i) s = _
    unfold b_X1_tryHeap_21
    rw [hR.1 (8, 2, 2) (by decide), if_neg (nI_ge (a := i) (b := D.1 2) hlt (by omega)), windowTime_c hR hb h29 hlt, bd_ok, a1, bd_ok, nI_1]
    exact b1
def c8 (s : St) (v1 v2 v3 v4 v5 v6 v7 v8 : Int32) : St := wI (wI (wI (wI (wI (wI (wI (wI s 38 10 v1) 38 11 v2) 38 12 v3) 38 13 v4) 38 14 v5) 38 15 v6) 38 16 v7) 38 17 v8
def c4 (s : St) (v5 v6 v7 v8 : Int32) : St := wI (wI (wI (wI s 38 14 v5) 38 15 v6) 38 16 v7) 38 17 v8
theorem c8_kp (s : St) (v1 v2 v3 v4 v5 v6 v7 v8 : Int32) : Kp [38] s (c8 s v1 v2 v3 v4 v5 v6 v7 v8) := Kp_wI (Kp_wI (Kp_wI (Kp_wI (Kp_wI (Kp_wI (Kp_wI (Kp_wI Kp.rf (by decide) _ _) (by decide) _ _) (by decide) _ _) (by decide) _ _) (by decide) _ _) (by decide) _ _) (by decide) _ _) (by decide) _ _
theorem c4_kp (s : St) (v5 v6 v7 v8 : Int32) : Kp [38] s (c4 s v5 v6 v7 v8) := Kp_wI (Kp_wI (Kp_wI (Kp_wI Kp.rf (by decide) _ _) (by decide) _ _) (by decide) _ _) (by decide) _ _
theorem c8_lo (s : St) (v1 v2 v3 v4 v5 v6 v7 v8 : Int32) {j : Nat} (hj : j < 10) : rI (c8 s v1 v2 v3 v4 v5 v6 v7 v8) 38 j = rI s 38 j := by
  unfold c8
  rw [rI_nj (by omega), rI_nj (by omega), rI_nj (by omega), rI_nj (by omega), rI_nj (by omega), rI_nj (by omega), rI_nj (by omega), rI_nj (by omega)]
theorem c4_lo (s : St) (v5 v6 v7 v8 : Int32) {j : Nat} (hj : j < 14) : rI (c4 s v5 v6 v7 v8) 38 j = rI s 38 j := by
  unfold c4
  rw [rI_nj (by omega), rI_nj (by omega), rI_nj (by omega), rI_nj (by omega)]
theorem c8_at (s : St) (v1 v2 v3 v4 v5 v6 v7 v8 : Int32) : rI (c8 s v1 v2 v3 v4 v5 v6 v7 v8) 38 10 = v1 ∧ rI (c8 s v1 v2 v3 v4 v5 v6 v7 v8) 38 11 = v2 ∧ rI (c8 s v1 v2 v3 v4 v5 v6 v7 v8) 38 12 = v3 ∧ rI (c8 s v1 v2 v3 v4 v5 v6 v7 v8) 38 13 = v4 ∧ rI (c8 s v1 v2 v3 v4 v5 v6 v7 v8) 38 14 = v5 ∧ rI (c8 s v1 v2 v3 v4 v5 v6 v7 v8) 38 15 = v6 ∧ rI (c8 s v1 v2 v3 v4 v5 v6 v7 v8) 38 16 = v7 ∧ rI (c8 s v1 v2 v3 v4 v5 v6 v7 v8) 38 17 = v8 := by
  unfold c8
  simp [rI_wI]
theorem c4_at (s : St) (v5 v6 v7 v8 : Int32) : rI (c4 s v5 v6 v7 v8) 38 14 = v5 ∧ rI (c4 s v5 v6 v7 v8) 38 15 = v6 ∧ rI (c4 s v5 v6 v7 v8) 38 16 = v7 ∧ rI (c4 s v5 v6 v7 v8) 38 17 = v8 := by
  unfold c4
  simp [rI_wI]
theorem take_c (s : St) (h x : Int32) : f_X1_takeLeast h x s = some ((), c8 s x h (rI s 38 8) (rI s 38 9) 1 h h (rI s 38 9)) := by
  unfold f_X1_takeLeast c8
  simp [rI_wI]
theorem up_c (s3 : St) (x : Int32) : wI (wI (wI (wI s3 38 14 (rI s3 38 14 + 1)) 38 15 (rI (wI s3 38 14 (rI s3 38 14 + 1)) 38 15 &&& x)) 38 16 (rI (wI (wI s3 38 14 (rI s3 38 14 + 1)) 38 15 (rI (wI s3 38 14 (rI s3 38 14 + 1)) 38 15 &&& x)) 38 16 ||| x)) 38 17 (rI (wI (wI (wI s3 38 14 (rI s3 38 14 + 1)) 38 15 (rI (wI s3 38 14 (rI s3 38 14 + 1)) 38 15 &&& x)) 38 16 (rI (wI (wI s3 38 14 (rI s3 38 14 + 1)) 38 15 (rI (wI s3 38 14 (rI s3 38 14 + 1)) 38 15 &&& x)) 38 16 ||| x)) 38 17 &&& rI (wI (wI (wI s3 38 14 (rI s3 38 14 + 1)) 38 15 (rI (wI s3 38 14 (rI s3 38 14 + 1)) 38 15 &&& x)) 38 16 (rI (wI (wI s3 38 14 (rI s3 38 14 + 1)) 38 15 (rI (wI s3 38 14 (rI s3 38 14 + 1)) 38 15 &&& x)) 38 16 ||| x)) 38 9) = c4 s3 (rI s3 38 14 + 1) (rI s3 38 15 &&& x) (rI s3 38 16 ||| x) (rI s3 38 17 &&& rI s3 38 9) := by
  unfold c4
  simp [rI_wI]
theorem tryHeap_c {D : Dt} {tx : Nat → Int32} {s : St} (hR : RC D tx s) (hb : Bw D) {ra : Nat → Nat} (hle : ∀ i, i < D.1 4 → ra i ≤ 999) {A : Ax} (hA : ClA A s) (h7 : rI s 38 7 = nI (La D ra (D.1 4))) (h39 : ∀ w, w < D.1 2 → rI s 39 w = nI (fsU D ra (D.1 4) w) - 1) (c : Nat) {k : Nat} (hk : k ≤ 3) : ∃ u, f_X1_tryHeap (nI c) (nI k) s = some ((), u) ∧ Kx s u ∧ rI u 38 7 = nI (La D ra (D.1 4)) ∧ (∀ w, w < D.1 2 → rI u 39 w = nI (fsU D ra (D.1 4) w) - 1) ∧ ClA (stp D ra A (c, k)) u := by
  have hW := hb.1.2.2.1
  obtain ⟨A10, Ale, Aj⟩ := hA
  have m2 : (2 : Int32) * nI k = nI (2 * k) := pk_mul 2 k
  have hcn := cn_le (D := D) (ra := ra) (h := nI c) (b := bgn D ra c)
  unfold f_X1_tryHeap
  rw [m2, A10]
  by_cases c0 : 2 * k ≤ A.1
  · obtain ⟨s1, a1, a2, a3⟩ := run_c hR hb (nI c)
    have x1 : Kx s s1 := Kx_kp a2 (by decide)
    have hR1 := RC_x hR x1
    obtain ⟨s2, m, b1, b2, b3, b4⟩ := spans_l (tx := tx) hb hle (h := nI c) (nI c) (nI k) (D.1 2) 0 FU s1 (by omega) (FU_lt (by omega)) hR1 a3 (by rw [Kp_rI a2 (by decide)]; exact h7) (fun w hw => by rw [Kp_rI a2 (by decide)]; exact h39 w hw) (fun w hw => absurd hw (Nat.not_lt_zero w)) (fun w hw => absurd hw (Nat.not_lt_zero w))
    have x2 : Kx s1 s2 := Kx_kp b2 (by decide)
    have hR2 := RC_x hR1 x2
    have j38 : ∀ j, rI s2 38 j = rI s 38 j := fun j => by rw [Kp_rI b2 (by decide), Kp_rI a2 (by decide)]
    obtain ⟨s3, d1, d2, d3, d4, d5⟩ := seek_c hR2 hb hle (h := nI c) b3 b4 (by rw [j38]; exact h7)
    have x3 : Kx s2 s3 := Kx_38 d2 (d3 6 (by decide) (by decide))
    have hR3 := RC_x hR2 x3
    have xx : Kx s s3 := Kx_tr x1 (Kx_tr x2 x3)
    have g7 : rI s3 38 7 = nI (La D ra (D.1 4)) := by rw [d3 7 (by decide) (by decide), j38]; exact h7
    have g39 : ∀ w, w < D.1 2 → rI s3 39 w = nI (fsU D ra (D.1 4) w) - 1 := fun w hw => by rw [Kp_rI d2 (by decide), Kp_rI b2 (by decide), Kp_rI a2 (by decide)]; exact h39 w hw
    have g10 : rI s3 38 10 = nI A.1 := by rw [d3 10 (by decide) (by decide), j38]; exact A10
    have gj : ∀ j, 1 ≤ j → j ≤ 7 → rI s3 38 (10 + j) = A.2 j := fun j h1 h2 => by rw [d3 (10 + j) (by omega) (by omega), j38]; exact Aj j h1 h2
    have hcost : 2 * k + cn D ra (nI c) (bgn D ra c) = cst D ra c k := rfl
    -- only slots above 9 of 38 change after s3
    have fin : ∀ u : St, Kp [38] s3 u → (∀ j, j < 10 → rI u 38 j = rI s3 38 j) → Kx s u ∧ rI u 38 7 = nI (La D ra (D.1 4)) ∧ ∀ w, w < D.1 2 → rI u 39 w = nI (fsU D ra (D.1 4) w) - 1 := fun u ku ju => ⟨Kx_tr xx (Kx_38 ku (ju 6 (by omega))), by rw [ju 7 (by omega)]; exact g7, fun w hw => by rw [Kp_rI ku (by decide)]; exact g39 w hw⟩
    have hbody : l_X1_tryHeap_21 (m + 1) (nI c) (nI k) (nI (D.1 2)) s2 = if nI A.1 ≤ nI (cst D ra c k) then (if nI (cst D ra c k) = nI A.1 then some ((), c4 s3 (rI s3 38 14 + 1) (rI s3 38 15 &&& nI c) (rI s3 38 16 ||| nI c) (rI s3 38 17 &&& rI s3 38 9)) else some ((), s3)) else some ((), c8 s3 (nI (cst D ra c k)) (nI c) (rI s3 38 8) (rI s3 38 9) 1 (nI c) (nI c) (rI s3 38 9)) := by
      show b_X1_tryHeap_21 (l_X1_tryHeap_21 m) (nI c) (nI k) (nI (D.1 2)) s2 = _
      unfold b_X1_tryHeap_21
      rw [hR2.1 (8, 2, 2) (by decide), if_pos (nI_le (Nat.le_refl (D.1 2)) (by omega)), d1, bd_ok, show f_J6_bitCount_0f7a4 (rI s3 38 9) s3 = some (nI (cn D ra (nI c) (bgn D ra c)), s3) by rw [d5]; exact bc_WR hb s3, bd_ok, m2, nI_add, hcost, g10]
      show (if nI A.1 ≤ nI (cst D ra c k) then (if nI (cst D ra c k) = nI A.1 then some ((), wI (wI (wI (wI s3 38 14 (rI s3 38 14 + 1)) 38 15 (rI (wI s3 38 14 (rI s3 38 14 + 1)) 38 15 &&& nI c)) 38 16 (rI (wI (wI s3 38 14 (rI s3 38 14 + 1)) 38 15 (rI (wI s3 38 14 (rI s3 38 14 + 1)) 38 15 &&& nI c)) 38 16 ||| nI c)) 38 17 (rI (wI (wI (wI s3 38 14 (rI s3 38 14 + 1)) 38 15 (rI (wI s3 38 14 (rI s3 38 14 + 1)) 38 15 &&& nI c)) 38 16 (rI (wI (wI s3 38 14 (rI s3 38 14 + 1)) 38 15 (rI (wI s3 38 14 (rI s3 38 14 + 1)) 38 15 &&& nI c)) 38 16 ||| nI c)) 38 17 &&& rI (wI (wI (wI s3 38 14 (rI s3 38 14 + 1)) 38 15 (rI (wI s3 38 14 (rI s3 38 14 + 1)) 38 15 &&& nI c)) 38 16 (rI (wI (wI s3 38 14 (rI s3 38 14 + 1)) 38 15 (rI (wI s3 38 14 (rI s3 38 14 + 1)) 38 15 &&& nI c)) 38 16 ||| nI c)) 38 9)) else some ((), s3)) else bd (f_X1_takeLeast (nI c) (nI (cst D ra c k)) s3) fun _ t => some ((), t)) = _
      rw [take_c, bd_ok, up_c]
    rw [if_pos (nI_le c0 (by omega)), a1, bd_ok, show l_X1_tryHeap_21 FU (nI c) (nI k) 0 s1 = _ from b1, hbody]
    by_cases c1 : cst D ra c k < A.1
    · have es : stp D ra A (c, k) = (cst D ra c k, newA (nI c) (nI (bgn D ra c)) (WR D ra (nI c) (bgn D ra c))) := if_pos c1
      rw [if_neg (nI_ge c1 (by omega)), es]
      obtain ⟨f1, f2, f3⟩ := fin _ (c8_kp s3 (nI (cst D ra c k)) (nI c) (rI s3 38 8) (rI s3 38 9) 1 (nI c) (nI c) (rI s3 38 9)) (fun j hj => c8_lo _ _ _ _ _ _ _ _ _ hj)
      obtain ⟨y0, y1, y2, y3, y4, y5, y6, y7⟩ := c8_at s3 (nI (cst D ra c k)) (nI c) (rI s3 38 8) (rI s3 38 9) 1 (nI c) (nI c) (rI s3 38 9)
      refine ⟨_, rfl, f1, f2, f3, y0, by show cst D ra c k ≤ 1000000; omega, fun j h1 h2 => ?_⟩
      rcases (show j = 1 ∨ j = 2 ∨ j = 3 ∨ j = 4 ∨ j = 5 ∨ j = 6 ∨ j = 7 by omega) with rfl | rfl | rfl | rfl | rfl | rfl | rfl
      · exact y1
      · exact y2.trans d4
      · exact y3.trans d5
      · exact y4
      · exact y5
      · exact y6
      · exact y7.trans d5
    · by_cases c2 : cst D ra c k = A.1
      · have es : stp D ra A (c, k) = (A.1, updA A.2 (nI c) (WR D ra (nI c) (bgn D ra c))) := by
          unfold stp
          rw [if_neg c1, if_pos c2]
        rw [if_pos (nI_le (by omega) (by omega)), if_pos (by rw [c2]), es]
        obtain ⟨f1, f2, f3⟩ := fin _ (c4_kp s3 (rI s3 38 14 + 1) (rI s3 38 15 &&& nI c) (rI s3 38 16 ||| nI c) (rI s3 38 17 &&& rI s3 38 9)) (fun j hj => c4_lo _ _ _ _ _ (by omega))
        obtain ⟨y4, y5, y6, y7⟩ := c4_at s3 (rI s3 38 14 + 1) (rI s3 38 15 &&& nI c) (rI s3 38 16 ||| nI c) (rI s3 38 17 &&& rI s3 38 9)
        refine ⟨_, rfl, f1, f2, f3, by rw [c4_lo _ _ _ _ _ (by omega)]; exact g10, Ale, fun j h1 h2 => ?_⟩
        rcases (show j = 1 ∨ j = 2 ∨ j = 3 ∨ j = 4 ∨ j = 5 ∨ j = 6 ∨ j = 7 by omega) with rfl | rfl | rfl | rfl | rfl | rfl | rfl
        · exact (c4_lo _ _ _ _ _ (by omega)).trans (gj 1 (by omega) (by omega))
        · exact (c4_lo _ _ _ _ _ (by omega)).trans (gj 2 (by omega) (by omega))
        · exact (c4_lo _ _ _ _ _ (by omega)).trans (gj 3 (by omega) (by omega))
        · refine y4.trans ?_
          rw [show rI s3 38 14 = A.2 4 from gj 4 (by omega) (by omega)]
          rfl
        · refine y5.trans ?_
          rw [show rI s3 38 15 = A.2 5 from gj 5 (by omega) (by omega)]
          rfl
        · refine y6.trans ?_
          rw [show rI s3 38 16 = A.2 6 from gj 6 (by omega) (by omega)]
          rfl
        · refine y7.trans ?_
          rw [show rI s3 38 17 = A.2 7 from gj 7 (by omega) (by omega), d5]
          rfl
      · have es : stp D ra A (c, k) = A := by
          unfold stp
          rw [if_neg c1, if_neg c2]
        rw [if_pos (nI_le (by omega) (by omega)), if_neg (fun q => c2 ((nI_eq (by omega) (by omega)).mp q)), es]
        obtain ⟨f1, f2, f3⟩ := fin s3 Kp.rf (fun _ _ => rfl)
        exact ⟨s3, rfl, f1, f2, f3, g10, Ale, gj⟩
  · have es : stp D ra A (c, k) = A := by
      have : 2 * k ≤ cst D ra c k := Nat.le_add_right _ _
      unfold stp
      rw [if_neg (by show ¬ cst D ra c k < A.1; omega), if_neg (by show ¬ cst D ra c k = A.1; omega)]
    rw [if_neg (nI_ge (by omega) (by omega)), es]
    exact ⟨s, rfl, Kx_rf s, h7, h39, A10, Ale, Aj⟩
