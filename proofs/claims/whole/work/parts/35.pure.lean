/-! ===== explain: the least begin, the class ===== -/
/-- window w is wrong at begin b -/
def wrB (D : Dt) (ra : Nat → Nat) (h : Int32) (b w : Nat) : Bool := decide ((b : Int) < loS (fsU D ra (D.1 4) w) (La D ra (D.1 4)) (D.1 5) (lu D h w) ∨ hiS (fsU D ra (D.1 4) w) (D.1 5) (lu D h w) < (b : Int))
def cn (D : Dt) (ra : Nat → Nat) (h : Int32) (b : Nat) : Nat := fb_ct (wrB D ra h b) (D.1 2)
def WR (D : Dt) (ra : Nat → Nat) (h : Int32) (b : Nat) : Int32 := bitsI (wrB D ra h b) (D.1 2)
/-- a is before b, or the same -/
def lx (D : Dt) (ra : Nat → Nat) (h : Int32) (a b : Nat) : Prop := cn D ra h a < cn D ra h b ∨ (cn D ra h a = cn D ra h b ∧ a ≤ b)
def bb (D : Dt) (ra : Nat → Nat) (h : Int32) : Nat → Nat
  | 0 => 0
  | k + 1 => if cn D ra h (k + 1) < cn D ra h (bb D ra h k) then k + 1 else bb D ra h k
theorem bb_lx (D : Dt) (ra : Nat → Nat) (h : Int32) : ∀ k, bb D ra h k ≤ k ∧ ∀ b, b ≤ k → lx D ra h (bb D ra h k) b
  | 0 => ⟨Nat.le_refl _, fun b hb => by
    have : b = 0 := by omega
    subst this
    exact Or.inr ⟨rfl, Nat.le_refl _⟩⟩
  | k + 1 => by
    obtain ⟨i1, i2⟩ := bb_lx D ra h k
    by_cases c : cn D ra h (k + 1) < cn D ra h (bb D ra h k)
    · have e : bb D ra h (k + 1) = k + 1 := if_pos c
      rw [e]
      refine ⟨Nat.le_refl _, fun b hb => ?_⟩
      by_cases eb : b = k + 1
      · rw [eb]; exact Or.inr ⟨rfl, Nat.le_refl _⟩
      · have := i2 b (by omega)
        unfold lx at *
        omega
    · have e : bb D ra h (k + 1) = bb D ra h k := if_neg c
      rw [e]
      refine ⟨by omega, fun b hb => ?_⟩
      by_cases eb : b = k + 1
      · rw [eb]; unfold lx; omega
      · exact i2 b (by omega)
theorem bb_lo {D : Dt} {ra : Nat → Nat} {h : Int32} {k : Nat} (hp : 0 < bb D ra h k) : ∃ w, w < D.1 2 ∧ loS (fsU D ra (D.1 4) w) (La D ra (D.1 4)) (D.1 5) (lu D h w) = (bb D ra h k : Int) := by
  obtain ⟨i1, i2⟩ := bb_lx D ra h k
  generalize bb D ra h k = b at *
  have h1 := i2 (b - 1) (by omega)
  have hlt : cn D ra h b < cn D ra h (b - 1) := by unfold lx at h1; omega
  by_cases ex : ∃ w, w < D.1 2 ∧ wrB D ra h (b - 1) w = true ∧ wrB D ra h b w = false
  · obtain ⟨w, hw, q1, q2⟩ := ex
    refine ⟨w, hw, ?_⟩
    unfold wrB at q1 q2
    simp only [decide_eq_true_eq, decide_eq_false_iff_not] at q1 q2
    omega
  · exfalso
    have : cn D ra h (b - 1) ≤ cn D ra h b := fb_ct_sub (fun w hw hq => by
      by_cases c : wrB D ra h b w = true
      · exact c
      · exact absurd ⟨w, hw, hq, by simpa using c⟩ ex)
    omega
theorem wrongAt_l {D : Dt} {tx : Nat → Int32} {s : St} (hR : RC D tx s) (hb : Bw D) {ra : Nat → Nat} {h : Int32} (h40 : ∀ w, w < D.1 2 → (rI s 40 w).toInt = loS (fsU D ra (D.1 4) w) (La D ra (D.1 4)) (D.1 5) (lu D h w)) (h41 : ∀ w, w < D.1 2 → (rI s 41 w).toInt = hiS (fsU D ra (D.1 4) w) (D.1 5) (lu D h w)) {b : Nat} (hbb : b ≤ 999) : ∀ (d i n : Nat), i + d = D.1 2 → d < n → l_X1_wrongAt_4 n (nI b) (bitsI (wrB D ra h b) i) (nI i) s = some (WR D ra h b, s) := by
  have hW := hb.1.2.2.1
  intro d
  induction d with
  | zero =>
    intro i n hi hn
    obtain ⟨n, rfl⟩ : ∃ m, n = m + 1 := ⟨n - 1, by omega⟩
    have e : i = D.1 2 := by omega
    subst e
    show b_X1_wrongAt_4 (l_X1_wrongAt_4 n) _ _ (nI (D.1 2)) s = _
    unfold b_X1_wrongAt_4
    rw [hR.1 (8, 2, 2) (by decide), if_pos (nI_le (Nat.le_refl (D.1 2)) (by omega))]
    rfl
  | succ d ih =>
    intro i n hi hn
    obtain ⟨n, rfl⟩ : ∃ m, n = m + 1 := ⟨n - 1, by omega⟩
    have hlt : i < D.1 2 := by omega
    have hnext := ih (i + 1) n (by omega) (by omega)
    have eb := nI_toInt (n := b) (by omega)
    have hsu : bitsI (wrB D ra h b) (i + 1) = if wrB D ra h b i then bitsI (wrB D ra h b) i ||| ((1 : Int32) <<< (nI i &&& 31)) else bitsI (wrB D ra h b) i := rfl
    have c40 : nI b < rI s 40 i ↔ (b : Int) < loS (fsU D ra (D.1 4) i) (La D ra (D.1 4)) (D.1 5) (lu D h i) := by rw [fa_lt, eb, h40 i hlt]
    have c41 : nI b ≤ rI s 41 i ↔ ¬ (hiS (fsU D ra (D.1 4) i) (D.1 5) (lu D h i) < (b : Int)) := by rw [fa_le, eb, h41 i hlt]; omega
    show b_X1_wrongAt_4 (l_X1_wrongAt_4 n) _ _ (nI i) s = _
    unfold b_X1_wrongAt_4
    rw [hR.1 (8, 2, 2) (by decide), if_neg (nI_ge (a := i) (b := D.1 2) hlt (by omega)), gi_nI (lt_n hlt hW) (by decide), cl_nI (n := i) (by omega), nI_1]
    by_cases c : nI b < rI s 40 i
    · rw [if_pos c, ← hnext, hsu, if_pos (by unfold wrB; simp only [decide_eq_true_eq]; exact Or.inl (c40.mp c))]
    · rw [if_neg c, gi_nI (lt_n hlt hW) (by decide)]
      by_cases c2 : nI b ≤ rI s 41 i
      · rw [if_pos c2, ← hnext, hsu, if_neg]
        unfold wrB
        simp only [decide_eq_true_eq]
        exact fun q => q.elim (fun q1 => c (c40.mpr q1)) (fun q2 => c41.mp c2 q2)
      · rw [if_neg c2, ← hnext, hsu, if_pos]
        unfold wrB
        simp only [decide_eq_true_eq]
        exact Or.inr (Decidable.of_not_not (fun q => c2 (c41.mpr q)))
theorem wrongAt_c {D : Dt} {tx : Nat → Int32} {s : St} (hR : RC D tx s) (hb : Bw D) {ra : Nat → Nat} {h : Int32} (h40 : ∀ w, w < D.1 2 → (rI s 40 w).toInt = loS (fsU D ra (D.1 4) w) (La D ra (D.1 4)) (D.1 5) (lu D h w)) (h41 : ∀ w, w < D.1 2 → (rI s 41 w).toInt = hiS (fsU D ra (D.1 4) w) (D.1 5) (lu D h w)) {b : Nat} (hbb : b ≤ 999) : f_X1_wrongAt (nI b) s = some (WR D ra h b, s) := by
  have hW := hb.1.2.2.1
  exact wrongAt_l hR hb h40 h41 hbb (D.1 2) 0 FU (by omega) (FU_lt (by omega))
theorem cn_le {D : Dt} {ra : Nat → Nat} {h : Int32} {b : Nat} : cn D ra h b ≤ D.1 2 := fb_ct_le _ _
theorem bc_WR {D : Dt} (hb : Bw D) {ra : Nat → Nat} {h : Int32} {b : Nat} (s : St) : f_J6_bitCount_0f7a4 (WR D ra h b) s = some (nI (cn D ra h b), s) := by
  rw [bc_f]
  unfold WR
  rw [bc_bits _ hb.1.2.2.1]
  rfl
/-- the new one if it is before -/
def pick (D : Dt) (ra : Nat → Nat) (h : Int32) (a b : Nat) : Nat := if cn D ra h a < cn D ra h b ∨ (cn D ra h a = cn D ra h b ∧ a < b) then a else b
theorem pick_lx (D : Dt) (ra : Nat → Nat) (h : Int32) (a b : Nat) : lx D ra h (pick D ra h a b) a ∧ lx D ra h (pick D ra h a b) b ∧ (pick D ra h a b = a ∨ pick D ra h a b = b) := by
  unfold pick lx
  split <;> omega
theorem lx_tr {D : Dt} {ra : Nat → Nat} {h : Int32} {a b c : Nat} (h1 : lx D ra h a b) (h2 : lx D ra h b c) : lx D ra h a c := by
  unfold lx at *
  omega
theorem tryBegin_c {D : Dt} {tx : Nat → Int32} {s : St} (hR : RC D tx s) (hb : Bw D) {ra : Nat → Nat} {h : Int32} (h40 : ∀ w, w < D.1 2 → (rI s 40 w).toInt = loS (fsU D ra (D.1 4) w) (La D ra (D.1 4)) (D.1 5) (lu D h w)) (h41 : ∀ w, w < D.1 2 → (rI s 41 w).toInt = hiS (fsU D ra (D.1 4) w) (D.1 5) (lu D h w)) {b b0 : Nat} (hbb : b ≤ 999) (hb0 : b0 ≤ 999) (h8 : rI s 38 8 = nI b0) (h9 : rI s 38 9 = WR D ra h b0) : ∃ u, f_X1_tryBegin (nI b) s = some ((), u) ∧ Kp [38] s u ∧ (∀ j, j ≠ 8 → j ≠ 9 → rI u 38 j = rI s 38 j) ∧ rI u 38 8 = nI (pick D ra h b b0) ∧ rI u 38 9 = WR D ra h (pick D ra h b b0) := by
  have hW := hb.1.2.2.1
  have l1 := cn_le (D := D) (ra := ra) (h := h) (b := b)
  have l0 := cn_le (D := D) (ra := ra) (h := h) (b := b0)
  have e1 := nI_toInt (n := cn D ra h b) (by omega)
  have e0 := nI_toInt (n := cn D ra h b0) (by omega)
  have ez : (0 : Int32).toInt = 0 := by decide
  have q : (nI (cn D ra h b) - nI (cn D ra h b0)).toInt = (cn D ra h b : Int) - cn D ra h b0 := by rw [fb_subI (by omega) (by omega), e1, e0]
  have hput : ∃ u, u = wI (wI s 38 8 (nI b)) 38 9 (WR D ra h b) ∧ Kp [38] s u ∧ (∀ j, j ≠ 8 → j ≠ 9 → rI u 38 j = rI s 38 j) ∧ rI u 38 8 = nI b ∧ rI u 38 9 = WR D ra h b := ⟨_, rfl, Kp_wI (Kp_wI Kp.rf (by decide) _ _) (by decide) _ _, fun j h1 h2 => by rw [rI_nj h2, rI_nj h1], by rw [rI_nj (by decide), rI_same], rI_same _ _ _ _⟩
  unfold f_X1_tryBegin
  rw [wrongAt_c hR hb h40 h41 hbb, bd_ok, bc_WR hb, bd_ok, h9, bc_WR hb, bd_ok]
  show ∃ u, (if nI (cn D ra h b) - nI (cn D ra h b0) < 0 then some ((), wI (wI s 38 8 (nI b)) 38 9 (WR D ra h b)) else if nI (cn D ra h b) - nI (cn D ra h b0) = 0 then (if rI s 38 8 ≤ nI b then some ((), s) else some ((), wI (wI s 38 8 (nI b)) 38 9 (WR D ra h b))) else some ((), s)) = some ((), u) ∧ _
  rw [h8]
  by_cases c : cn D ra h b < cn D ra h b0
  · have ep : pick D ra h b b0 = b := if_pos (Or.inl c)
    obtain ⟨u, u1, u2⟩ := hput
    rw [ep]
    refine ⟨u, ?_, u2⟩
    rw [if_pos (by rw [fa_lt, q, ez]; omega), u1]
  · rw [if_neg (by rw [fa_lt, q, ez]; omega)]
    by_cases c2 : cn D ra h b = cn D ra h b0
    · rw [if_pos (by rw [fa_eq, q, ez]; omega)]
      by_cases c3 : b < b0
      · have ep : pick D ra h b b0 = b := if_pos (Or.inr ⟨c2, c3⟩)
        obtain ⟨u, u1, u2⟩ := hput
        rw [ep]
        refine ⟨u, ?_, u2⟩
        rw [if_neg (nI_ge c3 (by omega)), u1]
      · have ep : pick D ra h b b0 = b0 := if_neg (by omega)
        rw [ep]
        exact ⟨s, by rw [if_pos (nI_le (by omega) (by omega))], Kp.rf, fun _ _ _ => rfl, h8, h9⟩
    · have ep : pick D ra h b b0 = b0 := if_neg (by omega)
      rw [ep]
      exact ⟨s, by rw [if_neg (by rw [fa_eq, q, ez]; omega)], Kp.rf, fun _ _ _ => rfl, h8, h9⟩
theorem seek_l {D : Dt} {tx : Nat → Int32} (hb : Bw D) {ra : Nat → Nat} (hle : ∀ i, i < D.1 4 → ra i ≤ 999) {h : Int32} : ∀ (d i n b0 : Nat) (s : St), i + d = D.1 2 → d < n → RC D tx s → (∀ w, w < D.1 2 → (rI s 40 w).toInt = loS (fsU D ra (D.1 4) w) (La D ra (D.1 4)) (D.1 5) (lu D h w)) → (∀ w, w < D.1 2 → (rI s 41 w).toInt = hiS (fsU D ra (D.1 4) w) (D.1 5) (lu D h w)) → rI s 38 7 = nI (La D ra (D.1 4)) → rI s 38 8 = nI b0 → rI s 38 9 = WR D ra h b0 → b0 ≤ La D ra (D.1 4) → lx D ra h b0 0 → (∀ w, w < i → ∀ v : Nat, loS (fsU D ra (D.1 4) w) (La D ra (D.1 4)) (D.1 5) (lu D h w) = (v : Int) → 0 < v → v ≤ La D ra (D.1 4) → lx D ra h b0 v) → ∃ u, l_X1_seekBegin_16 n (nI i) s = some ((), u) ∧ Kp [38] s u ∧ (∀ j, j ≠ 8 → j ≠ 9 → rI u 38 j = rI s 38 j) ∧ rI u 38 8 = nI (bb D ra h (La D ra (D.1 4))) ∧ rI u 38 9 = WR D ra h (bb D ra h (La D ra (D.1 4))) := by
  have hW := hb.1.2.2.1
  have hLa := La_le (D := D) hle (Nat.le_refl (D.1 4))
  intro d
  induction d with
  | zero =>
    intro i n b0 s hi hn hR h40 h41 h7 h8 h9 hb0 hl0 hlw
    obtain ⟨n, rfl⟩ : ∃ m, n = m + 1 := ⟨n - 1, by omega⟩
    have e : i = D.1 2 := by omega
    subst e
    obtain ⟨j1, j2⟩ := bb_lx D ra h (La D ra (D.1 4))
    have heq : b0 = bb D ra h (La D ra (D.1 4)) := by
      have r1 := j2 b0 hb0
      have r2 : lx D ra h b0 (bb D ra h (La D ra (D.1 4))) := by
        by_cases z : bb D ra h (La D ra (D.1 4)) = 0
        · rw [z]; exact hl0
        · obtain ⟨w, hw, q⟩ := bb_lo (D := D) (ra := ra) (h := h) (k := La D ra (D.1 4)) (by omega)
          exact hlw w hw _ q (by omega) j1
      unfold lx at r1 r2
      omega
    refine ⟨s, ?_, Kp.rf, fun _ _ _ => rfl, by rw [← heq]; exact h8, by rw [← heq]; exact h9⟩
    show b_X1_seekBegin_16 (l_X1_seekBegin_16 n) (nI (D.1 2)) s = _
    unfold b_X1_seekBegin_16
    rw [hR.1 (8, 2, 2) (by decide), if_pos (nI_le (Nat.le_refl (D.1 2)) (by omega))]
  | succ d ih =>
    intro i n b0 s hi hn hR h40 h41 h7 h8 h9 hb0 hl0 hlw
    obtain ⟨n, rfl⟩ : ∃ m, n = m + 1 := ⟨n - 1, by omega⟩
    have hlt : i < D.1 2 := by omega
    have ez : (0 : Int32).toInt = 0 := by decide
    have eL := nI_toInt (n := La D ra (D.1 4)) (by omega)
    have hbody : b_X1_seekBegin_16 (l_X1_seekBegin_16 n) (nI i) s = if rI s 40 i ≤ 0 then l_X1_seekBegin_16 n (nI (i + 1)) s else if nI (La D ra (D.1 4)) < rI s 40 i then l_X1_seekBegin_16 n (nI (i + 1)) s else bd (f_X1_tryBegin (rI s 40 i) s) fun _ t => l_X1_seekBegin_16 n (nI (i + 1)) t := by
      unfold b_X1_seekBegin_16
      rw [hR.1 (8, 2, 2) (by decide), if_neg (nI_ge (a := i) (b := D.1 2) hlt (by omega)), gi_nI (lt_n hlt hW) (by decide), cl_nI (n := i) (by omega), h7, nI_1, gi_nI (lt_n hlt hW) (by decide), gi_nI (lt_n hlt hW) (by decide)]
    have stay : (∀ v : Nat, loS (fsU D ra (D.1 4) i) (La D ra (D.1 4)) (D.1 5) (lu D h i) = (v : Int) → 0 < v → ¬ v ≤ La D ra (D.1 4)) → ∃ u, l_X1_seekBegin_16 n (nI (i + 1)) s = some ((), u) ∧ Kp [38] s u ∧ (∀ j, j ≠ 8 → j ≠ 9 → rI u 38 j = rI s 38 j) ∧ rI u 38 8 = nI (bb D ra h (La D ra (D.1 4))) ∧ rI u 38 9 = WR D ra h (bb D ra h (La D ra (D.1 4))) := fun hno =>
      ih (i + 1) n b0 s (by omega) (by omega) hR h40 h41 h7 h8 h9 hb0 hl0 (fun w hw v hv hv0 hvL => by
        by_cases e : w = i
        · subst e; exact absurd hvL (hno v hv hv0)
        · exact hlw w (by omega) v hv hv0 hvL)
    by_cases c1 : rI s 40 i ≤ 0
    · obtain ⟨u, a1, a2⟩ := stay (fun v hv hv0 => by
        rw [fa_le, h40 i hlt, ez, hv] at c1
        omega)
      refine ⟨u, ?_, a2⟩
      show b_X1_seekBegin_16 (l_X1_seekBegin_16 n) (nI i) s = _
      rw [hbody, if_pos c1]
      exact a1
    · by_cases c2 : nI (La D ra (D.1 4)) < rI s 40 i
      · obtain ⟨u, a1, a2⟩ := stay (fun v hv hv0 => by
          rw [fa_lt, h40 i hlt, eL, hv] at c2
          omega)
        refine ⟨u, ?_, a2⟩
        show b_X1_seekBegin_16 (l_X1_seekBegin_16 n) (nI i) s = _
        rw [hbody, if_neg c1, if_pos c2]
        exact a1
      · rw [fa_le, ez] at c1
        rw [fa_lt, eL] at c2
        obtain ⟨v, hv⟩ : ∃ v : Nat, (rI s 40 i).toInt = (v : Int) := ⟨(rI s 40 i).toInt.toNat, by omega⟩
        have hvn : rI s 40 i = nI v := by rw [fa_eq, hv, nI_toInt (by omega)]
        obtain ⟨t, a1, a2, a3, a4, a5⟩ := tryBegin_c hR hb h40 h41 (b := v) (b0 := b0) (by omega) (by omega) h8 h9
        obtain ⟨p1, p2, p3⟩ := pick_lx D ra h v b0
        have hRt : RC D tx t := RC_x hR (Kx_38 a2 (a3 6 (by decide) (by decide)))
        obtain ⟨u, b1, b2, b3, b4⟩ := ih (i + 1) n (pick D ra h v b0) t (by omega) (by omega) hRt (fun w hw => by rw [Kp_rI a2 (by decide)]; exact h40 w hw) (fun w hw => by rw [Kp_rI a2 (by decide)]; exact h41 w hw) (by rw [a3 7 (by decide) (by decide)]; exact h7) a4 a5 (by omega) (lx_tr p2 hl0) (fun w hw v1 hv1 hv0 hvL => by
          by_cases e : w = i
          · subst e
            rw [← h40 w hlt, hv] at hv1
            have : v1 = v := by omega
            rw [this]; exact p1
          · exact lx_tr p2 (hlw w (by omega) v1 hv1 hv0 hvL))
        refine ⟨u, ?_, a2.tr b2, fun j j8 j9 => by rw [b3 j j8 j9, a3 j j8 j9], b4⟩
        show b_X1_seekBegin_16 (l_X1_seekBegin_16 n) (nI i) s = _
        rw [hbody, if_neg (by rw [fa_le, ez]; exact c1), if_neg (by rw [fa_lt, eL]; exact c2), hvn, a1, bd_ok]
        exact b1
theorem seek_c {D : Dt} {tx : Nat → Int32} {s : St} (hR : RC D tx s) (hb : Bw D) {ra : Nat → Nat} (hle : ∀ i, i < D.1 4 → ra i ≤ 999) {h : Int32} (h40 : ∀ w, w < D.1 2 → (rI s 40 w).toInt = loS (fsU D ra (D.1 4) w) (La D ra (D.1 4)) (D.1 5) (lu D h w)) (h41 : ∀ w, w < D.1 2 → (rI s 41 w).toInt = hiS (fsU D ra (D.1 4) w) (D.1 5) (lu D h w)) (h7 : rI s 38 7 = nI (La D ra (D.1 4))) : ∃ u, f_X1_seekBegin s = some ((), u) ∧ Kp [38] s u ∧ (∀ j, j ≠ 8 → j ≠ 9 → rI u 38 j = rI s 38 j) ∧ rI u 38 8 = nI (bb D ra h (La D ra (D.1 4))) ∧ rI u 38 9 = WR D ra h (bb D ra h (La D ra (D.1 4))) := by
  have hW := hb.1.2.2.1
  have k1 : Kp [38] s (wI s 38 8 0) := Kp_wI Kp.rf (by decide) _ _
  have hR1 : RC D tx (wI s 38 8 0) := RC_x hR (Kx_38 k1 (rI_nj (by decide)))
  have k2 : Kp [38] s (wI (wI s 38 8 0) 38 9 (WR D ra h 0)) := Kp_wI k1 (by decide) _ _
  have hj : ∀ j, j ≠ 8 → j ≠ 9 → rI (wI (wI s 38 8 0) 38 9 (WR D ra h 0)) 38 j = rI s 38 j := fun j h8 h9 => by rw [rI_nj h9, rI_nj h8]
  have hR2 : RC D tx (wI (wI s 38 8 0) 38 9 (WR D ra h 0)) := RC_x hR (Kx_38 k2 (hj 6 (by decide) (by decide)))
  obtain ⟨u, a1, a2, a3, a4⟩ := seek_l (tx := tx) hb hle (h := h) (D.1 2) 0 FU 0 (wI (wI s 38 8 0) 38 9 (WR D ra h 0)) (by omega) (FU_lt (by omega)) hR2 (fun w hw => by rw [Kp_rI k2 (by decide)]; exact h40 w hw) (fun w hw => by rw [Kp_rI k2 (by decide)]; exact h41 w hw) (by rw [hj 7 (by decide) (by decide)]; exact h7) (by rw [rI_nj (by decide), rI_same]; rfl) (rI_same _ _ _ _) (Nat.zero_le _) (Or.inr ⟨rfl, Nat.le_refl _⟩) (fun w hw => absurd hw (Nat.not_lt_zero w))
  refine ⟨u, ?_, k2.tr a2, fun j h8 h9 => by rw [a3 j h8 h9, hj j h8 h9], a4⟩
  unfold f_X1_seekBegin
  show bd (f_X1_wrongAt 0 (wI s 38 8 0)) (fun r t => l_X1_seekBegin_16 FU 0 (wI t 38 9 r)) = _
  rw [show f_X1_wrongAt 0 (wI s 38 8 0) = some (WR D ra h 0, wI s 38 8 0) from wrongAt_c hR1 hb (fun w hw => by rw [rI_nk (by decide)]; exact h40 w hw) (fun w hw => by rw [rI_nk (by decide)]; exact h41 w hw) (b := 0) (by omega), bd_ok]
  exact a1
