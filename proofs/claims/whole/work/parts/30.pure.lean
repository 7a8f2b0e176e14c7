/-! ===== lamps ===== -/
def lu (D : Dt) (h : Int32) (w : Nat) : Nat := min (fl D h (D.2 4 w) + D.2 5 w) 1000000
def lw (D : Dt) (h : Int32) (w : Nat) : Nat := if D.2 9 w = 0 then lu D h w else if D.2 9 w = 1 then 0 else 1000000
theorem lu_G {D : Dt} (hb : Bw D) (h : Int32) {w : Nat} (hw : w < D.1 2) : lu D h w = 1000000 ∨ lu D h w ≤ 780 := by
  obtain ⟨q1, q2, _⟩ := hb.2.2.2.1 w hw
  have := fl_G hb h q1
  unfold lu
  omega
theorem lw_G {D : Dt} (hb : Bw D) (h : Int32) {w : Nat} (hw : w < D.1 2) : lw D h w = 1000000 ∨ lw D h w ≤ 780 := by
  have := lu_G hb h hw
  unfold lw
  split
  · exact this
  · split <;> omega
theorem lw_le {D : Dt} (hb : Bw D) (h : Int32) {w : Nat} (hw : w < D.1 2) : lw D h w ≤ 1000000 := by
  have := lw_G hb h hw
  omega
theorem windowTime_c {D : Dt} {tx : Nat → Int32} {s : St} (hc : RC D tx s) (hb : Bw D) {h : Int32} (h29 : ∀ p, p < D.1 0 → rI s 29 p = nI (fl D h p)) {w : Nat} (hw : w < D.1 2) : f_X7_windowTime (nI w) s = some (nI (lu D h w), s) := by
  have hW := hb.1.2.2.1
  have hP := hb.1.1
  obtain ⟨q1, q2, _⟩ := hb.2.2.2.1 w hw
  have hfl := fl_le D h q1
  unfold f_X7_windowTime
  rw [gi_nI (lt_n hw hW) (by decide), cl_nI (n := w) (by omega), gArr hc (c := 13) (a := 4) (n := 2) (by decide) hw, gArr hc (c := 14) (a := 5) (n := 2) (by decide) hw, gi_nI (lt_n q1 hP) (by decide), gi_nI (lt_n hw hW) (by decide), cl_nI (n := D.2 4 w) (by omega), h29 _ q1, nI_add, show jmin (nI (fl D h (D.2 4 w) + D.2 5 w)) 1000000 = nI (lu D h w) from jmin_nI (b := 1000000) (by omega) (by omega)]
theorem light_l {D : Dt} {tx : Nat → Int32} (hb : Bw D) {h : Int32} : ∀ (d i n : Nat) (s : St), i + d = D.1 2 → d < n → RC D tx s → (∀ p, p < D.1 0 → rI s 29 p = nI (fl D h p)) → (∀ w, w < i → rI s 34 w = nI (lw D h w)) → ∃ u, l_X2_light_10 n (nI i) s = some ((), u) ∧ Kp [34] s u ∧ ∀ w, w < D.1 2 → rI u 34 w = nI (lw D h w) := by
  have hW := hb.1.2.2.1
  intro d
  induction d with
  | zero =>
    intro i n s hi hn hc h29 h34
    obtain ⟨n, rfl⟩ : ∃ m, n = m + 1 := ⟨n - 1, by omega⟩
    refine ⟨s, ?_, Kp.rf, fun w hw => h34 w (by omega)⟩
    show b_X2_light_10 (l_X2_light_10 n) (nI i) s = _
    unfold b_X2_light_10
    rw [hc.1 (8, 2, 2) (by decide), if_pos (nI_le (a := D.1 2) (b := i) (by omega) (by omega))]
  | succ d ih =>
    intro i n s hi hn hc h29 h34
    obtain ⟨n, rfl⟩ : ∃ m, n = m + 1 := ⟨n - 1, by omega⟩
    have hlt : i < D.1 2 := by omega
    have h9 := (hb.2.2.2.1 i hlt).2.2.1
    obtain ⟨u, a1, a2, a3⟩ := ih (i + 1) n (wI s 34 i (nI (lw D h i))) (by omega) (by omega) (hc.kp (ks := [34]) (Kp_wI Kp.rf (by decide) _ _) (by decide)) (fun p hp => by rw [rI_nk (by decide)]; exact h29 p hp) (fun w hw => by
      by_cases e : w = i
      · subst e; exact rI_same _ _ _ _
      · rw [rI_nj e]; exact h34 w (by omega))
    refine ⟨u, ?_, Kp.tr (Kp_wI Kp.rf (by decide) _ _) a2, a3⟩
    show b_X2_light_10 (l_X2_light_10 n) (nI i) s = _
    unfold b_X2_light_10
    rw [hc.1 (8, 2, 2) (by decide), if_neg (nI_ge (a := i) (b := D.1 2) hlt (by omega)), gi_nI (lt_n hlt hW) (by decide), cl_nI (n := i) (by omega), gArr hc (c := 33) (a := 9) (n := 2) (by decide) hlt]
    by_cases c0 : D.2 9 i = 0
    · have e : lw D h i = lu D h i := if_pos c0
      rw [if_pos (by rw [c0]; rfl), windowTime_c hc hb h29 hlt, bd_ok, gi_nI (lt_n hlt hW) (by decide), nI_1, ← e]
      exact a1
    · rw [if_neg (nI_ne0 (by omega) (by omega)), gi_nI (lt_n hlt hW) (by decide)]
      by_cases c1 : D.2 9 i = 1
      · have e : lw D h i = 0 := by unfold lw; rw [if_neg c0, if_pos c1]
        rw [if_pos (by rw [c1]; rfl), gi_nI (lt_n hlt hW) (by decide), nI_1]
        rw [e] at a1
        exact a1
      · have e : lw D h i = 1000000 := by unfold lw; rw [if_neg c0, if_neg c1]
        rw [if_neg (show ¬ nI (D.2 9 i) = (1 : Int32) from fun q => c1 ((nI_eq (a := D.2 9 i) (b := 1) (by omega) (by omega)).mp q)), gi_nI (lt_n hlt hW) (by decide), nI_1]
        rw [e] at a1
        exact a1
theorem light_c {D : Dt} {tx : Nat → Int32} {s : St} (hc : RC D tx s) (hb : Bw D) (h : Int32) : ∃ u, f_X2_light h s = some ((), u) ∧ Kp [29, 30, 31, 34] s u ∧ ∀ w, w < D.1 2 → rI u 34 w = nI (lw D h w) := by
  have hW := hb.1.2.2.1
  obtain ⟨t, a1, a2, a3⟩ := run_c hc hb h
  obtain ⟨u, b1, b2, b3⟩ := light_l (tx := tx) hb (h := h) (D.1 2) 0 FU t (by omega) (FU_lt (by omega)) (hc.kp a2 (by decide)) a3 (fun p hp => absurd hp (Nat.not_lt_zero p))
  refine ⟨u, ?_, (a2.mono (by decide)).tr (b2.mono (by decide)), b3⟩
  unfold f_X2_light
  rw [a1, bd_ok]
  exact b1
theorem litAt30_m {D : Dt} {tx : Nat → Int32} {s : St} (hm : RM D tx s) (hb : Bw D) {h : Int32} (h97 : ∀ p, p < D.1 0 → rI s 97 p = nI (fl D h p)) {w : Nat} (hw : w < D.1 2) : j_X11_litAt_30 (nI w) s = some (nI (lu D h w), s) := by
  have hW := hb.1.2.2.1
  have hP := hb.1.1
  obtain ⟨q1, q2, _⟩ := hb.2.2.2.1 w hw
  have hG := fl_G hb h q1
  unfold j_X11_litAt_30
  rw [gi_nI (lt_n hw hW) (by decide), cl_nI (n := w) (by omega), gArrM hm (c := 88) (a := 4) (n := 2) (by decide) hw, gArrM hm (c := 89) (a := 5) (n := 2) (by decide) hw, gi_nI (lt_n q1 hP) (by decide), cl_nI (n := D.2 4 w) (by omega), h97 _ q1]
  by_cases e : fl D h (D.2 4 w) = 1000000
  · have : lu D h w = 1000000 := by unfold lu; omega
    rw [if_pos (by rw [e]; rfl), this]; rfl
  · have : lu D h w = fl D h (D.2 4 w) + D.2 5 w := by unfold lu; omega
    rw [if_neg (far_ne (by omega)), gi_nI (lt_n hw hW) (by decide), gi_nI (lt_n q1 hP) (by decide), gi_nI (lt_n hw hW) (by decide), nI_add, this]
theorem litAt1_m {D : Dt} {tx : Nat → Int32} {s : St} (hm : RM D tx s) (hb : Bw D) {h : Int32} (h97 : ∀ p, p < D.1 0 → rI s 97 p = nI (fl D h p)) {w : Nat} (hw : w < D.1 2) : f_X11_litAt (nI w) 1 s = some (nI (lw D h w), s) := by
  have hW := hb.1.2.2.1
  have h9 := (hb.2.2.2.1 w hw).2.2.1
  unfold f_X11_litAt
  rw [if_neg (by decide), gi_nI (lt_n hw hW) (by decide), cl_nI (n := w) (by omega), gArrM hm (c := 90) (a := 9) (n := 2) (by decide) hw]
  by_cases c0 : D.2 9 w = 0
  · have e : lw D h w = lu D h w := if_pos c0
    rw [if_pos (by rw [c0]; rfl), e]
    exact litAt30_m hm hb h97 hw
  · rw [if_neg (nI_ne0 (by omega) (by omega)), gi_nI (lt_n hw hW) (by decide)]
    by_cases c1 : D.2 9 w = 1
    · have e : lw D h w = 0 := by unfold lw; rw [if_neg c0, if_pos c1]
      rw [if_pos (by rw [c1]; rfl), e]; rfl
    · have e : lw D h w = 1000000 := by unfold lw; rw [if_neg c0, if_neg c1]
      rw [if_neg (show ¬ nI (D.2 9 w) = (1 : Int32) from fun q => c1 ((nI_eq (a := D.2 9 w) (b := 1) (by omega) (by omega)).mp q)), e]; rfl
theorem litAt0_m {D : Dt} {tx : Nat → Int32} {s : St} (hm : RM D tx s) (hb : Bw D) {h : Int32} (h97 : ∀ p, p < D.1 0 → rI s 97 p = nI (fl D h p)) {w : Nat} (hw : w < D.1 2) : f_X11_litAt (nI w) 0 s = some (nI (lu D h w), s) := by
  unfold f_X11_litAt
  rw [if_pos rfl]
  exact litAt30_m hm hb h97 hw
/-- both sides, for a heap that can be -/
theorem both {D : Dt} {tx : Nat → Int32} {s : St} (h : Rel D tx s) (g : Int32) : ∃ u, f_X2_light g s = some ((), u) ∧ Rel D tx u ∧ (∀ w, w < D.1 2 → rI u 34 w = nI (lw D g w)) ∧ ∃ v, f_X11_findFails g u = some ((), v) ∧ Rel D tx v ∧ ∀ p, p < D.1 0 → rI v 97 p = nI (fl D g p) := by
  obtain ⟨hB, hc, hm⟩ := h
  have hb : Bw D := Bd_w hB
  obtain ⟨u, a1, a2, a3⟩ := light_c hc hb g
  have hm1 : RM D tx u := RM_kpC hm a2 (by decide)
  have hc1 : RC D tx u := hc.kp a2 (by decide)
  obtain ⟨v, b1, b2, b3⟩ := find_m hm1 hb g
  exact ⟨u, a1, ⟨hB, hc1, hm1⟩, a3, v, b1, ⟨hB, RC_kpM hc1 b2 (by decide), hm1.kp b2 (by decide)⟩, b3⟩
theorem call_lit {D : Dt} {tx : Nat → Int32} {s : St} (h : Rel D tx s) (x1 x2 : Int32) : Ok (f_X10_lit x1 x2) (f_X11_lit x1 x2) s := by
  obtain ⟨hB, hc, hm⟩ := id h
  have hb : Bw D := Bd_w hB
  have hW := hb.1.2.2.1
  rcases heap3 D hb x1 with hx | ⟨h0, g, hg, rfl⟩
  · refine rel0 h (r := -1) ?_ ?_
    · unfold f_X10_lit; rw [cHeap0 hc hb hx, bd_ok, if_pos rfl]
    · unfold f_X11_lit; rw [mHeap0 hm hb hx, bd_ok, if_pos rfl]
  · rcases three x2 (n := D.1 2) (by omega) with hx | ⟨w, hw, rfl⟩
    · refine rel0 h (r := -1) ?_ ?_
      · unfold f_X10_lit; rw [cHeap1 hc hb h0 hg, bd_ok, if_neg (by decide), cWin0 hc hx, bd_ok, if_pos rfl]
      · unfold f_X11_lit; rw [mHeap1 hm hb h0 hg, bd_ok, if_neg (by decide), mWin0 hm hB hx, bd_ok, if_pos rfl]
    · obtain ⟨u, a1, hu, a3, v, b1, hv, b3⟩ := both h (nI g)
      have hl := lw_le hb (nI g) hw
      refine ⟨orN (lw D (nI g) w), u, v, D, tx, ?_, ?_, hv⟩
      · unfold f_X10_lit
        rw [cHeap1 hc hb h0 hg, bd_ok, if_neg (by decide), cWin1 hc hB hw, bd_ok, if_neg (by decide), a1, bd_ok, gi_nI (lt_n hw hW) (by decide), cl_nI (n := w) (by omega), a3 w hw, orNone_c (by omega), bd_ok]
      · unfold f_X11_lit
        rw [mHeap1 hu.2.2 hb h0 hg, bd_ok, if_neg (by decide), mWin1 hu.2.2 hB hw, bd_ok, if_neg (by decide), b1, bd_ok, litAt1_m hv.2.2 hb b3 hw, bd_ok]
        unfold orN
        by_cases e : lw D (nI g) w < 1000000
        · rw [if_neg (far_ne e), if_pos e]
        · rw [if_pos (by rw [show lw D (nI g) w = 1000000 by omega]; rfl), if_neg e]
/-! ===== the first to come out, from second b on ===== -/
def ff (D : Dt) (h : Int32) (b : Nat) : Nat → Nat × Nat
  | 0 => (1000000, 0)
  | w + 1 => if D.2 9 w = 0 ∧ b ≤ lw D h w ∧ lw D h w < (ff D h b w).1 then (lw D h w, w + 1) else ff D h b w
theorem ff_in {D : Dt} {h : Int32} {b : Nat} : ∀ w, ((ff D h b w).2 = 0 → (ff D h b w).1 = 1000000) ∧ ((ff D h b w).2 ≠ 0 → (ff D h b w).2 ≤ w ∧ D.2 9 ((ff D h b w).2 - 1) = 0 ∧ b ≤ (ff D h b w).1 ∧ (ff D h b w).1 < 1000000 ∧ (ff D h b w).1 = lw D h ((ff D h b w).2 - 1)) ∧ (ff D h b w).1 ≤ 1000000
  | 0 => ⟨fun _ => rfl, fun q => absurd rfl q, Nat.le_refl _⟩
  | w + 1 => by
    obtain ⟨i1, i2, i3⟩ := ff_in (D := D) (h := h) (b := b) w
    by_cases c : D.2 9 w = 0 ∧ b ≤ lw D h w ∧ lw D h w < (ff D h b w).1
    · have e : ff D h b (w + 1) = (lw D h w, w + 1) := if_pos c
      rw [e]
      refine ⟨fun q => absurd q (Nat.succ_ne_zero w), fun _ => ⟨Nat.le_refl _, c.1, c.2.1, ?_, rfl⟩, ?_⟩
      · show lw D h w < 1000000
        omega
      · show lw D h w ≤ 1000000
        omega
    · have e : ff D h b (w + 1) = ff D h b w := if_neg c
      rw [e]
      refine ⟨i1, fun q => ?_, i3⟩
      have := i2 q
      exact ⟨by omega, this.2⟩
theorem firstOut_l {D : Dt} {tx : Nat → Int32} {s : St} (hc : RC D tx s) (hb : Bw D) {h : Int32} (h34 : ∀ w, w < D.1 2 → rI s 34 w = nI (lw D h w)) : ∀ (d i n : Nat), i + d = D.1 2 → d < n → l_X2_firstOut_7 n (nI (ff D h 0 i).2 - 1) (nI (ff D h 0 i).1) (nI i) s = some (nI (ff D h 0 (D.1 2)).2 - 1, s) := by
  have hW := hb.1.2.2.1
  intro d
  induction d with
  | zero =>
    intro i n hi hn
    obtain ⟨n, rfl⟩ : ∃ m, n = m + 1 := ⟨n - 1, by omega⟩
    have e : i = D.1 2 := by omega
    subst e
    show b_X2_firstOut_7 (l_X2_firstOut_7 n) _ _ (nI (D.1 2)) s = _
    unfold b_X2_firstOut_7
    rw [hc.1 (8, 2, 2) (by decide), if_pos (nI_le (Nat.le_refl (D.1 2)) (by omega))]
  | succ d ih =>
    intro i n hi hn
    obtain ⟨n, rfl⟩ : ∃ m, n = m + 1 := ⟨n - 1, by omega⟩
    have hlt : i < D.1 2 := by omega
    have hnext := ih (i + 1) n (by omega) (by omega)
    have h9 := (hb.2.2.2.1 i hlt).2.2.1
    have hl := lw_le hb h hlt
    have hi3 := (ff_in (D := D) (h := h) (b := 0) i).2.2
    show b_X2_firstOut_7 (l_X2_firstOut_7 n) _ _ (nI i) s = _
    unfold b_X2_firstOut_7
    rw [hc.1 (8, 2, 2) (by decide), if_neg (nI_ge (a := i) (b := D.1 2) hlt (by omega)), gi_nI (lt_n hlt hW) (by decide), cl_nI (n := i) (by omega), gArr hc (c := 33) (a := 9) (n := 2) (by decide) hlt, h34 i hlt]
    by_cases c0 : D.2 9 i = 0
    · rw [if_pos (by rw [c0]; rfl), gi_nI (lt_n hlt hW) (by decide)]
      by_cases c1 : lw D h i < (ff D h 0 i).1
      · have e : ff D h 0 (i + 1) = (lw D h i, i + 1) := if_pos ⟨c0, by omega, c1⟩
        rw [if_neg (nI_ge c1 (by omega)), gi_nI (lt_n hlt hW) (by decide), nI_1, ← hnext, e]
        show _ = l_X2_firstOut_7 n (nI (i + 1) - 1) (nI (lw D h i)) (nI (i + 1)) s
        rw [nI_pred]
      · have e : ff D h 0 (i + 1) = ff D h 0 i := if_neg (fun q => c1 q.2.2)
        rw [if_pos (nI_le (by omega) (by omega)), nI_1, ← hnext, e]
    · have e : ff D h 0 (i + 1) = ff D h 0 i := if_neg (fun q => c0 q.1)
      rw [if_neg (nI_ne0 (by omega) (by omega)), nI_1, ← hnext, e]
theorem nextSound_l {D : Dt} {tx : Nat → Int32} {s : St} (hc : RC D tx s) (hb : Bw D) {h : Int32} (h34 : ∀ w, w < D.1 2 → rI s 34 w = nI (lw D h w)) {b : Nat} (hbb : b ≤ 2000000) : ∀ (d i n : Nat), i + d = D.1 2 → d < n → l_X2_nextSound_5 n (nI b) (nI (ff D h b i).1) (nI i) s = some (nI (ff D h b (D.1 2)).1, s) := by
  have hW := hb.1.2.2.1
  intro d
  induction d with
  | zero =>
    intro i n hi hn
    obtain ⟨n, rfl⟩ : ∃ m, n = m + 1 := ⟨n - 1, by omega⟩
    have e : i = D.1 2 := by omega
    subst e
    show b_X2_nextSound_5 (l_X2_nextSound_5 n) _ _ (nI (D.1 2)) s = _
    unfold b_X2_nextSound_5
    rw [hc.1 (8, 2, 2) (by decide), if_pos (nI_le (Nat.le_refl (D.1 2)) (by omega))]
  | succ d ih =>
    intro i n hi hn
    obtain ⟨n, rfl⟩ : ∃ m, n = m + 1 := ⟨n - 1, by omega⟩
    have hlt : i < D.1 2 := by omega
    have hnext := ih (i + 1) n (by omega) (by omega)
    have h9 := (hb.2.2.2.1 i hlt).2.2.1
    have hl := lw_le hb h hlt
    have hi3 := (ff_in (D := D) (h := h) (b := b) i).2.2
    show b_X2_nextSound_5 (l_X2_nextSound_5 n) _ _ (nI i) s = _
    unfold b_X2_nextSound_5
    rw [hc.1 (8, 2, 2) (by decide), if_neg (nI_ge (a := i) (b := D.1 2) hlt (by omega)), gi_nI (lt_n hlt hW) (by decide), cl_nI (n := i) (by omega), gArr hc (c := 33) (a := 9) (n := 2) (by decide) hlt, h34 i hlt]
    by_cases c0 : D.2 9 i = 0
    · rw [if_pos (by rw [c0]; rfl), gi_nI (lt_n hlt hW) (by decide)]
      by_cases c2 : b ≤ lw D h i
      · rw [if_neg (nI_nlt c2 (by omega)), gi_nI (lt_n hlt hW) (by decide), jmin_nI (by omega) (by omega), nI_1, ← hnext]
        by_cases c1 : lw D h i < (ff D h b i).1
        · have e : ff D h b (i + 1) = (lw D h i, i + 1) := if_pos ⟨c0, c2, c1⟩
          rw [e, Nat.min_eq_right (by omega)]
        · have e : ff D h b (i + 1) = ff D h b i := if_neg (fun q => c1 q.2.2)
          rw [e, Nat.min_eq_left (by omega)]
      · have e : ff D h b (i + 1) = ff D h b i := if_neg (fun q => c2 q.2.1)
        rw [if_pos (nI_lt (by omega) (by omega)), nI_1, ← hnext, e]
    · have e : ff D h b (i + 1) = ff D h b i := if_neg (fun q => c0 q.1)
      rw [if_neg (nI_ne0 (by omega) (by omega)), nI_1, ← hnext, e]
theorem ne_m1 {n : Nat} (h : n < 2 ^ 31) : ¬ nI n = -1 := fun q => by
  rw [fa_eq, nI_toInt h] at q
  have : (-1 : Int32).toInt = -1 := by decide
  omega
theorem firstFrom_l {D : Dt} {tx : Nat → Int32} {s : St} (hm : RM D tx s) (hb : Bw D) {h : Int32} (h97 : ∀ p, p < D.1 0 → rI s 97 p = nI (fl D h p)) {b : Nat} (hbb : b ≤ 2000000) : ∀ (d i n : Nat), i + d = D.1 2 → d < n → l_X11_firstFrom_4 n (nI b) (nI (ff D h b i).2 - 1) (nI i) s = some (nI (ff D h b (D.1 2)).2 - 1, s) := by
  have hW := hb.1.2.2.1
  intro d
  induction d with
  | zero =>
    intro i n hi hn
    obtain ⟨n, rfl⟩ : ∃ m, n = m + 1 := ⟨n - 1, by omega⟩
    have e : i = D.1 2 := by omega
    subst e
    show b_X11_firstFrom_4 (l_X11_firstFrom_4 n) _ _ (nI (D.1 2)) s = _
    unfold b_X11_firstFrom_4
    rw [hm.1 (74, 24, 2) (by decide), if_pos (nI_le (Nat.le_refl (D.1 2)) (by omega))]
  | succ d ih =>
    intro i n hi hn
    obtain ⟨n, rfl⟩ : ∃ m, n = m + 1 := ⟨n - 1, by omega⟩
    have hlt : i < D.1 2 := by omega
    have hnext := ih (i + 1) n (by omega) (by omega)
    have h9 := (hb.2.2.2.1 i hlt).2.2.1
    have hl := lw_le hb h hlt
    obtain ⟨i1, i2, i3⟩ := ff_in (D := D) (h := h) (b := b) i
    show b_X11_firstFrom_4 (l_X11_firstFrom_4 n) _ _ (nI i) s = _
    unfold b_X11_firstFrom_4
    rw [hm.1 (74, 24, 2) (by decide), if_neg (nI_ge (a := i) (b := D.1 2) hlt (by omega)), litAt1_m hm hb h97 hlt, bd_ok, gi_nI (lt_n hlt hW) (by decide), cl_nI (n := i) (by omega), gArrM hm (c := 90) (a := 9) (n := 2) (by decide) hlt]
    have stay : ff D h b (i + 1) = ff D h b i → l_X11_firstFrom_4 n (nI b) (nI (ff D h b i).2 - 1) (nI i + 1) s = some (nI (ff D h b (D.1 2)).2 - 1, s) := fun e => by
      rw [nI_1, ← hnext, e]
    have take : ff D h b (i + 1) = (lw D h i, i + 1) → l_X11_firstFrom_4 n (nI b) (nI i) (nI i + 1) s = some (nI (ff D h b (D.1 2)).2 - 1, s) := fun e => by
      rw [nI_1, ← hnext, e]
      show _ = l_X11_firstFrom_4 n (nI b) (nI (i + 1) - 1) (nI (i + 1)) s
      rw [nI_pred]
    by_cases c0 : D.2 9 i = 0
    · rw [if_pos (by rw [c0]; rfl)]
      by_cases c3 : lw D h i = 1000000
      · rw [if_pos (by rw [c3]; rfl)]
        exact stay (if_neg (fun q => by omega))
      · rw [if_neg (far_ne (by omega))]
        by_cases c2 : b ≤ lw D h i
        · rw [if_pos (nI_le c2 (by omega))]
          by_cases z : (ff D h b i).2 = 0
          · have e : ff D h b (i + 1) = (lw D h i, i + 1) := if_pos ⟨c0, c2, by rw [i1 z]; omega⟩
            rw [if_pos (by rw [z]; decide)]
            exact take e
          · have i2z := i2 z
            have hp : nI (ff D h b i).2 - 1 = nI ((ff D h b i).2 - 1) := pk_sub (a := (ff D h b i).2) (b := 1) (by omega)
            rw [if_neg (by rw [hp]; exact ne_m1 (by omega)), hp, litAt1_m hm hb h97 (by omega), bd_ok, ← i2z.2.2.2.2, ← hp]
            by_cases c1 : lw D h i < (ff D h b i).1
            · rw [if_neg (nI_ge c1 (by omega))]
              exact take (if_pos ⟨c0, c2, c1⟩)
            · rw [if_pos (nI_le (by omega) (by omega))]
              exact stay (if_neg (fun q => c1 q.2.2))
        · rw [if_neg (nI_ge (by omega) (by omega))]
          exact stay (if_neg (fun q => c2 q.2.1))
    · rw [if_neg (nI_ne0 (by omega) (by omega))]
      exact stay (if_neg (fun q => c0 q.1))
theorem firstOut_c {D : Dt} {tx : Nat → Int32} {s : St} (hc : RC D tx s) (hb : Bw D) {h : Int32} (h34 : ∀ w, w < D.1 2 → rI s 34 w = nI (lw D h w)) : f_X2_firstOut s = some (nI (ff D h 0 (D.1 2)).2 - 1, s) := by
  have hW := hb.1.2.2.1
  exact firstOut_l hc hb h34 (D.1 2) 0 FU (by omega) (FU_lt (by omega))
theorem nextSound_c {D : Dt} {tx : Nat → Int32} {s : St} (hc : RC D tx s) (hb : Bw D) {h : Int32} (h34 : ∀ w, w < D.1 2 → rI s 34 w = nI (lw D h w)) {b : Nat} (hbb : b ≤ 2000000) : f_X2_nextSound (nI b) s = some (nI (ff D h b (D.1 2)).1, s) := by
  have hW := hb.1.2.2.1
  exact nextSound_l hc hb h34 hbb (D.1 2) 0 FU (by omega) (FU_lt (by omega))
theorem firstFrom_m {D : Dt} {tx : Nat → Int32} {s : St} (hm : RM D tx s) (hb : Bw D) {h : Int32} (h97 : ∀ p, p < D.1 0 → rI s 97 p = nI (fl D h p)) {b : Nat} (hbb : b ≤ 2000000) : f_X11_firstFrom (nI b) s = some (nI (ff D h b (D.1 2)).2 - 1, s) := by
  have hW := hb.1.2.2.1
  exact firstFrom_l hm hb h97 hbb (D.1 2) 0 FU (by omega) (FU_lt (by omega))
theorem two (x : Int32) : (x < 0 ∨ 1 < x) ∨ x = 0 ∨ x = 1 := by
  rcases three x (n := 2) (by omega) with hx | ⟨v, hv, rfl⟩
  · left
    exact hx.imp id (fun q => by rw [fa_le] at q; rw [fa_lt]; have e1 : (nI 2).toInt = 2 := (by decide); have e2 : (1 : Int32).toInt = 1 := (by decide); omega)
  · right
    rcases (show v = 0 ∨ v = 1 by omega) with e | e <;> rw [e]
    · exact Or.inl rfl
    · exact Or.inr rfl
theorem call_first {D : Dt} {tx : Nat → Int32} {s : St} (h : Rel D tx s) (x1 x2 : Int32) : Ok (f_X10_first x1 x2) (f_X11_first x1 x2) s := by
  obtain ⟨hB, hc, hm⟩ := id h
  have hb : Bw D := Bd_w hB
  have hW := hb.1.2.2.1
  have hP := hb.1.1
  rcases heap3 D hb x1 with hx | ⟨h0, g, hg, rfl⟩
  · refine rel0 h (r := -1) ?_ ?_
    · unfold f_X10_first; rw [cHeap0 hc hb hx, bd_ok, if_pos rfl]
    · unfold f_X11_first; rw [mHeap0 hm hb hx, bd_ok, if_pos rfl]
  · rcases two x2 with hx | hx
    · refine rel0 h (r := -1) ?_ ?_
      · unfold f_X10_first
        rw [cHeap1 hc hb h0 hg, bd_ok, if_neg (by decide)]
        by_cases n0 : x2 < 0
        · rw [if_pos n0]
        · rw [if_neg n0, if_neg (fa_of_lt (hx.resolve_left n0)).2.1]
      · unfold f_X11_first
        rw [mHeap1 hm hb h0 hg, bd_ok, if_neg (by decide), inM0 hx, bd_ok, if_pos rfl]
    · obtain ⟨u, a1, hu, a3, v, b1, hv, b3⟩ := both h (nI g)
      obtain ⟨i1, i2, i3⟩ := ff_in (D := D) (h := nI g) (b := 0) (D.1 2)
      have hlo : ¬ x2 < 0 := by rcases hx with e | e <;> rw [e] <;> decide
      have hhi : x2 ≤ 1 := by rcases hx with e | e <;> rw [e] <;> decide
      have hhi2 : ¬ (1 : Int32) < x2 := by rcases hx with e | e <;> rw [e] <;> decide
      have hm0 : f_X11_firstFrom 0 v = some (nI (ff D (nI g) 0 (D.1 2)).2 - 1, v) := firstFrom_m hv.2.2 hb b3 (b := 0) (by omega)
      by_cases z : (ff D (nI g) 0 (D.1 2)).2 = 0
      · refine ⟨-1, u, v, D, tx, ?_, ?_, hv⟩
        · unfold f_X10_first
          rw [cHeap1 hc hb h0 hg, bd_ok, if_neg (by decide), if_neg hlo, if_pos hhi, a1, bd_ok, firstOut_c hu.2.1 hb a3, bd_ok, z, nI_m1, if_pos rfl]
        · unfold f_X11_first
          rw [mHeap1 hu.2.2 hb h0 hg, bd_ok, if_neg (by decide), inM1 hlo hhi2, bd_ok, if_neg (by decide), b1, bd_ok, hm0, bd_ok, z, nI_m1, if_pos rfl]
      · have i2z := i2 z
        have hp : nI (ff D (nI g) 0 (D.1 2)).2 - 1 = nI ((ff D (nI g) 0 (D.1 2)).2 - 1) := pk_sub (a := (ff D (nI g) 0 (D.1 2)).2) (b := 1) (by omega)
        generalize hwn : (ff D (nI g) 0 (D.1 2)).2 - 1 = w at *
        have hw : w < D.1 2 := by omega
        have q1 := (hb.2.2.2.1 w hw).1
        refine ⟨if x2 = 0 then nI w else if bt (nI g) (D.2 4 w) then 0 else 1, u, v, D, tx, ?_, ?_, hv⟩
        · unfold f_X10_first
          rw [cHeap1 hc hb h0 hg, bd_ok, if_neg (by decide), if_neg hlo, if_pos hhi, a1, bd_ok, firstOut_c hu.2.1 hb a3, bd_ok, hp, if_neg (ne_m1 (by omega))]
          by_cases e : x2 = 0
          · rw [if_pos e, if_pos e]
          · rw [if_neg e, if_neg e, gi_nI (lt_n hw hW) (by decide), cl_nI (n := w) (by omega), gArr hu.2.1 (c := 13) (a := 4) (n := 2) (by decide) hw, hasBit_c _ (by omega), bd_ok]
            by_cases c : bt (nI g) (D.2 4 w) = true
            · rw [if_pos c, if_neg (by decide), if_pos c]
            · rw [if_neg c, if_pos rfl, if_neg c]
        · unfold f_X11_first
          rw [mHeap1 hu.2.2 hb h0 hg, bd_ok, if_neg (by decide), inM1 hlo hhi2, bd_ok, if_neg (by decide), b1, bd_ok, hm0, bd_ok, hp, if_neg (ne_m1 (by omega))]
          by_cases e : x2 = 0
          · rw [if_pos e, if_pos e]
          · rw [if_neg e, if_neg e, gi_nI (lt_n hw hW) (by decide), cl_nI (n := w) (by omega), gArrM hv.2.2 (c := 88) (a := 4) (n := 2) (by decide) hw]
            by_cases c : bt (nI g) (D.2 4 w) = true
            · rw [if_neg (fun q => by rw [b_at _ (by omega), c] at q; cases q), if_pos c]
            · rw [if_pos ((b_at _ (by omega)).mpr (by simpa using c)), if_neg c]
