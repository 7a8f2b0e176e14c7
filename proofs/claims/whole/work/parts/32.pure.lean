/-! ===== harm ===== -/
def wh (D : Dt) (p : Nat) : Int32 := lb D ((1 : Int32) <<< (nI p &&& 31)) (D.1 6)
def lostN (D : Dt) (z : Nat → Bool) : Nat → Nat := fb_ct (fun p => decide (¬ wh D p = 0 ∧ shI D (wh D p) z = 0))
def alB (D : Dt) (z : Nat → Bool) (i j : Nat) : Bool := decide (¬ wh D i = wh D j ∧ shI D (wh D i) z = shI D (wh D j) z)
def alN (D : Dt) (z : Nat → Bool) : Nat → Nat := fb_sm (fun i => fb_ct (alB D z i) i)
theorem load_l {D : Dt} {tx : Nat → Int32} (hb : Bw D) : ∀ (d i n : Nat) (s : St), i + d = D.1 0 → d < n → RC D tx s → (∀ p, p < i → rI s 43 p = wh D p) → ∃ u, l_X6_load_2 n (nI i) s = some ((), u) ∧ Kp [29, 30, 31, 34, 43] s u ∧ ∀ p, p < D.1 0 → rI u 43 p = wh D p := by
  have hP := hb.1.1
  have hT := hb.1.2.2.2.2.2.2.1.2
  intro d
  induction d with
  | zero =>
    intro i n s hi hn hR h43
    obtain ⟨n, rfl⟩ : ∃ m, n = m + 1 := ⟨n - 1, by omega⟩
    refine ⟨s, ?_, Kp.rf, fun p hp => h43 p (by omega)⟩
    show b_X6_load_2 (l_X6_load_2 n) (nI i) s = _
    unfold b_X6_load_2
    rw [hR.1 (8, 0, 0) (by decide), if_pos (nI_le (a := D.1 0) (b := i) (by omega) (by omega))]
  | succ d ih =>
    intro i n s hi hn hR h43
    obtain ⟨n, rfl⟩ : ∃ m, n = m + 1 := ⟨n - 1, by omega⟩
    have hlt : i < D.1 0 := by omega
    obtain ⟨u, a1, a2, a3⟩ := light_c hR hb ((1 : Int32) <<< (nI i &&& 31))
    have hR1 : RC D tx u := hR.kp a2 (by decide)
    obtain ⟨w, b1, b2, b3⟩ := ih (i + 1) n (wI u 43 i (wh D i)) (by omega) (by omega) (hR1.kp (ks := [43]) (Kp_wI Kp.rf (by decide) _ _) (by decide)) (fun p hp => by
      by_cases e : p = i
      · subst e; exact rI_same _ _ _ _
      · rw [rI_nj e, Kp_rI a2 (by decide)]; exact h43 p (by omega))
    refine ⟨w, ?_, (a2.mono (by decide)).tr (Kp.tr (Kp_wI Kp.rf (by decide) _ _) b2), b3⟩
    show b_X6_load_2 (l_X6_load_2 n) (nI i) s = _
    unfold b_X6_load_2
    rw [hR.1 (8, 0, 0) (by decide), if_neg (nI_ge (a := i) (b := D.1 0) hlt (by omega)), a1, bd_ok, hR1.1 (42, 4, 6) (by decide), litAt_c hR1 hb a3 (v := D.1 6) (by omega), bd_ok, gi_nI (lt_n hlt hP) (by decide), cl_nI (n := i) (by omega), nI_1]
    exact b1
theorem load_c {D : Dt} {tx : Nat → Int32} {s : St} (hR : RC D tx s) (hb : Bw D) : ∃ u, f_X6_load s = some ((), u) ∧ Kp [29, 30, 31, 34, 43] s u ∧ ∀ p, p < D.1 0 → rI u 43 p = wh D p := by
  have hP := hb.1.1
  exact load_l hb (D.1 0) 0 FU s (by omega) (FU_lt (by omega)) hR (fun p hp => absurd hp (Nat.not_lt_zero p))
theorem show_l {D : Dt} {tx : Nat → Int32} (hb : Bw D) (y : Int32) {z : Nat → Bool} (hz : ∀ r, r < D.1 3 → bt y r = z r) : ∀ (d i n : Nat) (s : St), i + d = D.1 0 → d < n → RC D tx s → (∀ p, p < D.1 0 → rI s 43 p = wh D p) → (∀ p, p < i → rI s 44 p = shI D (wh D p) z) → ∃ u, l_X6_show_2 n y (nI i) s = some ((), u) ∧ Kp [44] s u ∧ ∀ p, p < D.1 0 → rI u 44 p = shI D (wh D p) z := by
  have hP := hb.1.1
  intro d
  induction d with
  | zero =>
    intro i n s hi hn hR h43 h44
    obtain ⟨n, rfl⟩ : ∃ m, n = m + 1 := ⟨n - 1, by omega⟩
    refine ⟨s, ?_, Kp.rf, fun p hp => h44 p (by omega)⟩
    show b_X6_show_2 (l_X6_show_2 n) y (nI i) s = _
    unfold b_X6_show_2
    rw [hR.1 (8, 0, 0) (by decide), if_pos (nI_le (a := D.1 0) (b := i) (by omega) (by omega))]
  | succ d ih =>
    intro i n s hi hn hR h43 h44
    obtain ⟨n, rfl⟩ : ∃ m, n = m + 1 := ⟨n - 1, by omega⟩
    have hlt : i < D.1 0 := by omega
    obtain ⟨w, b1, b2, b3⟩ := ih (i + 1) n (wI s 44 i (shI D (wh D i) z)) (by omega) (by omega) (hR.kp (ks := [44]) (Kp_wI Kp.rf (by decide) _ _) (by decide)) (fun p hp => by rw [rI_nk (by decide)]; exact h43 p hp) (fun p hp => by
      by_cases e : p = i
      · subst e; exact rI_same _ _ _ _
      · rw [rI_nj e]; exact h44 p (by omega))
    refine ⟨w, ?_, Kp.tr (Kp_wI Kp.rf (by decide) _ _) b2, b3⟩
    show b_X6_show_2 (l_X6_show_2 n) y (nI i) s = _
    unfold b_X6_show_2
    rw [hR.1 (8, 0, 0) (by decide), if_neg (nI_ge (a := i) (b := D.1 0) hlt (by omega)), gi_nI (lt_n hlt hP) (by decide), cl_nI (n := i) (by omega), h43 i hlt, shownOf_c hR hb _ _ hz, bd_ok, gi_nI (lt_n hlt hP) (by decide), nI_1]
    exact b1
theorem show_c {D : Dt} {tx : Nat → Int32} {s : St} (hR : RC D tx s) (hb : Bw D) (y : Int32) {z : Nat → Bool} (hz : ∀ r, r < D.1 3 → bt y r = z r) (h43 : ∀ p, p < D.1 0 → rI s 43 p = wh D p) : ∃ u, f_X6_show y s = some ((), u) ∧ Kp [44] s u ∧ ∀ p, p < D.1 0 → rI u 44 p = shI D (wh D p) z := by
  have hP := hb.1.1
  exact show_l hb y hz (D.1 0) 0 FU s (by omega) (FU_lt (by omega)) hR h43 (fun p hp => absurd hp (Nat.not_lt_zero p))
theorem countLost_l {D : Dt} {tx : Nat → Int32} {s : St} (hR : RC D tx s) (hb : Bw D) {z : Nat → Bool} (h43 : ∀ p, p < D.1 0 → rI s 43 p = wh D p) (h44 : ∀ p, p < D.1 0 → rI s 44 p = shI D (wh D p) z) : ∀ (d i n : Nat), i + d = D.1 0 → d < n → l_X6_countLost_4 n (nI (lostN D z i)) (nI i) s = some (nI (lostN D z (D.1 0)), s) := by
  have hP := hb.1.1
  intro d
  induction d with
  | zero =>
    intro i n hi hn
    obtain ⟨n, rfl⟩ : ∃ m, n = m + 1 := ⟨n - 1, by omega⟩
    have e : i = D.1 0 := by omega
    subst e
    show b_X6_countLost_4 (l_X6_countLost_4 n) _ (nI (D.1 0)) s = _
    unfold b_X6_countLost_4
    rw [hR.1 (8, 0, 0) (by decide), if_pos (nI_le (Nat.le_refl (D.1 0)) (by omega))]
  | succ d ih =>
    intro i n hi hn
    obtain ⟨n, rfl⟩ : ∃ m, n = m + 1 := ⟨n - 1, by omega⟩
    have hlt : i < D.1 0 := by omega
    have hnext := ih (i + 1) n (by omega) (by omega)
    have hsu : lostN D z (i + 1) = lostN D z i + (if decide (¬ wh D i = 0 ∧ shI D (wh D i) z = 0) then 1 else 0) := rfl
    show b_X6_countLost_4 (l_X6_countLost_4 n) _ (nI i) s = _
    unfold b_X6_countLost_4
    rw [hR.1 (8, 0, 0) (by decide), if_neg (nI_ge (a := i) (b := D.1 0) hlt (by omega)), gi_nI (lt_n hlt hP) (by decide), cl_nI (n := i) (by omega), h43 i hlt, h44 i hlt]
    by_cases c : wh D i = 0
    · rw [if_pos c, nI_1, ← hnext, hsu, if_neg (by simp [c])]
      rfl
    · rw [if_neg c, gi_nI (lt_n hlt hP) (by decide)]
      by_cases c2 : shI D (wh D i) z = 0
      · rw [if_pos c2, nI_1, nI_1, ← hnext, hsu, if_pos (by simp [c, c2])]
      · rw [if_neg c2, nI_1, ← hnext, hsu, if_neg (by simp [c2])]
        rfl
theorem countLost_c {D : Dt} {tx : Nat → Int32} {s : St} (hR : RC D tx s) (hb : Bw D) {z : Nat → Bool} (h43 : ∀ p, p < D.1 0 → rI s 43 p = wh D p) (h44 : ∀ p, p < D.1 0 → rI s 44 p = shI D (wh D p) z) : f_X6_countLost s = some (nI (lostN D z (D.1 0)), s) := by
  have hP := hb.1.1
  exact countLost_l hR hb h43 h44 (D.1 0) 0 FU (by omega) (FU_lt (by omega))
theorem alike17_l {D : Dt} {s : St} {z : Nat → Bool} (h43 : ∀ p, p < D.1 0 → rI s 43 p = wh D p) (h44 : ∀ p, p < D.1 0 → rI s 44 p = shI D (wh D p) z) (hP : D.1 0 ≤ 12) (rec : Int32 → Int32 → St → Option (Int32 × St)) {i : Nat} (hi : i < D.1 0) {c : Nat} : ∀ (d j n : Nat), j + d = i → d < n → l_X6_countAlike_17 rec n (nI (c + fb_ct (alB D z i) j)) (nI i) (nI j) s = rec (nI (c + fb_ct (alB D z i) i)) (nI (i + 1)) s := by
  intro d
  induction d with
  | zero =>
    intro j n hj hn
    obtain ⟨n, rfl⟩ : ∃ m, n = m + 1 := ⟨n - 1, by omega⟩
    have e : j = i := by omega
    subst e
    show b_X6_countAlike_17 rec (l_X6_countAlike_17 rec n) _ (nI j) (nI j) s = _
    unfold b_X6_countAlike_17
    rw [if_pos (nI_le (Nat.le_refl j) (by omega)), nI_1]
  | succ d ih =>
    intro j n hj hn
    obtain ⟨n, rfl⟩ : ∃ m, n = m + 1 := ⟨n - 1, by omega⟩
    have hnext := ih (j + 1) n (by omega) (by omega)
    have hsu : fb_ct (alB D z i) (j + 1) = fb_ct (alB D z i) j + (if alB D z i j then 1 else 0) := rfl
    show b_X6_countAlike_17 rec (l_X6_countAlike_17 rec n) _ (nI i) (nI j) s = _
    unfold b_X6_countAlike_17
    rw [if_neg (nI_ge (a := j) (b := i) (by omega) (by omega)), gi_nI (by omega) (by decide), gi_nI (by omega) (by decide), cl_nI (n := i) (by omega), cl_nI (n := j) (by omega), h43 i hi, h43 j (by omega), h44 i hi, h44 j (by omega)]
    by_cases c1 : wh D i = wh D j
    · rw [if_pos c1, nI_1, ← hnext, hsu, if_neg (by simp [alB, c1])]
      rfl
    · rw [if_neg c1, gi_nI (by omega) (by decide), gi_nI (by omega) (by decide)]
      by_cases c2 : shI D (wh D i) z = shI D (wh D j) z
      · rw [if_pos c2, nI_1, nI_1, ← hnext, hsu, if_pos (by simp [alB, c1, c2])]
        rfl
      · rw [if_neg c2, nI_1, ← hnext, hsu, if_neg (by simp [alB, c2])]
        rfl
theorem countAlike_l {D : Dt} {tx : Nat → Int32} {s : St} (hR : RC D tx s) (hb : Bw D) {z : Nat → Bool} (h43 : ∀ p, p < D.1 0 → rI s 43 p = wh D p) (h44 : ∀ p, p < D.1 0 → rI s 44 p = shI D (wh D p) z) : ∀ (d i n : Nat), i + d = D.1 0 → d < n → l_X6_countAlike_4 n (nI (alN D z i)) (nI i) s = some (nI (alN D z (D.1 0)), s) := by
  have hP := hb.1.1
  intro d
  induction d with
  | zero =>
    intro i n hi hn
    obtain ⟨n, rfl⟩ : ∃ m, n = m + 1 := ⟨n - 1, by omega⟩
    have e : i = D.1 0 := by omega
    subst e
    show b_X6_countAlike_4 (l_X6_countAlike_4 n) _ (nI (D.1 0)) s = _
    unfold b_X6_countAlike_4
    rw [hR.1 (8, 0, 0) (by decide), if_pos (nI_le (Nat.le_refl (D.1 0)) (by omega))]
  | succ d ih =>
    intro i n hi hn
    obtain ⟨n, rfl⟩ : ∃ m, n = m + 1 := ⟨n - 1, by omega⟩
    have hlt : i < D.1 0 := by omega
    have hnext := ih (i + 1) n (by omega) (by omega)
    show b_X6_countAlike_4 (l_X6_countAlike_4 n) _ (nI i) s = _
    unfold b_X6_countAlike_4
    rw [hR.1 (8, 0, 0) (by decide), if_neg (nI_ge (a := i) (b := D.1 0) hlt (by omega))]
    exact Eq.trans (alike17_l h43 h44 hP (l_X6_countAlike_4 n) hlt (c := alN D z i) i 0 FU (by omega) (FU_lt (by omega))) hnext
theorem countAlike_c {D : Dt} {tx : Nat → Int32} {s : St} (hR : RC D tx s) (hb : Bw D) {z : Nat → Bool} (h43 : ∀ p, p < D.1 0 → rI s 43 p = wh D p) (h44 : ∀ p, p < D.1 0 → rI s 44 p = shI D (wh D p) z) : f_X6_countAlike s = some (nI (alN D z (D.1 0)), s) := by
  have hP := hb.1.1
  exact countAlike_l hR hb h43 h44 (D.1 0) 0 FU (by omega) (FU_lt (by omega))
/-! the reference -/
theorem signs_l {D : Dt} {tx : Nat → Int32} (hb : Bw D) : ∀ (d i n : Nat) (s : St), i + d = D.1 0 → d < n → RM D tx s → (∀ p, p < i → rI s 99 p = wh D p) → ∃ u, l_X11_findSigns_2 n (nI i) s = some ((), u) ∧ Kp [97, 99] s u ∧ ∀ p, p < D.1 0 → rI u 99 p = wh D p := by
  have hP := hb.1.1
  have hT := hb.1.2.2.2.2.2.2.1.2
  intro d
  induction d with
  | zero =>
    intro i n s hi hn hS h99
    obtain ⟨n, rfl⟩ : ∃ m, n = m + 1 := ⟨n - 1, by omega⟩
    refine ⟨s, ?_, Kp.rf, fun p hp => h99 p (by omega)⟩
    show b_X11_findSigns_2 (l_X11_findSigns_2 n) (nI i) s = _
    unfold b_X11_findSigns_2
    rw [hS.1 (74, 18, 0) (by decide), if_pos (nI_le (a := D.1 0) (b := i) (by omega) (by omega))]
  | succ d ih =>
    intro i n s hi hn hS h99
    obtain ⟨n, rfl⟩ : ∃ m, n = m + 1 := ⟨n - 1, by omega⟩
    have hlt : i < D.1 0 := by omega
    obtain ⟨u, a1, a2, a3⟩ := find_m hS hb ((1 : Int32) <<< (nI i &&& 31))
    have hS1 : RM D tx u := hS.kp a2 (by decide)
    obtain ⟨w, b1, b2, b3⟩ := ih (i + 1) n (wI u 99 i (wh D i)) (by omega) (by omega) (hS1.kp (ks := [99]) (Kp_wI Kp.rf (by decide) _ _) (by decide)) (fun p hp => by
      by_cases e : p = i
      · subst e; exact rI_same _ _ _ _
      · rw [rI_nj e, Kp_rI a2 (by decide)]; exact h99 p (by omega))
    refine ⟨w, ?_, (a2.mono (by decide)).tr (Kp.tr (Kp_wI Kp.rf (by decide) _ _) b2), b3⟩
    show b_X11_findSigns_2 (l_X11_findSigns_2 n) (nI i) s = _
    unfold b_X11_findSigns_2
    rw [hS.1 (74, 18, 0) (by decide), if_neg (nI_ge (a := i) (b := D.1 0) hlt (by omega)), a1, bd_ok, hS1.1 (74, 36, 6) (by decide), litBits_m hS1 hb a3 (v := D.1 6) (by omega), bd_ok, gi_nI (lt_n hlt hP) (by decide), cl_nI (n := i) (by omega), nI_1]
    exact b1
theorem signs_m {D : Dt} {tx : Nat → Int32} {s : St} (hS : RM D tx s) (hb : Bw D) : ∃ u, f_X11_findSigns s = some ((), u) ∧ Kp [97, 99] s u ∧ ∀ p, p < D.1 0 → rI u 99 p = wh D p := by
  have hP := hb.1.1
  exact signs_l hb (D.1 0) 0 FU s (by omega) (FU_lt (by omega)) hS (fun p hp => absurd hp (Nat.not_lt_zero p))
theorem add_0 (x : Int32) : x + 0 = x := Int32.add_zero x
theorem lost_l {D : Dt} {tx : Nat → Int32} {s : St} (hS : RM D tx s) (hb : Bw D) (y : Int32) {z : Nat → Bool} (hz : ∀ r, r < D.1 3 → (decide (D.2 10 r = 1) || bt y r) = z r) (h99 : ∀ p, p < D.1 0 → rI s 99 p = wh D p) : ∀ (d i n : Nat), i + d = D.1 0 → d < n → l_X11_lost_4 n y (nI (lostN D z i)) (nI i) s = some (nI (lostN D z (D.1 0)), s) := by
  have hP := hb.1.1
  intro d
  induction d with
  | zero =>
    intro i n hi hn
    obtain ⟨n, rfl⟩ : ∃ m, n = m + 1 := ⟨n - 1, by omega⟩
    have e : i = D.1 0 := by omega
    subst e
    show b_X11_lost_4 (l_X11_lost_4 n) _ _ (nI (D.1 0)) s = _
    unfold b_X11_lost_4
    rw [hS.1 (74, 18, 0) (by decide), if_pos (nI_le (Nat.le_refl (D.1 0)) (by omega))]
  | succ d ih =>
    intro i n hi hn
    obtain ⟨n, rfl⟩ : ∃ m, n = m + 1 := ⟨n - 1, by omega⟩
    have hlt : i < D.1 0 := by omega
    have hnext := ih (i + 1) n (by omega) (by omega)
    have hsu : lostN D z (i + 1) = lostN D z i + (if decide (¬ wh D i = 0 ∧ shI D (wh D i) z = 0) then 1 else 0) := rfl
    show b_X11_lost_4 (l_X11_lost_4 n) _ _ (nI i) s = _
    unfold b_X11_lost_4
    rw [hS.1 (74, 18, 0) (by decide), if_neg (nI_ge (a := i) (b := D.1 0) hlt (by omega)), gi_nI (lt_n hlt hP) (by decide), cl_nI (n := i) (by omega), h99 i hlt]
    by_cases c : wh D i = 0
    · rw [if_pos c, add_0, nI_1, ← hnext, hsu, if_neg (by simp [c])]
      rfl
    · rw [if_neg c, gi_nI (lt_n hlt hP) (by decide), shown_m hS hb _ _ hz, bd_ok]
      by_cases c2 : shI D (wh D i) z = 0
      · rw [if_pos c2, nI_1, nI_1, ← hnext, hsu, if_pos (by simp [c, c2])]
      · rw [if_neg c2, add_0, nI_1, ← hnext, hsu, if_neg (by simp [c2])]
        rfl
theorem lost_m {D : Dt} {tx : Nat → Int32} {s : St} (hS : RM D tx s) (hb : Bw D) (y : Int32) {z : Nat → Bool} (hz : ∀ r, r < D.1 3 → (decide (D.2 10 r = 1) || bt y r) = z r) (h99 : ∀ p, p < D.1 0 → rI s 99 p = wh D p) : f_X11_lost y s = some (nI (lostN D z (D.1 0)), s) := by
  have hP := hb.1.1
  exact lost_l hS hb y hz h99 (D.1 0) 0 FU (by omega) (FU_lt (by omega))
theorem alike15_l {D : Dt} {tx : Nat → Int32} {s : St} (hS : RM D tx s) (hb : Bw D) (y : Int32) {z : Nat → Bool} (hz : ∀ r, r < D.1 3 → (decide (D.2 10 r = 1) || bt y r) = z r) (h99 : ∀ p, p < D.1 0 → rI s 99 p = wh D p) (rec : Int32 → Int32 → Int32 → St → Option (Int32 × St)) {i : Nat} (hi : i < D.1 0) {c : Nat} : ∀ (d j n : Nat), j + d = i → d < n → l_X11_alike_15 rec n y (nI (c + fb_ct (alB D z i) j)) (nI i) (nI j) s = rec y (nI (c + fb_ct (alB D z i) i)) (nI (i + 1)) s := by
  have hP := hb.1.1
  intro d
  induction d with
  | zero =>
    intro j n hj hn
    obtain ⟨n, rfl⟩ : ∃ m, n = m + 1 := ⟨n - 1, by omega⟩
    have e : j = i := by omega
    subst e
    show b_X11_alike_15 rec (l_X11_alike_15 rec n) _ _ (nI j) (nI j) s = _
    unfold b_X11_alike_15
    rw [if_pos (nI_le (Nat.le_refl j) (by omega)), nI_1]
  | succ d ih =>
    intro j n hj hn
    obtain ⟨n, rfl⟩ : ∃ m, n = m + 1 := ⟨n - 1, by omega⟩
    have hnext := ih (j + 1) n (by omega) (by omega)
    have hsu : fb_ct (alB D z i) (j + 1) = fb_ct (alB D z i) j + (if alB D z i j then 1 else 0) := rfl
    show b_X11_alike_15 rec (l_X11_alike_15 rec n) _ _ (nI i) (nI j) s = _
    unfold b_X11_alike_15
    rw [if_neg (nI_ge (a := j) (b := i) (by omega) (by omega)), gi_nI (by omega) (by decide), gi_nI (by omega) (by decide), cl_nI (n := i) (by omega), cl_nI (n := j) (by omega), h99 i hi, h99 j (by omega)]
    by_cases c1 : wh D i = wh D j
    · rw [if_pos c1, add_0, nI_1, ← hnext, hsu, if_neg (by simp [alB, c1])]
      rfl
    · rw [if_neg c1, gi_nI (by omega) (by decide), shown_m hS hb _ _ hz, bd_ok, gi_nI (by omega) (by decide), h99 j (by omega), shown_m hS hb _ _ hz, bd_ok]
      by_cases c2 : shI D (wh D i) z = shI D (wh D j) z
      · rw [if_pos c2, nI_1, nI_1, ← hnext, hsu, if_pos (by simp [alB, c1, c2])]
        rfl
      · rw [if_neg c2, add_0, nI_1, ← hnext, hsu, if_neg (by simp [alB, c2])]
        rfl
theorem alike_l {D : Dt} {tx : Nat → Int32} {s : St} (hS : RM D tx s) (hb : Bw D) (y : Int32) {z : Nat → Bool} (hz : ∀ r, r < D.1 3 → (decide (D.2 10 r = 1) || bt y r) = z r) (h99 : ∀ p, p < D.1 0 → rI s 99 p = wh D p) : ∀ (d i n : Nat), i + d = D.1 0 → d < n → l_X11_alike_4 n y (nI (alN D z i)) (nI i) s = some (nI (alN D z (D.1 0)), s) := by
  have hP := hb.1.1
  intro d
  induction d with
  | zero =>
    intro i n hi hn
    obtain ⟨n, rfl⟩ : ∃ m, n = m + 1 := ⟨n - 1, by omega⟩
    have e : i = D.1 0 := by omega
    subst e
    show b_X11_alike_4 (l_X11_alike_4 n) _ _ (nI (D.1 0)) s = _
    unfold b_X11_alike_4
    rw [hS.1 (74, 18, 0) (by decide), if_pos (nI_le (Nat.le_refl (D.1 0)) (by omega))]
  | succ d ih =>
    intro i n hi hn
    obtain ⟨n, rfl⟩ : ∃ m, n = m + 1 := ⟨n - 1, by omega⟩
    have hlt : i < D.1 0 := by omega
    have hnext := ih (i + 1) n (by omega) (by omega)
    show b_X11_alike_4 (l_X11_alike_4 n) _ _ (nI i) s = _
    unfold b_X11_alike_4
    rw [hS.1 (74, 18, 0) (by decide), if_neg (nI_ge (a := i) (b := D.1 0) hlt (by omega))]
    exact Eq.trans (alike15_l hS hb y hz h99 (l_X11_alike_4 n) hlt (c := alN D z i) i 0 FU (by omega) (FU_lt (by omega))) hnext
theorem alike_m {D : Dt} {tx : Nat → Int32} {s : St} (hS : RM D tx s) (hb : Bw D) (y : Int32) {z : Nat → Bool} (hz : ∀ r, r < D.1 3 → (decide (D.2 10 r = 1) || bt y r) = z r) (h99 : ∀ p, p < D.1 0 → rI s 99 p = wh D p) : f_X11_alike y s = some (nI (alN D z (D.1 0)), s) := by
  have hP := hb.1.1
  exact alike_l hS hb y hz h99 (D.1 0) 0 FU (by omega) (FU_lt (by omega))
/-! the fewest rules to rest -/
def onN (c : Nat) : Nat := fb_ct (fun i => c.testBit i) 12
theorem bit_at {c j : Nat} (hj : j < 32) : (nI c >>> (nI j &&& 31)) &&& 1 = if c.testBit j then 1 else 0 := by
  by_cases h : c.testBit j = true
  · rw [if_pos h, b_at1 _ hj, bt_nI j hj, h]
  · rw [if_neg h, b_at _ hj, bt_nI j hj]; simpa using h
theorem ones_l (c : Nat) (s : St) : ∀ (d i n : Nat), i + d = 12 → d < n → l_X11_ones_4 n (nI c) (nI (fb_ct (fun i => c.testBit i) i)) (nI i) s = some (nI (onN c), s) := by
  intro d
  induction d with
  | zero =>
    intro i n hi hn
    obtain ⟨n, rfl⟩ : ∃ m, n = m + 1 := ⟨n - 1, by omega⟩
    have e : i = 12 := by omega
    subst e
    show b_X11_ones_4 (l_X11_ones_4 n) _ _ (nI 12) s = _
    unfold b_X11_ones_4
    rw [if_pos (by decide)]
    rfl
  | succ d ih =>
    intro i n hi hn
    obtain ⟨n, rfl⟩ : ∃ m, n = m + 1 := ⟨n - 1, by omega⟩
    have hnext := ih (i + 1) n (by omega) (by omega)
    show b_X11_ones_4 (l_X11_ones_4 n) _ _ (nI i) s = _
    unfold b_X11_ones_4
    rw [if_neg (show ¬ (12 : Int32) ≤ nI i from nI_ge (a := i) (b := 12) (by omega) (by omega)), bit_at (by omega), nI_1, ← hnext, fb_ct_succ]
    by_cases h : c.testBit i = true
    · rw [if_pos h, if_pos h, nI_1]
    · rw [if_neg h, if_neg h, add_0]
      rfl
theorem ones_m (c : Nat) (s : St) : f_X11_ones (nI c) s = some (nI (onN c), s) := ones_l c s 12 0 FU (by omega) (FU_lt (by omega))
def zc (D : Dt) (c r : Nat) : Bool := zr D r || bt (nI c) r
def clr (D : Dt) (c : Nat) : Bool := decide (lostN D (zc D c) (D.1 0) = 0 ∧ alN D (zc D c) (D.1 0) = 0)
def rsB (D : Dt) : Int32 := bitsI (zr D) (D.1 3)
/-- the best among those below c: one more; 0 for none -/
def bs (D : Dt) : Nat → Nat
  | 0 => 0
  | c + 1 => if nI c &&& rsB D = 0 ∧ (bs D c = 0 ∨ onN c < onN (bs D c - 1)) ∧ clr D c = true then c + 1 else bs D c
theorem bs_le (D : Dt) : ∀ c, bs D c ≤ c
  | 0 => Nat.le_refl _
  | c + 1 => by
    have := bs_le D c
    unfold bs
    split <;> omega
theorem bs_keep (D : Dt) {c : Nat} (h : bs D c ≠ 0) : ∀ k, bs D (c + k) ≠ 0
  | 0 => h
  | k + 1 => by
    have ih := bs_keep D h k
    rw [show bs D (c + (k + 1)) = if nI (c + k) &&& rsB D = 0 ∧ (bs D (c + k) = 0 ∨ onN (c + k) < onN (bs D (c + k) - 1)) ∧ clr D (c + k) = true then c + k + 1 else bs D (c + k) from rfl]
    split
    · exact Nat.succ_ne_zero _
    · exact ih
theorem shI_all {D : Dt} {x : Int32} {z : Nat → Bool} (hz : ∀ r, r < D.1 3 → z r = true) : shI D x z = x := by
  apply b_ext
  intro i hi
  rw [bt_shI D x z i hi]
  have : ∀ n, n ≤ D.1 3 → hid D x z n i = false := by
    intro n
    induction n with
    | zero => intro _; rfl
    | succ n ih =>
      intro hn
      show (hid D x z n i || (ap D x n && !z n && decide (D.2 6 n = i))) = false
      rw [ih (by omega), hz n (by omega)]
      simp
  rw [this _ (Nat.le_refl _)]
  simp
theorem bs_end {D : Dt} (hb : Bw D) : bs D (2 ^ D.1 3) ≠ 0 := by
  have hRR := hb.1.2.2.2.1
  have hlt := bitsN_lt (fun r => !zr D r) (D.1 3)
  generalize hcs : bitsN (fun r => !zr D r) (D.1 3) = cs at *
  have hbit : ∀ r, r < 32 → bt (nI cs) r = (decide (r < D.1 3) && !zr D r) := fun r hr => by
    rw [bt_nI r hr, ← hcs, bitsN_test]
  have h1 : bs D (cs + 1) ≠ 0 := by
    by_cases c0 : bs D cs = 0
    · have : bs D (cs + 1) = cs + 1 := if_pos ⟨by
        apply b_ext
        intro i hi
        rw [b_and, hbit i hi, b_0]
        unfold rsB
        rw [b_bitsI _ (by omega) i hi]
        cases zr D i <;> simp, Or.inl c0, by
        have hz : ∀ r, r < D.1 3 → zc D cs r = true := fun r hr => by
          unfold zc
          rw [hbit r (by omega)]
          cases zr D r <;> simp [hr]
        unfold clr
        simp only [decide_eq_true_eq]
        constructor
        · unfold lostN
          rw [fb_ct_zero]
          intro p hp
          rw [shI_all hz]
          simp
        · unfold alN
          have : fb_sm (fun i => fb_ct (alB D (zc D cs) i) i) (D.1 0) = fb_sm (fun _ => 0) (D.1 0) := fb_sm_cong (fun i _ => by
            rw [fb_ct_zero]
            intro j _
            unfold alB
            rw [shI_all hz, shI_all hz]
            simp)
          rw [this, fb_sm_const]
          rfl⟩
      omega
    · exact bs_keep D c0 1
  have := bs_keep D h1 (2 ^ D.1 3 - (cs + 1))
  rw [show cs + 1 + (2 ^ D.1 3 - (cs + 1)) = 2 ^ D.1 3 by omega] at this
  exact this
