/-! ===== rows that are joined ===== -/
/-- the row of the same window ahead of row i, below k: 0 for none, j + 1 for row j -/
def pv (D : Dt) (i : Nat) : Nat → Nat
  | 0 => 0
  | k + 1 => if D.2 13 k = D.2 13 i then k + 1 else pv D i k
theorem pv_no {D : Dt} {i k : Nat} (h : ¬ D.2 13 k = D.2 13 i) : pv D i (k + 1) = pv D i k := if_neg h
theorem pv_yes {D : Dt} {i k : Nat} (h : D.2 13 k = D.2 13 i) : pv D i (k + 1) = k + 1 := if_pos h
theorem pv_le (D : Dt) (i : Nat) : ∀ k, pv D i k ≤ k
  | 0 => Nat.le_refl 0
  | k + 1 => by
    unfold pv
    have := pv_le D i k
    split <;> omega
theorem nI_m1 : nI 0 - 1 = -1 := by decide
theorem rowAhead_l {D : Dt} {tx : Nat → Int32} {s : St} (hc : RC D tx s) (hb : Bd D) {i : Nat} (hi : i < D.1 4) : ∀ (k n : Nat), k ≤ i → k < n → l_X5_rowAhead_4 n (nI i) (nI k - 1) s = some (nI (pv D i k) - 1, s) := by
  have hN := hb.1.2.2.2.2.1
  have hW := hb.1.2.2.1
  intro k
  induction k with
  | zero =>
    intro n hk hn
    obtain ⟨n, rfl⟩ : ∃ m, n = m + 1 := ⟨n - 1, by omega⟩
    show b_X5_rowAhead_4 (l_X5_rowAhead_4 n) (nI i) (nI 0 - 1) s = _
    unfold b_X5_rowAhead_4
    rw [nI_m1, if_pos (by decide)]
    rfl
  | succ k ih =>
    intro n hk hn
    obtain ⟨n, rfl⟩ : ∃ m, n = m + 1 := ⟨n - 1, by omega⟩
    show b_X5_rowAhead_4 (l_X5_rowAhead_4 n) (nI i) (nI (k + 1) - 1) s = _
    have h1 := (hb.2.2.2.2.2 k (by omega)).1
    have h2 := (hb.2.2.2.2.2 i hi).1
    unfold b_X5_rowAhead_4
    rw [nI_pred, if_neg (nI_pos (by omega)), gi_nI (show k < 60 by omega) (by decide), gi_nI (show i < 60 by omega) (by decide), cl_nI (by omega), cl_nI (n := i) (by omega), gArr hc (c := 36) (a := 13) (n := 4) (by decide) (by omega), gArr hc (c := 36) (a := 13) (n := 4) (by decide) hi]
    by_cases e : D.2 13 k = D.2 13 i
    · rw [if_pos (by rw [e])]
      rw [pv_yes e, nI_pred]
    · rw [if_neg (fun q => e ((nI_eq (by omega) (by omega)).mp q))]
      show l_X5_rowAhead_4 n (nI i) (nI k + (-1)) s = _
      rw [show nI k + (-1) = nI k - 1 from (Int32.sub_eq_add_neg (a := nI k) (b := 1)).symm, ih n (by omega) (by omega), pv_no e]
theorem rowAhead_c {D : Dt} {tx : Nat → Int32} {s : St} (hc : RC D tx s) (hb : Bd D) {i : Nat} (hi : i < D.1 4) : f_X5_rowAhead (nI i) s = some (nI (pv D i i) - 1, s) := by
  have hN := hb.1.2.2.2.2.1
  exact rowAhead_l hc hb hi i FU (Nat.le_refl i) (FU_lt (by omega))
/-- row i isn't joined, by g -/
def apart (D : Dt) (g i : Nat) : Bool := decide (pv D i i = 0 ∨ D.2 14 (pv D i i - 1) + g ≤ D.2 14 i)
theorem apart_lt {D : Dt} (hb : Bd D) {g i : Nat} (hi : i < D.1 4) (hg : g ≤ 60) (h0 : pv D i i ≠ 0) : ((nI (D.2 14 i) - nI (D.2 14 (pv D i i - 1))) < nI g) ↔ apart D g i = false := by
  have hN := hb.1.2.2.2.2.1
  have hp := pv_le D i i
  have h1 := hb.2.2.2.2.2 i hi
  have h2 := h1.2.2 (pv D i i - 1) (by omega)
  rw [pk_sub h2, nI_ltI (by omega) (by omega)]
  unfold apart
  simp only [decide_eq_false_iff_not]
  omega
theorem countApart_l {D : Dt} {tx : Nat → Int32} {s : St} (hc : RC D tx s) (hb : Bd D) {g : Nat} (hg : g ≤ 60) : ∀ (d i n : Nat), i + d = D.1 4 → d < n → l_X5_countApart_4 n (nI g) (nI (fb_ct (apart D g) i)) (nI i) s = some (nI (fb_ct (apart D g) (D.1 4)), s) := by
  have hN := hb.1.2.2.2.2.1
  intro d
  induction d with
  | zero =>
    intro i n hi hn
    obtain ⟨n, rfl⟩ : ∃ m, n = m + 1 := ⟨n - 1, by omega⟩
    show b_X5_countApart_4 (l_X5_countApart_4 n) (nI g) _ (nI i) s = _
    unfold b_X5_countApart_4
    rw [hc.1 (35, 2, 4) (by decide), show i = D.1 4 by omega, if_pos (nI_le (Nat.le_refl (D.1 4)) (by omega))]
  | succ d ih =>
    intro i n hi hn
    obtain ⟨n, rfl⟩ : ∃ m, n = m + 1 := ⟨n - 1, by omega⟩
    show b_X5_countApart_4 (l_X5_countApart_4 n) (nI g) _ (nI i) s = _
    have hlt : i < D.1 4 := by omega
    have hp := pv_le D i i
    have hnext := ih (i + 1) n (by omega) (by omega)
    unfold b_X5_countApart_4
    rw [hc.1 (35, 2, 4) (by decide), if_neg (nI_ge (a := i) (b := D.1 4) hlt (by omega)), rowAhead_c hc hb hlt, bd_ok]
    by_cases h0 : pv D i i = 0
    · rw [h0, nI_m1, if_pos rfl]
      show l_X5_countApart_4 n (nI g) (nI (fb_ct (apart D g) i) + 1) (nI i + 1) s = _
      rw [nI_1, nI_1, ← hnext, fb_ct_succ, if_pos]
      unfold apart
      simp [h0]
    · have e1 : nI (pv D i i) - 1 = nI (pv D i i - 1) := pk_sub (a := pv D i i) (b := 1) (by omega)
      rw [e1, if_neg (show ¬ nI (pv D i i - 1) = -1 from fun q => nI_pos (n := pv D i i - 1) (by omega) (by rw [q]; decide)), gi_nI (show i < 60 by omega) (by decide), gi_nI (show pv D i i - 1 < 60 by omega) (by decide), cl_nI (by omega), cl_nI (n := pv D i i - 1) (by omega), gArr hc (c := 37) (a := 14) (n := 4) (by decide) hlt, gArr hc (c := 37) (a := 14) (n := 4) (by decide) (show pv D i i - 1 < D.1 4 by omega)]
      cases ha : apart D g i with
      | false =>
        rw [if_pos ((apart_lt hb hlt hg h0).mpr ha)]
        show l_X5_countApart_4 n (nI g) (nI (fb_ct (apart D g) i)) (nI i + 1) s = _
        rw [nI_1, ← hnext, fb_ct_succ, ha, if_neg (by decide)]
        rfl
      | true =>
        rw [if_neg (fun q => by rw [(apart_lt hb hlt hg h0).mp q] at ha; cases ha)]
        show l_X5_countApart_4 n (nI g) (nI (fb_ct (apart D g) i) + 1) (nI i + 1) s = _
        rw [nI_1, nI_1, ← hnext, fb_ct_succ, ha, if_pos rfl]
theorem joined_in {D : Dt} {tx : Nat → Int32} {s : St} (hm : RM D tx s) (hb : Bd D) {rec : Int32 → Int32 → Int32 → St → Option (Int32 × St)} {x1 x2 : Int32} {i : Nat} (hi : i < D.1 4) : ∀ (k n : Nat), k ≤ i → k < n → l_X11_joined_29 rec n x1 x2 (nI i) (nI k - 1) s = j_X11_joined_56 rec x1 x2 (nI i) (nI (pv D i k) - 1) s := by
  have hN := hb.1.2.2.2.2.1
  have hW := hb.1.2.2.1
  intro k
  induction k with
  | zero =>
    intro n hk hn
    obtain ⟨n, rfl⟩ : ∃ m, n = m + 1 := ⟨n - 1, by omega⟩
    show b_X11_joined_29 rec (l_X11_joined_29 rec n) x1 x2 (nI i) (nI 0 - 1) s = _
    unfold b_X11_joined_29
    rw [if_pos (by decide)]
    rfl
  | succ k ih =>
    intro n hk hn
    obtain ⟨n, rfl⟩ : ∃ m, n = m + 1 := ⟨n - 1, by omega⟩
    show b_X11_joined_29 rec (l_X11_joined_29 rec n) x1 x2 (nI i) (nI (k + 1) - 1) s = _
    have h1 := (hb.2.2.2.2.2 k (by omega)).1
    have h2 := (hb.2.2.2.2.2 i hi).1
    unfold b_X11_joined_29
    rw [nI_pred, if_neg (nI_pos (by omega)), gi_nI (show k < 60 by omega) (by decide), gi_nI (show i < 60 by omega) (by decide), cl_nI (by omega), cl_nI (n := i) (by omega), gArrM hm (c := 94) (a := 13) (n := 4) (by decide) (by omega), gArrM hm (c := 94) (a := 13) (n := 4) (by decide) hi]
    by_cases e : D.2 13 k = D.2 13 i
    · rw [if_pos (by rw [e])]
      rw [pv_yes e, nI_pred]
    · rw [if_neg (fun q => e ((nI_eq (by omega) (by omega)).mp q))]
      show l_X11_joined_29 rec n x1 x2 (nI i) (nI k + (-1)) s = _
      rw [show nI k + (-1) = nI k - 1 from (Int32.sub_eq_add_neg (a := nI k) (b := 1)).symm, ih n (by omega) (by omega), pv_no e]
theorem joined_l {D : Dt} {tx : Nat → Int32} {s : St} (hm : RM D tx s) (hb : Bd D) {g : Nat} (hg : g ≤ 60) : ∀ (d i n : Nat), i + d = D.1 4 → d < n → l_X11_joined_16 n (nI g) (nI (fb_ct (apart D g) i)) (nI i) s = some (nI (fb_ct (apart D g) (D.1 4)), s) := by
  have hN := hb.1.2.2.2.2.1
  intro d
  induction d with
  | zero =>
    intro i n hi hn
    obtain ⟨n, rfl⟩ : ∃ m, n = m + 1 := ⟨n - 1, by omega⟩
    show b_X11_joined_16 (l_X11_joined_16 n) (nI g) _ (nI i) s = _
    unfold b_X11_joined_16
    rw [hm.1 (74, 32, 4) (by decide), show i = D.1 4 by omega, if_pos (nI_le (Nat.le_refl (D.1 4)) (by omega))]
  | succ d ih =>
    intro i n hi hn
    obtain ⟨n, rfl⟩ : ∃ m, n = m + 1 := ⟨n - 1, by omega⟩
    show b_X11_joined_16 (l_X11_joined_16 n) (nI g) _ (nI i) s = _
    have hlt : i < D.1 4 := by omega
    have hp := pv_le D i i
    have hnext := ih (i + 1) n (by omega) (by omega)
    unfold b_X11_joined_16
    rw [hm.1 (74, 32, 4) (by decide), if_neg (nI_ge (a := i) (b := D.1 4) hlt (by omega))]
    show l_X11_joined_29 (l_X11_joined_16 n) FU (nI g) _ (nI i) (nI i - 1) s = _
    rw [joined_in hm hb hlt i FU (Nat.le_refl i) (FU_lt (by omega))]
    unfold j_X11_joined_56
    by_cases h0 : pv D i i = 0
    · rw [h0, nI_m1, if_pos (by decide)]
      show l_X11_joined_16 n (nI g) (nI (fb_ct (apart D g) i) + 1) (nI i + 1) s = _
      rw [nI_1, nI_1, ← hnext, fb_ct_succ, if_pos]
      unfold apart
      simp [h0]
    · have e1 : nI (pv D i i) - 1 = nI (pv D i i - 1) := pk_sub (a := pv D i i) (b := 1) (by omega)
      rw [e1, if_neg (nI_pos (by omega)), gi_nI (show i < 60 by omega) (by decide), gi_nI (show pv D i i - 1 < 60 by omega) (by decide), cl_nI (by omega), cl_nI (n := pv D i i - 1) (by omega), gArrM hm (c := 95) (a := 14) (n := 4) (by decide) hlt, gArrM hm (c := 95) (a := 14) (n := 4) (by decide) (show pv D i i - 1 < D.1 4 by omega)]
      have hq := apart_lt hb hlt hg h0
      cases ha : apart D g i with
      | false =>
        rw [if_neg (fun q => by have := hq.mpr ha; rw [fa_lt] at this; rw [fa_le] at q; omega)]
        show l_X11_joined_16 n (nI g) (nI (fb_ct (apart D g) i) + 0) (nI i + 1) s = _
        rw [show nI (fb_ct (apart D g) i) + 0 = nI (fb_ct (apart D g) i) from Int32.add_zero _, nI_1, ← hnext, fb_ct_succ, ha, if_neg (by decide)]
        rfl
      | true =>
        rw [if_pos (by
          rw [fa_le]
          have : ¬ (nI (D.2 14 i) - nI (D.2 14 (pv D i i - 1))) < nI g := fun q => by rw [hq.mp q] at ha; cases ha
          rw [fa_lt] at this
          omega)]
        show l_X11_joined_16 n (nI g) (nI (fb_ct (apart D g) i) + 1) (nI i + 1) s = _
        rw [nI_1, nI_1, ← hnext, fb_ct_succ, ha, if_pos rfl]
theorem call_joined {D : Dt} {tx : Nat → Int32} {s : St} (h : Rel D tx s) (x : Int32) : Ok (f_X10_joined x) (f_X11_joined x) s := by
  obtain ⟨hb, hc, hm⟩ := id h
  have hN := hb.1.2.2.2.2.1
  rcases three x (n := 61) (by omega) with hx | ⟨g, hg, rfl⟩
  · have hx2 : x < 0 ∨ 60 < x := hx.imp id (fun q => by rw [fa_le] at q; rw [fa_lt]; have e1 : (nI 61).toInt = 61 := (by decide); have e2 : (60 : Int32).toInt = 60 := (by decide); omega)
    refine rel0 h (r := -1) ?_ ?_
    · unfold f_X10_joined
      by_cases h0 : x < 0
      · rw [if_pos h0]
      · rw [if_neg h0, if_neg]
        have := hx2.resolve_left h0
        rw [fa_lt] at this; rw [fa_le]; omega
    · unfold f_X11_joined; rw [inM0 hx2, bd_ok, if_pos rfl]
  · have h0 : ¬ nI g < 0 := nI_pos (by omega)
    have h2 : nI g ≤ 60 := nI_le (a := g) (b := 60) (by omega) (by omega)
    refine rel0 h (r := nI (fb_ct (apart D g) (D.1 4))) ?_ ?_
    · unfold f_X10_joined
      rw [if_neg h0, if_pos h2]
      unfold f_X5_countApart
      rw [show l_X5_countApart_4 FU (nI g) 0 0 s = _ from countApart_l hc hb (by omega) (D.1 4) 0 FU (by omega) (FU_lt (by omega)), bd_ok]
    · unfold f_X11_joined
      rw [inM1 h0 (by rw [fa_lt]; rw [fa_le] at h2; omega), bd_ok, if_neg (by decide)]
      exact joined_l hm hb (by omega) (D.1 4) 0 FU (by omega) (FU_lt (by omega))
