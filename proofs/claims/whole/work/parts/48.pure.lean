/-! ===== the wall: the two to change ===== -/
abbrev W3 : Type := Int32 × Int32 × Int32
def wst (D : Dt) (g i j : Nat) (L : W3) : W3 := if smI (dW D i j) g (D.1 0) < L.1 then (smI (dW D i j) g (D.1 0), nI i, nI j) else L
def wIn (D : Dt) (g i : Nat) : Nat → Nat → W3 → W3
  | 0, _, L => L
  | d + 1, j, L => wIn D g i d (j + 1) (wst D g i j L)
def wOut (D : Dt) (g : Nat) : Nat → Nat → W3 → W3
  | 0, _, L => L
  | d + 1, i, L => wOut D g d (i + 1) (wIn D g i (D.1 2 - (i + 1)) (i + 1) L)
def CwA (L : W3) (s : St) : Prop := rI s 45 10 = L.1 ∧ rI s 45 8 = L.2.1 ∧ rI s 45 9 = L.2.2
/-- what the class keeps while it changes places about -/
def IvW (D : Dt) (tx : Nat → Int32) (L : W3) (s : St) : Prop := RC D tx s ∧ Prp D s ∧ CwA L s
theorem pair_c {D : Dt} {tx : Nat → Int32} (hB : Bd D) {g : Nat} (hg1 : 1 ≤ g) (hg2 : g ≤ 30) {i j : Nat} (hi : i < D.1 2) (hj : j < D.1 2) (hij : i ≠ j) {L : W3} {s : St} (h : IvW D tx L s) : ∃ t1 t2 u, f_X0_swap (nI i) (nI j) s = some ((), t1) ∧ f_X0_sum (nI g) t1 = some (smI (dW D i j) g (D.1 0), t1) ∧ f_X0_swap (nI i) (nI j) t1 = some ((), t2) ∧ Kp [46] s t2 ∧ rI t2 45 10 = L.1 ∧ u = (if smI (dW D i j) g (D.1 0) < L.1 then wI (wI (wI t2 45 8 (nI i)) 45 9 (nI j)) 45 10 (smI (dW D i j) g (D.1 0)) else t2) ∧ Kp [45, 46] s u ∧ IvW D tx (wst D g i j L) u := by
  have hb : Bw D := Bd_w hB
  obtain ⟨hR, hpr, hL1, hL2, hL3⟩ := h
  obtain ⟨t1, a1, a2, a3⟩ := swap_c hR hB hi hj
  have hB1 := Bd_dW hB hi hj
  have hp1 : Prp (dW D i j) t1 := Prp_dW (Prp_keep hb hpr a2 (by decide) (by decide) (Kp_rI a2 (by decide) 7))
  have b1 := sum_c a3 (Bd_w hB1) hp1 hg1 hg2
  obtain ⟨t2, c1, c2, c3⟩ := swap_c a3 hB1 (i := i) (j := j) hi hj
  rw [dW_dW hB hi hj hij] at c3
  have k2 : Kp [46] s t2 := a2.tr c2
  have hp2 : Prp D t2 := Prp_keep hb hpr k2 (by decide) (by decide) (Kp_rI k2 (by decide) 7)
  refine ⟨t1, t2, _, a1, b1, c1, k2, by rw [Kp_rI k2 (by decide)]; exact hL1, rfl, ?_, ?_⟩
  · split
    · exact Kp_wI (Kp_wI (Kp_wI (k2.mono (by decide)) (by decide) _ _) (by decide) _ _) (by decide) _ _
    · exact k2.mono (by decide)
  · unfold wst
    by_cases c : smI (dW D i j) g (D.1 0) < L.1
    · rw [if_pos c, if_pos c]
      have kk : Kp [45] t2 (wI (wI (wI t2 45 8 (nI i)) 45 9 (nI j)) 45 10 (smI (dW D i j) g (D.1 0))) := Kp_wI (Kp_wI (Kp_wI Kp.rf (by decide) _ _) (by decide) _ _) (by decide) _ _
      refine ⟨c3.kp kk (by decide), Prp_keep hb hp2 kk (by decide) (by decide) ?_, ?_, ?_, ?_⟩
      · rw [rI_nj (by decide), rI_nj (by decide), rI_nj (by decide)]
      · exact rI_same _ _ _ _
      · show rI _ 45 8 = nI i
        rw [rI_nj (by decide), rI_nj (by decide), rI_same]
      · show rI _ 45 9 = nI j
        rw [rI_nj (by decide), rI_same]
    · rw [if_neg c, if_neg c]
      exact ⟨c3, hp2, by rw [Kp_rI k2 (by decide)]; exact hL1, by rw [Kp_rI k2 (by decide)]; exact hL2, by rw [Kp_rI k2 (by decide)]; exact hL3⟩
theorem sk36_l {D : Dt} {tx : Nat → Int32} (hB : Bd D) {g : Nat} (hg1 : 1 ≤ g) (hg2 : g ≤ 30) {i : Nat} (hi : i < D.1 2) (r21 : Int32 → Int32 → St → Option (Unit × St)) : ∀ (d j n : Nat) (L : W3) (s : St), i < j → j + d = D.1 2 → d < n → IvW D tx L s → ∃ t, l_X0_seekChange_36 r21 n (nI g) (nI i) (nI j) s = r21 (nI g) (nI (i + 1)) t ∧ Kp [45, 46] s t ∧ IvW D tx (wIn D g i d j L) t := by
  have hW := hB.1.2.2.1
  intro d
  induction d with
  | zero =>
    intro j n L s hij hj hn h
    obtain ⟨n, rfl⟩ : ∃ m, n = m + 1 := ⟨n - 1, by omega⟩
    refine ⟨s, ?_, Kp.rf, h⟩
    show b_X0_seekChange_36 r21 (l_X0_seekChange_36 r21 n) _ _ (nI j) s = _
    unfold b_X0_seekChange_36
    rw [h.1.1 (8, 2, 2) (by decide), if_pos (nI_le (a := D.1 2) (b := j) (by omega) (by omega)), nI_1]
  | succ d ih =>
    intro j n L s hij hj hn h
    obtain ⟨n, rfl⟩ : ∃ m, n = m + 1 := ⟨n - 1, by omega⟩
    have hlt : j < D.1 2 := by omega
    obtain ⟨t1, t2, u, a1, a2, a3, a4, a5, a6, a7, a8⟩ := pair_c hB hg1 hg2 hi hlt (by omega) h
    obtain ⟨t, b1, b2, b3⟩ := ih (j + 1) n _ u (by omega) (by omega) (by omega) a8
    refine ⟨t, ?_, a7.tr b2, b3⟩
    show b_X0_seekChange_36 r21 (l_X0_seekChange_36 r21 n) _ _ (nI j) s = _
    unfold b_X0_seekChange_36
    rw [h.1.1 (8, 2, 2) (by decide), if_neg (nI_ge (a := j) (b := D.1 2) hlt (by omega)), a1, bd_ok, a2, bd_ok, a3, bd_ok, a5, nI_1, ← b1, a6]
    by_cases c : smI (dW D i j) g (D.1 0) < L.1
    · rw [if_neg (fa_of_lt c).2.1, if_pos c]
    · rw [if_pos (fa_of_nlt c), if_neg c]
theorem sk21_l {D : Dt} {tx : Nat → Int32} (hB : Bd D) {g : Nat} (hg1 : 1 ≤ g) (hg2 : g ≤ 30) : ∀ (d i n : Nat) (L : W3) (s : St), i + d = D.1 2 → d < n → IvW D tx L s → ∃ t, l_X0_seekChange_21 n (nI g) (nI i) s = some ((), t) ∧ Kp [45, 46] s t ∧ IvW D tx (wOut D g d i L) t := by
  have hW := hB.1.2.2.1
  intro d
  induction d with
  | zero =>
    intro i n L s hi hn h
    obtain ⟨n, rfl⟩ : ∃ m, n = m + 1 := ⟨n - 1, by omega⟩
    refine ⟨s, ?_, Kp.rf, h⟩
    show b_X0_seekChange_21 (l_X0_seekChange_21 n) _ (nI i) s = _
    unfold b_X0_seekChange_21
    rw [h.1.1 (8, 2, 2) (by decide), if_pos (nI_le (a := D.1 2) (b := i) (by omega) (by omega))]
  | succ d ih =>
    intro i n L s hi hn h
    obtain ⟨n, rfl⟩ : ∃ m, n = m + 1 := ⟨n - 1, by omega⟩
    have hlt : i < D.1 2 := by omega
    obtain ⟨u, a1, a2, a3⟩ := sk36_l hB hg1 hg2 hlt (l_X0_seekChange_21 n) (D.1 2 - (i + 1)) (i + 1) FU L s (by omega) (by omega) (FU_lt (by omega)) h
    obtain ⟨t, b1, b2, b3⟩ := ih (i + 1) n _ u (by omega) (by omega) a3
    refine ⟨t, ?_, a2.tr b2, b3⟩
    show b_X0_seekChange_21 (l_X0_seekChange_21 n) _ (nI i) s = _
    unfold b_X0_seekChange_21
    rw [h.1.1 (8, 2, 2) (by decide), if_neg (nI_ge (a := i) (b := D.1 2) hlt (by omega)), nI_1]
    exact a1.trans b1
def wBest (D : Dt) (g : Nat) : W3 := wOut D g (D.1 2) 0 (smI D g (D.1 0), -1, -1)
theorem seekChange_c {D : Dt} {tx : Nat → Int32} (hB : Bd D) {g : Nat} (hg1 : 1 ≤ g) (hg2 : g ≤ 30) {s : St} (hR : RC D tx s) (hpr : Prp D s) : ∃ t, f_X0_seekChange (nI g) s = some ((), t) ∧ Kp [45, 46] s t ∧ IvW D tx (wBest D g) t := by
  have hb : Bw D := Bd_w hB
  have hW := hB.1.2.2.1
  have k1 : Kp [45] s (wI (wI s 45 8 (-1)) 45 9 (-1)) := Kp_wI (Kp_wI Kp.rf (by decide) _ _) (by decide) _ _
  have hp1 : Prp D (wI (wI s 45 8 (-1)) 45 9 (-1)) := Prp_keep hb hpr k1 (by decide) (by decide) (by rw [rI_nj (by decide), rI_nj (by decide)])
  have hR1 : RC D tx (wI (wI s 45 8 (-1)) 45 9 (-1)) := hR.kp k1 (by decide)
  have k2 : Kp [45] (wI (wI s 45 8 (-1)) 45 9 (-1)) (wI (wI (wI s 45 8 (-1)) 45 9 (-1)) 45 10 (smI D g (D.1 0))) := Kp_wI Kp.rf (by decide) _ _
  obtain ⟨t, b1, b2, b3⟩ := sk21_l (tx := tx) hB hg1 hg2 (D.1 2) 0 FU (smI D g (D.1 0), -1, -1) _ (by omega) (FU_lt (by omega)) ⟨hR1.kp k2 (by decide), Prp_keep hb hp1 k2 (by decide) (by decide) (by rw [rI_nj (by decide)]), rI_same _ _ _ _, by rw [rI_nj (by decide), rI_nj (by decide), rI_same], by rw [rI_nj (by decide), rI_same]⟩
  refine ⟨t, ?_, ((k1.tr k2).mono (by decide)).tr b2, b3⟩
  unfold f_X0_seekChange
  show bd (f_X0_sum (nI g) (wI (wI s 45 8 (-1)) 45 9 (-1))) _ = _
  rw [sum_c hR1 hb hp1 hg1 hg2, bd_ok]
  exact b1
/-! the reference -/
def IvV (D : Dt) (tx : Nat → Int32) (s : St) : Prop := RM D tx s ∧ Qrp D s
theorem pair_m {D : Dt} {tx : Nat → Int32} (hB : Bd D) {g : Nat} (hg1 : 1 ≤ g) (hg2 : g ≤ 30) {i j : Nat} (hi : i < D.1 2) (hj : j < D.1 2) (hij : i ≠ j) {s : St} (h : IvV D tx s) : ∃ t1 t2, f_X11_swaps (nI i) (nI j) s = some ((), t1) ∧ f_X11_sum (nI g) t1 = some (smI (dW D i j) g (D.1 0), t1) ∧ f_X11_swaps (nI i) (nI j) t1 = some ((), t2) ∧ Kp [91] s t2 ∧ IvV D tx t2 := by
  obtain ⟨hS, hpr⟩ := h
  obtain ⟨t1, a1, a2, a3⟩ := swaps_m hS hB hi hj
  have hB1 := Bd_dW hB hi hj
  have hp1 : Qrp (dW D i j) t1 := Qrp_dW (Qrp_keep hpr a2 (by decide) (by decide))
  have b1 := sum_m a3 (Bd_w hB1) hp1 hg1 hg2
  obtain ⟨t2, c1, c2, c3⟩ := swaps_m a3 hB1 (i := i) (j := j) hi hj
  rw [dW_dW hB hi hj hij] at c3
  exact ⟨t1, t2, a1, b1, c1, a2.tr c2, c3, Qrp_keep hpr (a2.tr c2) (by decide) (by decide)⟩
theorem w71_l {D : Dt} {tx : Nat → Int32} (hB : Bd D) {g : Nat} (hg1 : 1 ≤ g) (hg2 : g ≤ 30) {i : Nat} (hi : i < D.1 2) (x2 : Int32) (r56 : Int32 → Int32 → Int32 → Int32 → Int32 → Int32 → St → Option (Int32 × St)) : ∀ (d j n : Nat) (L : W3) (s : St), i < j → j + d = D.1 2 → d < n → IvV D tx s → ∃ t, l_X11_wall_71 r56 n (nI g) x2 L.1 L.2.1 L.2.2 (nI i) (nI j) s = r56 (nI g) x2 (wIn D g i d j L).1 (wIn D g i d j L).2.1 (wIn D g i d j L).2.2 (nI (i + 1)) t ∧ Kp [91] s t ∧ IvV D tx t := by
  have hW := hB.1.2.2.1
  intro d
  induction d with
  | zero =>
    intro j n L s hij hj hn h
    obtain ⟨n, rfl⟩ : ∃ m, n = m + 1 := ⟨n - 1, by omega⟩
    refine ⟨s, ?_, Kp.rf, h⟩
    show b_X11_wall_71 r56 (l_X11_wall_71 r56 n) _ _ _ _ _ _ (nI j) s = _
    unfold b_X11_wall_71
    rw [h.1.1 (74, 24, 2) (by decide), if_pos (nI_le (a := D.1 2) (b := j) (by omega) (by omega)), nI_1]
    rfl
  | succ d ih =>
    intro j n L s hij hj hn h
    obtain ⟨n, rfl⟩ : ∃ m, n = m + 1 := ⟨n - 1, by omega⟩
    have hlt : j < D.1 2 := by omega
    obtain ⟨t1, t2, a1, a2, a3, a4, a5⟩ := pair_m hB hg1 hg2 hi hlt (by omega) h
    obtain ⟨t, b1, b2, b3⟩ := ih (j + 1) n (wst D g i j L) t2 (by omega) (by omega) (by omega) a5
    refine ⟨t, ?_, a4.tr b2, b3⟩
    refine Eq.trans ?_ b1
    show b_X11_wall_71 r56 (l_X11_wall_71 r56 n) _ _ _ _ _ _ (nI j) s = _
    unfold b_X11_wall_71 wst
    rw [h.1.1 (74, 24, 2) (by decide), if_neg (nI_ge (a := j) (b := D.1 2) hlt (by omega)), a1, bd_ok, a2, bd_ok, a3, bd_ok, nI_1]
    by_cases c : smI (dW D i j) g (D.1 0) < L.1
    · rw [if_pos c, if_pos c]
    · rw [if_neg c, if_neg c]
def wAns (x2 : Int32) (L : W3) : Int32 := if L.2.1 = -1 then -1 else if x2 = 1 then L.2.1 else if x2 = 2 then L.2.2 else L.1
theorem w56_l {D : Dt} {tx : Nat → Int32} (hB : Bd D) {g : Nat} (hg1 : 1 ≤ g) (hg2 : g ≤ 30) (x2 : Int32) : ∀ (d i n : Nat) (L : W3) (s : St), i + d = D.1 2 → d < n → IvV D tx s → ∃ t, l_X11_wall_56 n (nI g) x2 L.1 L.2.1 L.2.2 (nI i) s = some (wAns x2 (wOut D g d i L), t) ∧ Kp [91] s t ∧ IvV D tx t := by
  have hW := hB.1.2.2.1
  intro d
  induction d with
  | zero =>
    intro i n L s hi hn h
    obtain ⟨n, rfl⟩ : ∃ m, n = m + 1 := ⟨n - 1, by omega⟩
    refine ⟨s, ?_, Kp.rf, h⟩
    show b_X11_wall_56 (l_X11_wall_56 n) _ _ _ _ _ (nI i) s = some (wAns x2 L, s)
    unfold b_X11_wall_56 wAns
    rw [h.1.1 (74, 24, 2) (by decide), if_pos (nI_le (a := D.1 2) (b := i) (by omega) (by omega))]
    split
    · rfl
    · split
      · rfl
      · split <;> rfl
  | succ d ih =>
    intro i n L s hi hn h
    obtain ⟨n, rfl⟩ : ∃ m, n = m + 1 := ⟨n - 1, by omega⟩
    have hlt : i < D.1 2 := by omega
    obtain ⟨u, a1, a2, a3⟩ := w71_l hB hg1 hg2 hlt x2 (l_X11_wall_56 n) (D.1 2 - (i + 1)) (i + 1) FU L s (by omega) (by omega) (FU_lt (by omega)) h
    obtain ⟨t, b1, b2, b3⟩ := ih (i + 1) n _ u (by omega) (by omega) a3
    refine ⟨t, ?_, a2.tr b2, b3⟩
    show b_X11_wall_56 (l_X11_wall_56 n) _ _ _ _ _ (nI i) s = _
    unfold b_X11_wall_56
    rw [h.1.1 (74, 24, 2) (by decide), if_neg (nI_ge (a := i) (b := D.1 2) hlt (by omega)), nI_1]
    exact a1.trans b1
theorem call_wall {D : Dt} {tx : Nat → Int32} {s : St} (h : Rel D tx s) (x1 x2 : Int32) : Ok (f_X10_wall x1 x2) (f_X11_wall x1 x2) s := by
  obtain ⟨hB, hR, hS⟩ := id h
  have hb : Bw D := Bd_w hB
  have hP := hb.1.1
  have hW := hb.1.2.2.1
  have e18 : ∀ t : St, RM D tx t → (rI t 74 18 = 0 ↔ D.1 0 = 0) := fun t ht => by
    rw [ht.1 (74, 18, 0) (by decide)]
    exact nI_eq (a := D.1 0) (b := 0) (by omega) (by omega)
  by_cases hw : x2 < 0 ∨ 3 < x2
  · refine rel0 h (r := -1) ?_ ?_
    · unfold f_X10_wall
      by_cases n0 : x2 < 0
      · rw [if_pos n0]
      · rw [if_neg n0, if_pos (hw.resolve_left n0)]
    · unfold f_X11_wall
      by_cases z : D.1 0 = 0
      · rw [if_pos ((e18 s hS).mpr z)]
      · rw [if_neg (fun q => z ((e18 s hS).mp q))]
        rcases thirty x1 with hx | ⟨g, hg1, hg2, rfl⟩
        · rw [inM0 hx, bd_ok, if_pos rfl]
        · rw [inPace1 hg1 hg2, bd_ok, if_neg (by decide), inM0 hw, bd_ok, if_pos rfl]
  · have hlo : ¬ x2 < 0 := fun q => hw (Or.inl q)
    have hhi : ¬ (3 : Int32) < x2 := fun q => hw (Or.inr q)
    rcases thirty x1 with hx | ⟨g, hg1, hg2, rfl⟩
    · refine rel0 h (r := -1) ?_ ?_
      · unfold f_X10_wall
        rw [if_neg hlo, if_neg hhi, cPace0 hx, bd_ok, if_pos rfl]
      · unfold f_X11_wall
        by_cases z : D.1 0 = 0
        · rw [if_pos ((e18 s hS).mpr z)]
        · rw [if_neg (fun q => z ((e18 s hS).mp q)), inM0 hx, bd_ok, if_pos rfl]
    · by_cases z : D.1 0 = 0
      · refine rel0 h (r := -1) ?_ ?_
        · unfold f_X10_wall
          rw [if_neg hlo, if_neg hhi, cPace1 hg1 hg2, bd_ok, if_neg (by decide), cPlant hR hb, bd_ok, if_pos z, if_pos rfl]
        · unfold f_X11_wall
          rw [if_pos ((e18 s hS).mpr z)]
      · obtain ⟨u, a1, a2, a3⟩ := prepare_c hR hb
        have hR1 : RC D tx u := hR.kp a2 (by decide)
        have hc0 : ∀ (k : St → Option (Int32 × St)), f_X10_wall (nI g) x2 s = (if x2 = 0 then bd (f_X0_sum (nI g) u) fun r t => some (r, t) else bd (f_X0_seekChange (nI g) u) fun _ t => if rI t 45 8 = -1 then some (-1, t) else if x2 = 1 then some (rI t 45 8, t) else if x2 = 2 then some (rI t 45 9, t) else some (rI t 45 10, t)) := fun _ => by
          unfold f_X10_wall
          rw [if_neg hlo, if_neg hhi, cPace1 hg1 hg2, bd_ok, if_neg (by decide), cPlant hR hb, bd_ok, if_neg z, if_neg (by decide), a1, bd_ok]
        have hc := hc0 (fun _ => none)
        have hm : ∀ t v, RM D tx t → f_X11_findShown t = some ((), v) → RM D tx v → Qrp D v → f_X11_wall (nI g) x2 t = (if x2 = 0 then some (smI D g (D.1 0), v) else l_X11_wall_56 FU (nI g) x2 (smI D g (D.1 0)) (-1) (-1) 0 v) := fun t v ht hv hv2 hq => by
          unfold f_X11_wall
          rw [if_neg (fun q => z ((e18 t ht).mp q)), inPace1 hg1 hg2, bd_ok, if_neg (by decide), inM1 hlo hhi, bd_ok, if_neg (by decide), hv, bd_ok, sum_m hv2 hb hq hg1 hg2, bd_ok]
        by_cases e0 : x2 = 0
        · have hS1 : RM D tx u := RM_kpC hS a2 (by decide)
          obtain ⟨v, b1, b2, b3, b4⟩ := findShown_m hS1 hb
          have hS2 : RM D tx v := hS1.kp b2 (by decide)
          refine ⟨smI D g (D.1 0), u, v, D, tx, ?_, ?_, hB, RC_kpM hR1 b2 (by decide), hS2⟩
          · rw [hc, if_pos e0, sum_c hR1 hb a3 hg1 hg2, bd_ok]
          · rw [hm u v hS1 b1 hS2 ⟨b3, b4⟩, if_pos e0]
        · obtain ⟨t, c1, c2, c3, c4, c5, c6, c7⟩ := seekChange_c (tx := tx) hB hg1 hg2 hR1 a3
          have kt : Kp (46 :: PL) s t := (a2.mono (by decide)).tr (c2.mono (by decide))
          have hS1 : RM D tx t := RM_kpC hS kt (by decide)
          obtain ⟨v, b1, b2, b3, b4⟩ := findShown_m hS1 hb
          have hS2 : RM D tx v := hS1.kp b2 (by decide)
          obtain ⟨y, d1, d2, d3, d4⟩ := w56_l (tx := tx) hB hg1 hg2 x2 (D.1 2) 0 FU (smI D g (D.1 0), -1, -1) v (by omega) (FU_lt (by omega)) ⟨hS2, b3, b4⟩
          refine ⟨wAns x2 (wBest D g), t, y, D, tx, ?_, ?_, hB, RC_kpM (RC_kpM c3 b2 (by decide)) d2 (by decide), d3⟩
          · rw [hc, if_neg e0, c1, bd_ok, c5, c6, c7]
            unfold wAns
            split
            · rfl
            · split
              · rfl
              · split <;> rfl
          · rw [hm t v hS1 b1 hS2 ⟨b3, b4⟩, if_neg e0]
            exact d1
