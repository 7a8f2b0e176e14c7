/-! ===== told: second by second, the reference ===== -/
/-- what is shown at second v, if point p alone fails -/
def sv (D : Dt) (p v : Nat) : Int32 := shI D (lb D ((1 : Int32) <<< (nI p &&& 31)) v) (zr D)
/-- what is left to read -/
def lfb (D : Dt) (p : Nat) (rd : Int32) (v : Nat) : Int32 := sv D p v &&& (rd ^^^ -1)
/-- one more is read -/
def adb (D : Dt) (rd x : Int32) : Int32 := rd ||| ((1 : Int32) <<< (nI (nq D x (D.1 2) - 1) &&& 31))
def tdR (D : Dt) (p g : Nat) : Nat → Int32 → Nat → Int32
  | 0, _, _ => -1
  | k + 1, rd, v => if D.1 6 < v then -1 else if lfb D p rd v = 0 then tdR D p g k rd (v + 1) else if D.1 6 < v + g then -1 else if mbN D (adb D rd (lfb D p rd v) &&& (skB D ^^^ -1)) (D.1 0) = 1 then nI (v + g) else tdR D p g k (adb D rd (lfb D p rd v)) (v + g)
theorem tdR_far {D : Dt} {p g : Nat} {rd : Int32} {v : Nat} (h : D.1 6 < v) : ∀ k, tdR D p g k rd v = -1
  | 0 => rfl
  | _ + 1 => if_pos h
theorem tdR_in {D : Dt} {p g : Nat} {rd : Int32} {v : Nat} (h : ¬ D.1 6 < v) (k : Nat) : tdR D p g (k + 1) rd v = if lfb D p rd v = 0 then tdR D p g k rd (v + 1) else if D.1 6 < v + g then -1 else if mbN D (adb D rd (lfb D p rd v) &&& (skB D ^^^ -1)) (D.1 0) = 1 then nI (v + g) else tdR D p g k (adb D rd (lfb D p rd v)) (v + g) := if_neg h
theorem tdR_st {D : Dt} {p g : Nat} (hg : 1 ≤ g) : ∀ (k j : Nat) (rd : Int32) (v : Nat), D.1 6 < k + v → D.1 6 < j + v → tdR D p g k rd v = tdR D p g j rd v := by
  intro k
  induction k with
  | zero =>
    intro j rd v h1 h2
    rw [tdR_far (by omega), tdR_far (by omega)]
  | succ k ih =>
    intro j rd v h1 h2
    by_cases h : D.1 6 < v
    · rw [tdR_far h, tdR_far h]
    · obtain ⟨j, rfl⟩ : ∃ m, j = m + 1 := ⟨j - 1, by omega⟩
      rw [tdR_in h, tdR_in h, ih j rd (v + 1) (by omega) (by omega), ih j (adb D rd (lfb D p rd v)) (v + g) (by omega) (by omega)]
def td (D : Dt) (p g : Nat) (rd : Int32) (v : Nat) : Int32 := tdR D p g (D.1 6 + 1) rd v
theorem td_far {D : Dt} {p g : Nat} {rd : Int32} {v : Nat} (h : D.1 6 < v) : td D p g rd v = -1 := tdR_far h _
theorem td_in {D : Dt} {p g : Nat} (hg : 1 ≤ g) {rd : Int32} {v : Nat} (h : ¬ D.1 6 < v) : td D p g rd v = if lfb D p rd v = 0 then td D p g rd (v + 1) else if D.1 6 < v + g then -1 else if mbN D (adb D rd (lfb D p rd v) &&& (skB D ^^^ -1)) (D.1 0) = 1 then nI (v + g) else td D p g (adb D rd (lfb D p rd v)) (v + g) := by
  unfold td
  rw [tdR_in h, tdR_st hg (D.1 6) (D.1 6 + 1) rd (v + 1) (by omega) (by omega), tdR_st hg (D.1 6) (D.1 6 + 1) _ (v + g) (by omega) (by omega)]
theorem sv_low {D : Dt} (hb : Bw D) (p v : Nat) {i : Nat} (hi : i < 32) (h : D.1 2 ≤ i) : bt (sv D p v) i = false := by
  have hW := hb.1.2.2.1
  unfold sv
  rw [bt_shI _ _ _ i hi]
  unfold lb
  rw [b_bitsI _ (by omega) i hi]
  have : ¬ i < D.1 2 := by omega
  simp [this]
theorem nq_some {D : Dt} (hb : Bw D) {p v : Nat} {rd : Int32} (h : lfb D p rd v ≠ 0) : nq D (lfb D p rd v) (D.1 2) ≠ 0 := fun z => h (by
  have := (nq_spec D (lfb D p rd v) (D.1 2)).1 z
  apply b_ext
  intro i hi
  rw [b_0]
  by_cases hw : i < D.1 2
  · exact this i hw
  · unfold lfb
    rw [b_and, sv_low hb p v hi (by omega)]
    rfl)
theorem told50_l {D : Dt} {tx : Nat → Int32} {s : St} (hS : RM D tx s) (hb : Bw D) (rec : Int32 → Int32 → Int32 → Int32 → St → Option (Int32 × St)) (x1 x2 rd xv x : Int32) : ∀ (d i n : Nat), i + d = D.1 2 → d < n → l_X11_toldAt_50 rec n x1 x2 rd xv x (nI (nq D x i) - 1) (nI i) s = (if rI s 74 36 < xv + x2 then rec x1 x2 (rd ||| ((1 : Int32) <<< ((nI (nq D x (D.1 2)) - 1) &&& 31))) (xv + x2) s else bd (f_X11_mayBe (rd ||| ((1 : Int32) <<< ((nI (nq D x (D.1 2)) - 1) &&& 31))) s) fun r t => if r = 1 then some (xv + x2, t) else rec x1 x2 (rd ||| ((1 : Int32) <<< ((nI (nq D x (D.1 2)) - 1) &&& 31))) (xv + x2) t) := by
  have hW := hb.1.2.2.1
  intro d
  induction d with
  | zero =>
    intro i n hi hn
    obtain ⟨n, rfl⟩ : ∃ m, n = m + 1 := ⟨n - 1, by omega⟩
    have e : i = D.1 2 := by omega
    subst e
    show b_X11_toldAt_50 rec (l_X11_toldAt_50 rec n) _ _ _ _ _ _ (nI (D.1 2)) s = _
    unfold b_X11_toldAt_50
    rw [hS.1 (74, 24, 2) (by decide), if_pos (nI_le (Nat.le_refl (D.1 2)) (by omega))]
  | succ d ih =>
    intro i n hi hn
    obtain ⟨n, rfl⟩ : ∃ m, n = m + 1 := ⟨n - 1, by omega⟩
    have hlt : i < D.1 2 := by omega
    have hnext := ih (i + 1) n (by omega) (by omega)
    have hsu : nq D x (i + 1) = if bt x i then (if nq D x i = 0 then i + 1 else if D.2 12 (nq D x i - 1) ≤ D.2 12 i then nq D x i else i + 1) else nq D x i := rfl
    have hp12 := (hb.2.2.2.1 i hlt).2.2.2.2
    rw [← hnext]
    show b_X11_toldAt_50 rec (l_X11_toldAt_50 rec n) _ _ _ _ _ _ (nI i) s = _
    unfold b_X11_toldAt_50
    rw [hS.1 (74, 24, 2) (by decide), if_neg (nI_ge (a := i) (b := D.1 2) hlt (by omega)), hsu]
    by_cases c : bt x i = true
    · rw [if_pos ((b_at1 x (by omega)).mpr c), if_pos c]
      by_cases z : nq D x i = 0
      · rw [if_pos (show nI (nq D x i) - 1 = -1 by rw [z]; decide), if_pos z, nI_1, nI_pred]
      · obtain ⟨g1, g2, g3⟩ := (nq_spec D x i).2 z
        have hq12 := (hb.2.2.2.1 (nq D x i - 1) (by omega)).2.2.2.2
        have e1 : nI (nq D x i) - 1 = nI (nq D x i - 1) := by
          obtain ⟨m, hm⟩ : ∃ m, nq D x i = m + 1 := ⟨nq D x i - 1, by omega⟩
          rw [hm, nI_pred]; rfl
        rw [if_neg (show ¬ nI (nq D x i) - 1 = -1 by rw [e1]; exact ne_m1 (by omega)), if_neg z, e1, gi_nI (lt_n hlt hW) (by decide), gi_nI (n := 12) (by omega) (by decide), cl_nI (n := i) (by omega), cl_nI (n := nq D x i - 1) (by omega), gArrM hS (c := 91) (a := 12) (n := 2) (by decide) hlt, gArrM hS (c := 91) (a := 12) (n := 2) (by decide) (i := nq D x i - 1) (by omega)]
        by_cases q : D.2 12 (nq D x i - 1) ≤ D.2 12 i
        · rw [if_pos (nI_le q (by omega)), if_pos q, nI_1, e1]
        · rw [if_neg (nI_ge (Nat.lt_of_not_le q) (by omega)), if_neg q, nI_1, nI_pred]
    · rw [if_neg (fun q => c ((b_at1 x (by omega)).mp q)), if_neg c, nI_1]
theorem told5_l {D : Dt} {tx : Nat → Int32} {s : St} (hS : RM D tx s) (hb : Bw D) (h99 : ∀ p, p < D.1 0 → rI s 99 p = wh D p) {p g : Nat} (hp : p < D.1 0) (h100 : ∀ v, v ≤ D.1 6 → rI s 100 (601 * p + v) = sv D p v) (hg1 : 1 ≤ g) (hg2 : g ≤ 30) : ∀ (k n : Nat) (rd : Int32) (v : Nat), D.1 6 < k + v → k < n → v ≤ 2000 → l_X11_toldAt_5 n (nI p) (nI g) rd (nI v) s = some (td D p g rd v, s) := by
  have hW := hb.1.2.2.1
  have hP := hb.1.1
  have hT := hb.1.2.2.2.2.2.2.1.2
  intro k
  induction k with
  | zero =>
    intro n rd v h1 hn hv
    obtain ⟨n, rfl⟩ : ∃ m, n = m + 1 := ⟨n - 1, by omega⟩
    show b_X11_toldAt_5 (l_X11_toldAt_5 n) _ _ _ (nI v) s = _
    unfold b_X11_toldAt_5
    rw [hS.1 (74, 36, 6) (by decide), if_pos (nI_lt (a := D.1 6) (b := v) (by omega) (by omega)), td_far (by omega)]
  | succ k ih =>
    intro n rd v h1 hn hv
    obtain ⟨n, rfl⟩ : ∃ m, n = m + 1 := ⟨n - 1, by omega⟩
    show b_X11_toldAt_5 (l_X11_toldAt_5 n) _ _ _ (nI v) s = _
    unfold b_X11_toldAt_5
    by_cases hf : D.1 6 < v
    · rw [hS.1 (74, 36, 6) (by decide), if_pos (nI_lt (a := D.1 6) (b := v) (by omega) (by omega)), td_far (by omega)]
    · have ei : (601 : Int32) * nI p + nI v = nI (601 * p + v) := by
        rw [show (601 : Int32) = nI 601 from rfl, pk_mul, nI_add]
      rw [hS.1 (74, 36, 6) (by decide), if_neg (nI_nlt (a := D.1 6) (b := v) (by omega) (by omega)), ei, gi_nI (j := 601 * p + v) (n := 7212) (by omega) (by decide), cl_nI (n := 601 * p + v) (by omega), h100 v (by omega), td_in hg1 hf]
      show (if lfb D p rd v = 0 then l_X11_toldAt_5 n (nI p) (nI g) rd (nI v + 1) s else l_X11_toldAt_50 (l_X11_toldAt_5 n) FU (nI p) (nI g) rd (nI v) (lfb D p rd v) (-1) 0 s) = _
      by_cases z : lfb D p rd v = 0
      · rw [if_pos z, if_pos z, nI_1]
        exact ih n rd (v + 1) (by omega) (by omega) (by omega)
      · have hq := nq_some hb z
        obtain ⟨g1, _, _⟩ := (nq_spec D (lfb D p rd v) (D.1 2)).2 hq
        have e1 : nI (nq D (lfb D p rd v) (D.1 2)) - 1 = nI (nq D (lfb D p rd v) (D.1 2) - 1) := by
          obtain ⟨m, hm⟩ : ∃ m, nq D (lfb D p rd v) (D.1 2) = m + 1 := ⟨nq D (lfb D p rd v) (D.1 2) - 1, by omega⟩
          rw [hm, nI_pred]; rfl
        have h50 := told50_l hS hb (l_X11_toldAt_5 n) (nI p) (nI g) rd (nI v) (lfb D p rd v) (D.1 2) 0 FU (by omega) (FU_lt (by omega))
        rw [show nI (nq D (lfb D p rd v) 0) - 1 = -1 from nI_m1, show nI 0 = 0 from rfl] at h50
        rw [if_neg z, if_neg z, h50, e1, nI_add, hS.1 (74, 36, 6) (by decide)]
        show (if nI (D.1 6) < nI (v + g) then l_X11_toldAt_5 n (nI p) (nI g) (adb D rd (lfb D p rd v)) (nI (v + g)) s else bd (f_X11_mayBe (adb D rd (lfb D p rd v)) s) fun r t => if r = 1 then some (nI (v + g), t) else l_X11_toldAt_5 n (nI p) (nI g) (adb D rd (lfb D p rd v)) (nI (v + g)) t) = _
        by_cases hf2 : D.1 6 < v + g
        · rw [if_pos (nI_lt (a := D.1 6) (b := v + g) hf2 (by omega)), if_pos hf2, ih n _ (v + g) (by omega) (by omega) (by omega), td_far hf2]
        · rw [if_neg (nI_nlt (a := D.1 6) (b := v + g) (by omega) (by omega)), if_neg hf2, mayBe_m hS hb h99, bd_ok]
          have hle : mbN D (adb D rd (lfb D p rd v) &&& (skB D ^^^ -1)) (D.1 0) ≤ D.1 0 := fb_ct_le _ _
          by_cases o : mbN D (adb D rd (lfb D p rd v) &&& (skB D ^^^ -1)) (D.1 0) = 1
          · rw [if_pos (by rw [o]; rfl), if_pos o]
          · rw [if_neg (show ¬ nI (mbN D (adb D rd (lfb D p rd v) &&& (skB D ^^^ -1)) (D.1 0)) = (1 : Int32) from fun q => o ((nI_eq (b := 1) (by omega) (by omega)).mp q)), if_neg o]
            exact ih n _ (v + g) (by omega) (by omega) (by omega)
theorem toldAt_m {D : Dt} {tx : Nat → Int32} {s : St} (hS : RM D tx s) (hb : Bw D) (h99 : ∀ p, p < D.1 0 → rI s 99 p = wh D p) {p g : Nat} (hp : p < D.1 0) (h100 : ∀ v, v ≤ D.1 6 → rI s 100 (601 * p + v) = sv D p v) (hg1 : 1 ≤ g) (hg2 : g ≤ 30) : f_X11_toldAt (nI p) (nI g) s = some (td D p g 0 0, s) := by
  have hT := hb.1.2.2.2.2.2.2.1.2
  exact told5_l hS hb h99 hp h100 hg1 hg2 (D.1 6 + 1) FU 0 0 (by omega) (FU_lt (by omega)) (by omega)
/-! what is shown, second by second -/
theorem fs23_l {D : Dt} {tx : Nat → Int32} (hb : Bw D) (rec : Int32 → St → Option (Unit × St)) {p : Nat} (hp : p < D.1 0) : ∀ (d v n : Nat) (s : St), v + d = D.1 6 + 1 → d < n → RM D tx s → (∀ q, q < D.1 0 → rI s 97 q = nI (fl D ((1 : Int32) <<< (nI p &&& 31)) q)) → (∀ u, u < v → rI s 100 (601 * p + u) = sv D p u) → ∃ u, l_X11_findShown_23 rec n (nI p) (nI v) s = rec (nI (p + 1)) u ∧ Kp [100] s u ∧ (∀ q, q < 601 * p → rI u 100 q = rI s 100 q) ∧ ∀ v, v ≤ D.1 6 → rI u 100 (601 * p + v) = sv D p v := by
  have hP := hb.1.1
  have hT := hb.1.2.2.2.2.2.2.1.2
  intro d
  induction d with
  | zero =>
    intro v n s hi hn hS h97 h100
    obtain ⟨n, rfl⟩ : ∃ m, n = m + 1 := ⟨n - 1, by omega⟩
    refine ⟨s, ?_, Kp.rf, fun q _ => rfl, fun u hu => h100 u (by omega)⟩
    show b_X11_findShown_23 rec (l_X11_findShown_23 rec n) (nI p) (nI v) s = _
    unfold b_X11_findShown_23
    rw [hS.1 (74, 36, 6) (by decide), if_pos (nI_lt (a := D.1 6) (b := v) (by omega) (by omega)), nI_1]
  | succ d ih =>
    intro v n s hi hn hS h97 h100
    obtain ⟨n, rfl⟩ : ∃ m, n = m + 1 := ⟨n - 1, by omega⟩
    have ei : (601 : Int32) * nI p + nI v = nI (601 * p + v) := by
      rw [show (601 : Int32) = nI 601 from rfl, pk_mul, nI_add]
    obtain ⟨w, b1, b2, b3, b4⟩ := ih (v + 1) n (wI s 100 (601 * p + v) (sv D p v)) (by omega) (by omega) (hS.kp (ks := [100]) (Kp_wI Kp.rf (by decide) _ _) (by decide)) (fun q hq => by rw [rI_nk (by decide)]; exact h97 q hq) (fun u hu => by
      by_cases e : u = v
      · subst e; exact rI_same _ _ _ _
      · rw [rI_nj (by omega)]; exact h100 u (by omega))
    refine ⟨w, ?_, Kp.tr (Kp_wI Kp.rf (by decide) _ _) b2, fun q hq => by rw [b3 q hq, rI_nj (by omega)], b4⟩
    show b_X11_findShown_23 rec (l_X11_findShown_23 rec n) (nI p) (nI v) s = _
    unfold b_X11_findShown_23
    rw [hS.1 (74, 36, 6) (by decide), if_neg (nI_nlt (a := D.1 6) (b := v) (by omega) (by omega)), litBits_m hS hb h97 (v := v) (by omega), bd_ok, shown_m hS hb _ 0 (fun r _ => rest_m r), bd_ok, ei, gi_nI (j := 601 * p + v) (n := 7212) (by omega) (by decide), cl_nI (n := 601 * p + v) (by omega), nI_1]
    exact b1
theorem fs6_l {D : Dt} {tx : Nat → Int32} (hb : Bw D) : ∀ (d p n : Nat) (s : St), p + d = D.1 0 → d < n → RM D tx s → (∀ q, q < p → ∀ v, v ≤ D.1 6 → rI s 100 (601 * q + v) = sv D q v) → ∃ u, l_X11_findShown_6 n (nI p) s = some ((), u) ∧ Kp [97, 100] s u ∧ ∀ q, q < D.1 0 → ∀ v, v ≤ D.1 6 → rI u 100 (601 * q + v) = sv D q v := by
  have hP := hb.1.1
  have hT := hb.1.2.2.2.2.2.2.1.2
  intro d
  induction d with
  | zero =>
    intro p n s hi hn hS h100
    obtain ⟨n, rfl⟩ : ∃ m, n = m + 1 := ⟨n - 1, by omega⟩
    refine ⟨s, ?_, Kp.rf, fun q hq => h100 q (by omega)⟩
    show b_X11_findShown_6 (l_X11_findShown_6 n) (nI p) s = _
    unfold b_X11_findShown_6
    rw [hS.1 (74, 18, 0) (by decide), if_pos (nI_le (a := D.1 0) (b := p) (by omega) (by omega))]
  | succ d ih =>
    intro p n s hi hn hS h100
    obtain ⟨n, rfl⟩ : ∃ m, n = m + 1 := ⟨n - 1, by omega⟩
    have hlt : p < D.1 0 := by omega
    obtain ⟨u, a1, a2, a3⟩ := find_m hS hb ((1 : Int32) <<< (nI p &&& 31))
    have hS1 : RM D tx u := hS.kp a2 (by decide)
    obtain ⟨w, b1, b2, b3, b4⟩ := fs23_l (tx := tx) hb (l_X11_findShown_6 n) hlt (D.1 6 + 1) 0 FU u (by omega) (FU_lt (by omega)) hS1 a3 (fun q hq => absurd hq (Nat.not_lt_zero q))
    obtain ⟨z, c1, c2, c3⟩ := ih (p + 1) n w (by omega) (by omega) (hS1.kp b2 (by decide)) (fun q hq v hv => by
      by_cases e : q = p
      · subst e; exact b4 v hv
      · rw [b3 _ (by omega), Kp_rI a2 (by decide)]; exact h100 q (by omega) v hv)
    refine ⟨z, ?_, (a2.mono (by decide)).tr ((b2.mono (by decide)).tr c2), c3⟩
    show b_X11_findShown_6 (l_X11_findShown_6 n) (nI p) s = _
    unfold b_X11_findShown_6
    rw [hS.1 (74, 18, 0) (by decide), if_neg (nI_ge (a := p) (b := D.1 0) hlt (by omega)), a1, bd_ok]
    exact b1.trans c1
theorem findShown_m {D : Dt} {tx : Nat → Int32} {s : St} (hS : RM D tx s) (hb : Bw D) : ∃ u, f_X11_findShown s = some ((), u) ∧ Kp [97, 99, 100] s u ∧ (∀ p, p < D.1 0 → rI u 99 p = wh D p) ∧ ∀ q, q < D.1 0 → ∀ v, v ≤ D.1 6 → rI u 100 (601 * q + v) = sv D q v := by
  have hP := hb.1.1
  obtain ⟨u, a1, a2, a3⟩ := signs_m hS hb
  obtain ⟨w, b1, b2, b3⟩ := fs6_l (tx := tx) hb (D.1 0) 0 FU u (by omega) (FU_lt (by omega)) (hS.kp a2 (by decide)) (fun q hq => absurd hq (Nat.not_lt_zero q))
  refine ⟨w, ?_, (a2.mono (by decide)).tr (b2.mono (by decide)), fun p hp => by rw [Kp_rI b2 (by decide)]; exact a3 p hp, b3⟩
  unfold f_X11_findShown
  rw [a1, bd_ok]
  exact b1
