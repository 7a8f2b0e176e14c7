/-! ===== told: the class tells as the reference ===== -/
def PL : List Nat := [29, 30, 31, 34, 43, 45, 49, 50, 51, 52, 53, 54, 55, 56, 57, 58, 59, 60, 61, 62, 63, 64, 65, 66, 67, 68, 69, 70, 71, 72, 73]
theorem PL_50 : ∀ p, p < 12 → 50 + p ∈ PL := by decide
theorem PL_62 : ∀ p, p < 12 → 62 + p ∈ PL := by decide
theorem prep_l {D : Dt} {tx : Nat → Int32} (hb : Bw D) : ∀ (d i n : Nat) (s : St), i + d = D.1 0 → d < n → RC D tx s → (∀ p, p < i → ∃ ns, StP D p s ns) → ∃ u, l_X0_prepare_20 n (nI i) s = some ((), u) ∧ Kp PL s u ∧ (∀ j, rI u 43 j = rI s 43 j) ∧ (∀ j, rI u 45 j = rI s 45 j) ∧ ∀ p, p < D.1 0 → ∃ ns, StP D p u ns := by
  have hP := hb.1.1
  intro d
  induction d with
  | zero =>
    intro i n s hi hn hR hst
    obtain ⟨n, rfl⟩ : ∃ m, n = m + 1 := ⟨n - 1, by omega⟩
    refine ⟨s, ?_, Kp.rf, fun _ => rfl, fun _ => rfl, fun p hp => hst p (by omega)⟩
    show b_X0_prepare_20 (l_X0_prepare_20 n) (nI i) s = _
    unfold b_X0_prepare_20
    rw [hR.1 (8, 0, 0) (by decide), if_pos (nI_le (a := D.1 0) (b := i) (by omega) (by omega))]
  | succ d ih =>
    intro i n s hi hn hR hst
    obtain ⟨n, rfl⟩ : ∃ m, n = m + 1 := ⟨n - 1, by omega⟩
    have hlt : i < D.1 0 := by omega
    obtain ⟨u, a1, a2, a3⟩ := light_c hR hb ((1 : Int32) <<< (nI i &&& 31))
    have hR1 : RC D tx u := hR.kp a2 (by decide)
    obtain ⟨t, ns, b1, b2, b3, b4⟩ := setStages_c hR1 hb hlt a3
    have hR2 : RC D tx t := hR1.kp b2 (fun c hc => by
      simp only [List.mem_cons, List.not_mem_nil, or_false] at hc ⊢
      omega)
    have kt : Kp PL s t := (a2.mono (by decide)).tr (b2.mono (fun k hk => by
      simp only [List.mem_cons, List.not_mem_nil, or_false] at hk
      rcases hk with rfl | rfl | rfl
      · decide
      · exact PL_50 i (by omega)
      · exact PL_62 i (by omega)))
    have keep : ∀ k j, k ∉ [29, 30, 31, 34] → k ∉ [49, 50 + i, 62 + i] → rI t k j = rI s k j := fun k j h1 h2 => by
      rw [Kp_rI b2 h2, Kp_rI a2 h1]
    obtain ⟨z, c1, c2, c3, c4, c5⟩ := ih (i + 1) n t (by omega) (by omega) hR2 (fun p hp => by
      by_cases e : p = i
      · subst e; exact ⟨ns, b4⟩
      · obtain ⟨m, q1, q2, q3, q4, q5⟩ := hst p (by omega)
        refine ⟨m, q1, q2, ?_, q4, fun j hj => ?_⟩
        · rw [b3 p e, Kp_rI a2 (by decide)]; exact q3
        · obtain ⟨r1, r2, r3⟩ := q5 j hj
          refine ⟨r1, ?_, ?_⟩
          · rw [keep _ _ (by simp only [List.mem_cons, List.not_mem_nil, or_false]; omega) (by simp only [List.mem_cons, List.not_mem_nil, or_false]; omega)]; exact r2
          · rw [keep _ _ (by simp only [List.mem_cons, List.not_mem_nil, or_false]; omega) (by simp only [List.mem_cons, List.not_mem_nil, or_false]; omega)]; exact r3)
    refine ⟨z, ?_, kt.tr c2, fun j => ?_, fun j => ?_, c5⟩
    · show b_X0_prepare_20 (l_X0_prepare_20 n) (nI i) s = _
      unfold b_X0_prepare_20
      rw [hR.1 (8, 0, 0) (by decide), if_neg (nI_ge (a := i) (b := D.1 0) hlt (by omega)), a1, bd_ok, b1, bd_ok, nI_1]
      exact c1
    · rw [c3, keep _ _ (by decide) (by simp only [List.mem_cons, List.not_mem_nil, or_false]; omega)]
    · rw [c4, keep _ _ (by decide) (by simp only [List.mem_cons, List.not_mem_nil, or_false]; omega)]
/-- the class has prepared -/
def Prp (D : Dt) (s : St) : Prop := (∀ p, p < D.1 0 → rI s 43 p = wh D p) ∧ rI s 45 7 = skB D ∧ ∀ p, p < D.1 0 → ∃ ns, StP D p s ns
theorem prepare_c {D : Dt} {tx : Nat → Int32} {s : St} (hR : RC D tx s) (hb : Bw D) : ∃ u, f_X0_prepare s = some ((), u) ∧ Kp PL s u ∧ Prp D u := by
  have hP := hb.1.1
  obtain ⟨u, a1, a2, a3⟩ := load_c hR hb
  have hR1 : RC D tx u := hR.kp a2 (by decide)
  have k1 : Kp PL s (wI u 45 7 (skB D)) := Kp_wI (a2.mono (by decide)) (by decide) _ _
  obtain ⟨t, b1, b2, b3, b4, b5⟩ := prep_l (tx := tx) hb (D.1 0) 0 FU (wI u 45 7 (skB D)) (by omega) (FU_lt (by omega)) (hR.kp k1 (by decide)) (fun p hp => absurd hp (Nat.not_lt_zero p))
  refine ⟨t, ?_, k1.tr b2, fun p hp => ?_, ?_, b5⟩
  · unfold f_X0_prepare
    rw [a1, bd_ok, stuckLit_c hR1 hb, bd_ok]
    exact b1
  · rw [b3, rI_nk (by decide)]; exact a3 p hp
  · rw [b4, rI_same]
theorem stageBy_l {D : Dt} {s : St} {p ns : Nat} (hp : p < 12) (hs : StP D p s ns) {v : Nat} (hv : v < 1000000) : ∀ (d k n : Nat), k + d + 1 = ns → d < n → stg D ((1 : Int32) <<< (nI p &&& 31)) k ≤ v → ∃ K, K < ns ∧ stg D ((1 : Int32) <<< (nI p &&& 31)) K ≤ v ∧ v < stg D ((1 : Int32) <<< (nI p &&& 31)) (K + 1) ∧ l_X0_stageBy_3 n (nI p) (nI v) (nI k) s = some (nI K, s) := by
  obtain ⟨h1, h2, h3, h4, h5⟩ := hs
  intro d
  induction d with
  | zero =>
    intro k n hk hn hle
    obtain ⟨n, rfl⟩ : ∃ m, n = m + 1 := ⟨n - 1, by omega⟩
    refine ⟨k, by omega, hle, ?_, ?_⟩
    · rw [show k + 1 = ns by omega, h4]; exact hv
    · show b_X0_stageBy_3 (l_X0_stageBy_3 n) _ _ (nI k) s = _
      unfold b_X0_stageBy_3
      rw [gi_nI (j := p) (n := 12) hp (by decide), cl_nI (n := p) (by omega), h3, nI_1, if_pos (nI_le (a := ns) (b := k + 1) (by omega) (by omega))]
  | succ d ih =>
    intro k n hk hn hle
    obtain ⟨n, rfl⟩ : ∃ m, n = m + 1 := ⟨n - 1, by omega⟩
    obtain ⟨q1, q2, q3⟩ := h5 (k + 1) (by omega)
    have hb : l_X0_stageBy_3 (n + 1) (nI p) (nI v) (nI k) s = if nI v < nI (stg D ((1 : Int32) <<< (nI p &&& 31)) (k + 1)) then some (nI k, s) else l_X0_stageBy_3 n (nI p) (nI v) (nI (k + 1)) s := by
      show b_X0_stageBy_3 (l_X0_stageBy_3 n) _ _ (nI k) s = _
      unfold b_X0_stageBy_3
      rw [gi_nI (j := p) (n := 12) hp (by decide), cl_nI (n := p) (by omega), h3, nI_1, if_neg (nI_ge (a := k + 1) (b := ns) (by omega) (by omega)), gi_nI (j := p) (n := 12) hp (by decide), gi_nI (j := k + 1) (n := 13) (by omega) (by decide), cl_nI (n := k + 1) (by omega), q2]
    by_cases c : v < stg D ((1 : Int32) <<< (nI p &&& 31)) (k + 1)
    · refine ⟨k, by omega, hle, c, ?_⟩
      rw [hb, if_pos (nI_lt c (by omega))]
    · obtain ⟨K, r1, r2, r3, r4⟩ := ih (k + 1) n (by omega) (by omega) (by omega)
      refine ⟨K, r1, r2, r3, ?_⟩
      rw [hb, if_neg (nI_nlt (a := v) (by omega) (by omega))]
      exact r4
theorem td_skip {D : Dt} {p g : Nat} (hg : 1 ≤ g) {rd : Int32} {v : Nat} (hz : lfb D p rd v = 0) : ∀ d, v + d ≤ nc D ((1 : Int32) <<< (nI p &&& 31)) v → td D p g rd v = td D p g rd (v + d)
  | 0, _ => rfl
  | d + 1, h => by
    rw [td_skip hg hz d (by omega)]
    by_cases f : D.1 6 < v + d
    · rw [td_far f, td_far (by omega)]
    · have e : lfb D p rd (v + d) = 0 := by
        rw [← hz]
        unfold lfb sv
        rw [lb_const (v := v) (u := v + d) (by omega) (by omega)]
      rw [td_in hg f, if_pos e]
      rfl
def unN (D : Dt) (rd : Int32) : Nat := fb_ct (fun w => !bt rd w) (D.1 2)
theorem unN_step {D : Dt} (hb : Bw D) {p v : Nat} {rd : Int32} (h : lfb D p rd v ≠ 0) : unN D (adb D rd (lfb D p rd v)) + 1 ≤ unN D rd := by
  have hW := hb.1.2.2.1
  have hq := nq_some hb h
  obtain ⟨g1, g2, _⟩ := (nq_spec D (lfb D p rd v) (D.1 2)).2 hq
  have hw : nq D (lfb D p rd v) (D.1 2) - 1 < D.1 2 := by omega
  have hrd : bt rd (nq D (lfb D p rd v) (D.1 2) - 1) = false := by
    unfold lfb at g2
    rw [b_and, b_xor, b_m1 _ (by unfold lfb at hw; omega)] at g2
    have := g2
    unfold lfb
    revert this
    cases bt rd _ <;> simp
  have ha : ∀ w, w < D.1 2 → bt (adb D rd (lfb D p rd v)) w = (bt rd w || decide (w = nq D (lfb D p rd v) (D.1 2) - 1)) := fun w hw2 => by
    unfold adb
    rw [b_or, b_one (by omega) (by omega)]
  refine ct_lt (i := nq D (lfb D p rd v) (D.1 2) - 1) ?_ ?_ (D.1 2) (fun k hk q => ?_) hw
  · simp [hrd]
  · simp [ha _ hw]
  · simp only [ha k hk] at q
    revert q
    cases bt rd k <;> simp
theorem tell_l {D : Dt} {tx : Nat → Int32} {s : St} (hR : RC D tx s) (hb : Bw D) (hpr : Prp D s) {p ns g : Nat} (hp : p < D.1 0) (hs : StP D p s ns) (hg1 : 1 ≤ g) (hg2 : g ≤ 30) : ∀ (m c n k : Nat) (rd : Int32) (v : Nat), chN D ((1 : Int32) <<< (nI p &&& 31)) v + unN D rd ≤ m → c + m ≤ 24 → m < n → v ≤ 780 → k < ns → stg D ((1 : Int32) <<< (nI p &&& 31)) k ≤ v → l_X0_tell_11 n (nI p) (nI g) (nI v) (nI k) rd (nI c) s = some (td D p g rd v, s) := by
  have hW := hb.1.2.2.1
  have hP := hb.1.1
  have hT := hb.1.2.2.2.2.2.2.1.2
  obtain ⟨h43, h457, _⟩ := hpr
  intro m
  induction m with
  | zero =>
    intro c n k rd v hm hc hn hv hk hle
    obtain ⟨n, rfl⟩ : ∃ m, n = m + 1 := ⟨n - 1, by omega⟩
    obtain ⟨K, r1, r2, r3, r4⟩ := stageBy_l (D := D) (p := p) (by omega) hs (v := v) (by omega) (ns - 1 - k) k FU (by omega) (by have := hs.1; exact FU_lt (by omega)) hle
    obtain ⟨q0, q1, q2, q3, q4⟩ := hs
    obtain ⟨w1, w2, w3⟩ := q4 K r1
    have hsv : sv D p v = sv D p (stg D ((1 : Int32) <<< (nI p &&& 31)) K) := by
      unfold sv
      rw [lb_const r2 r3]
    have hnc : nc D ((1 : Int32) <<< (nI p &&& 31)) v = stg D ((1 : Int32) <<< (nI p &&& 31)) (K + 1) := nc_const r2 r3
    show b_X0_tell_11 (l_X0_tell_11 n) _ _ (nI v) _ _ (nI c) s = _
    unfold b_X0_tell_11
    rw [if_neg (show ¬ (25 : Int32) ≤ nI c from nI_ge (a := c) (b := 25) (by omega) (by omega)), show f_X0_stageBy (nI p) (nI k) (nI v) s = _ from r4, bd_ok, gi_nI (j := p) (n := 12) (by omega) (by decide), gi_nI (j := K) (n := 13) (by omega) (by decide), cl_nI (n := p) (by omega), cl_nI (n := K) (by omega), w3, ← hsv]
    have z : lfb D p rd v = 0 := by
      by_cases z : lfb D p rd v = 0
      · exact z
      · have := unN_step hb z
        omega
    have hend : ¬ K + 1 < ns := fun q => by
      have := chN_step (D := D) (h := (1 : Int32) <<< (nI p &&& 31)) (v := v) (by rw [hnc]; exact (q4 (K + 1) q).1)
      omega
    rw [show sv D p v &&& (rd ^^^ -1) = 0 from z, if_pos rfl, gi_nI (j := p) (n := 12) (by omega) (by decide), q2, nI_1, if_pos (nI_le (a := ns) (b := K + 1) (by omega) (by omega))]
    have e : K + 1 = ns := by omega
    rw [td_skip hg1 z (D.1 6 + 1) (by rw [hnc, e, q3]; omega), td_far (by omega)]
  | succ m ih =>
    intro c n k rd v hm hc hn hv hk hle
    obtain ⟨n, rfl⟩ : ∃ m, n = m + 1 := ⟨n - 1, by omega⟩
    obtain ⟨K, r1, r2, r3, r4⟩ := stageBy_l (D := D) (p := p) (by omega) hs (v := v) (by omega) (ns - 1 - k) k FU (by omega) (by have := hs.1; exact FU_lt (by omega)) hle
    obtain ⟨q0, q1, q2, q3, q4⟩ := id hs
    obtain ⟨w1, w2, w3⟩ := q4 K r1
    have hsv : sv D p v = sv D p (stg D ((1 : Int32) <<< (nI p &&& 31)) K) := by
      unfold sv
      rw [lb_const r2 r3]
    have hnc : nc D ((1 : Int32) <<< (nI p &&& 31)) v = stg D ((1 : Int32) <<< (nI p &&& 31)) (K + 1) := nc_const r2 r3
    show b_X0_tell_11 (l_X0_tell_11 n) _ _ (nI v) _ _ (nI c) s = _
    unfold b_X0_tell_11
    rw [if_neg (show ¬ (25 : Int32) ≤ nI c from nI_ge (a := c) (b := 25) (by omega) (by omega)), show f_X0_stageBy (nI p) (nI k) (nI v) s = _ from r4, bd_ok, gi_nI (j := p) (n := 12) (by omega) (by decide), gi_nI (j := K) (n := 13) (by omega) (by decide), cl_nI (n := p) (by omega), cl_nI (n := K) (by omega), w3, ← hsv]
    by_cases z : lfb D p rd v = 0
    · rw [show sv D p v &&& (rd ^^^ -1) = 0 from z, if_pos rfl, gi_nI (j := p) (n := 12) (by omega) (by decide), q2, nI_1, nI_1]
      by_cases hend : K + 1 < ns
      · obtain ⟨y1, y2, y3⟩ := q4 (K + 1) hend
        have hch := chN_step (D := D) (h := (1 : Int32) <<< (nI p &&& 31)) (v := v) (by rw [hnc]; exact y1)
        rw [hnc] at hch
        have hG := stg_G hb y1
        rw [if_neg (nI_ge (a := K + 1) (b := ns) hend (by omega)), gi_nI (j := p) (n := 12) (by omega) (by decide), gi_nI (j := K + 1) (n := 13) (by omega) (by decide), cl_nI (n := K + 1) (by omega), y2]
        rw [td_skip hg1 z (stg D ((1 : Int32) <<< (nI p &&& 31)) (K + 1) - v) (by rw [hnc]; omega), show v + (stg D ((1 : Int32) <<< (nI p &&& 31)) (K + 1) - v) = stg D ((1 : Int32) <<< (nI p &&& 31)) (K + 1) by omega]
        exact ih (c + 1) n K rd _ (by omega) (by omega) (by omega) hG r1 (by omega)
      · rw [if_pos (nI_le (a := ns) (b := K + 1) (by omega) (by omega))]
        have e : K + 1 = ns := by omega
        rw [td_skip hg1 z (D.1 6 + 1) (by rw [hnc, e, q3]; omega), td_far (by omega)]
    · have hun := unN_step hb z
      have hle2 : mbN D (adb D rd (lfb D p rd v) &&& (skB D ^^^ -1)) (D.1 0) ≤ D.1 0 := fb_ct_le _ _
      have hch := chN_mono (D := D) (h := (1 : Int32) <<< (nI p &&& 31)) (v := v) (u := v + g) (by omega)
      show (if lfb D p rd v = 0 then _ else bd (f_X0_nearest (lfb D p rd v) s) _) = _
      rw [if_neg z, nearest_c hR hb, bd_ok, hR.1 (42, 4, 6) (by decide), nI_add, h457]
      show (if nI (v + g) ≤ nI (D.1 6) then bd (f_X0_countMayBe (adb D rd (lfb D p rd v) &&& (skB D ^^^ -1)) s) fun r t => if r = 1 then some (nI (v + g), t) else l_X0_tell_11 n (nI p) (nI g) (nI (v + g)) (nI K) (adb D rd (lfb D p rd v)) (nI c + 1) t else some (-1, s)) = _
      by_cases f : v + g ≤ D.1 6
      · rw [if_pos (nI_le f (by omega)), mayBe_c hR hb h43, bd_ok, td_in hg1 (by omega), if_neg z, if_neg (show ¬ D.1 6 < v + g by omega)]
        by_cases o : mbN D (adb D rd (lfb D p rd v) &&& (skB D ^^^ -1)) (D.1 0) = 1
        · rw [if_pos (by rw [o]; rfl), if_pos o]
        · rw [if_neg (show ¬ nI (mbN D (adb D rd (lfb D p rd v) &&& (skB D ^^^ -1)) (D.1 0)) = (1 : Int32) from fun q => o ((nI_eq (b := 1) (by omega) (by omega)).mp q)), if_neg o, nI_1]
          exact ih (c + 1) n K _ (v + g) (by omega) (by omega) (by omega) (by omega) r1 (by omega)
      · rw [if_neg (nI_ge (a := D.1 6) (b := v + g) (by omega) (by omega))]
        by_cases f2 : D.1 6 < v
        · rw [td_far f2]
        · rw [td_in hg1 f2, if_neg z, if_pos (by omega)]
theorem tell_c {D : Dt} {tx : Nat → Int32} {s : St} (hR : RC D tx s) (hb : Bw D) (hpr : Prp D s) {p g : Nat} (hp : p < D.1 0) (hg1 : 1 ≤ g) (hg2 : g ≤ 30) : f_X0_tell (nI p) (nI g) s = some (td D p g 0 0, s) := by
  have hW := hb.1.2.2.1
  obtain ⟨ns, hs⟩ := hpr.2.2 p hp
  have h1 : chN D ((1 : Int32) <<< (nI p &&& 31)) 0 ≤ D.1 2 := fb_ct_le _ _
  have h2 : unN D 0 ≤ D.1 2 := fb_ct_le _ _
  exact tell_l hR hb hpr hp hs hg1 hg2 24 0 FU 0 0 0 (by omega) (by omega) (FU_lt (by omega)) (by omega) hs.2.1 (Nat.le_refl 0)
theorem thirty (x : Int32) : (x < 1 ∨ 30 < x) ∨ ∃ v : Nat, 1 ≤ v ∧ v ≤ 30 ∧ x = nI v := by
  rcases sixty x with h | ⟨v, h1, h2, rfl⟩
  · left
    refine h.imp id (fun q => ?_)
    rw [fa_lt] at q ⊢
    have e60 : (60 : Int32).toInt = 60 := by decide
    have e30 : (30 : Int32).toInt = 30 := by decide
    omega
  · by_cases c : v ≤ 30
    · exact Or.inr ⟨v, h1, c, rfl⟩
    · exact Or.inl (Or.inr (nI_lt (a := 30) (b := v) (by omega) (by omega)))
theorem cPace0 {x : Int32} (h : x < 1 ∨ 30 < x) (s : St) : f_X10_isPace x s = some (0, s) := by
  unfold f_X10_isPace
  by_cases h0 : x < 1
  · rw [if_pos h0]
  · rw [if_neg h0, if_pos (h.resolve_left h0)]
theorem cPace1 {v : Nat} (h1 : 1 ≤ v) (h2 : v ≤ 30) (s : St) : f_X10_isPace (nI v) s = some (1, s) := by
  unfold f_X10_isPace
  rw [if_neg (show ¬ nI v < (1 : Int32) from nI_nlt (a := v) (b := 1) h1 (by omega)), if_neg (show ¬ (30 : Int32) < nI v from nI_nlt (a := 30) (b := v) h2 (by omega))]
theorem inPace1 {v : Nat} (h1 : 1 ≤ v) (h2 : v ≤ 30) (s : St) : f_X11_in (nI v) 1 30 s = some (1, s) := inM1 (show ¬ nI v < (1 : Int32) from nI_nlt (a := v) (b := 1) h1 (by omega)) (show ¬ (30 : Int32) < nI v from nI_nlt (a := 30) (b := v) h2 (by omega))
theorem call_told {D : Dt} {tx : Nat → Int32} {s : St} (h : Rel D tx s) (x1 x2 : Int32) : Ok (f_X10_told x1 x2) (f_X11_told x1 x2) s := by
  obtain ⟨hB, hR, hS⟩ := id h
  have hb : Bw D := Bd_w hB
  have hP := hb.1.1
  rcases three x1 (n := D.1 0) (by omega) with hx | ⟨p, hp, rfl⟩
  · refine rel0 h (r := -1) ?_ ?_
    · unfold f_X10_told; rw [cPoint0 hR hx, bd_ok, if_pos rfl]
    · unfold f_X11_told; rw [mPoint0 hS hb hx, bd_ok, if_pos rfl]
  · rcases thirty x2 with hx | ⟨g, hg1, hg2, rfl⟩
    · refine rel0 h (r := -1) ?_ ?_
      · unfold f_X10_told; rw [cPoint1 hR hb hp, bd_ok, if_neg (by decide), cPace0 hx, bd_ok, if_pos rfl]
      · unfold f_X11_told; rw [mPoint1 hS hb hp, bd_ok, if_neg (by decide), inM0 hx, bd_ok, if_pos rfl]
    · obtain ⟨u, a1, a2, a3⟩ := prepare_c hR hb
      have hR1 : RC D tx u := hR.kp a2 (by decide)
      have hS1 : RM D tx u := RM_kpC hS a2 (by decide)
      obtain ⟨t, b1, b2, b3, b4⟩ := findShown_m hS1 hb
      have hS2 : RM D tx t := hS1.kp b2 (by decide)
      refine ⟨td D p g 0 0, u, t, D, tx, ?_, ?_, hB, RC_kpM hR1 b2 (by decide), hS2⟩
      · unfold f_X10_told
        rw [cPoint1 hR hb hp, bd_ok, if_neg (by decide), cPace1 hg1 hg2, bd_ok, if_neg (by decide), a1, bd_ok, tell_c hR1 hb a3 hp hg1 hg2, bd_ok]
      · unfold f_X11_told
        rw [mPoint1 hS1 hb hp, bd_ok, if_neg (by decide), inPace1 hg1 hg2, bd_ok, if_neg (by decide), b1, bd_ok, toldAt_m hS2 hb b3 hp (b4 p hp) hg1 hg2, bd_ok]
