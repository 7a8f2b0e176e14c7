/-! ===== the text: end, feed ===== -/
theorem RC_text {D : Dt} {tx tx1 : Nat → Int32} {s t : St} (h : RC D tx s) {n : Nat} (hk : Kp [1, 2] s t) (hn : rI t 1 1 = nI n) (ht : ∀ i, i < n → rI t 2 i = tx1 i) : RC (dS D 7 n) tx1 t := by
  obtain ⟨a, b, c1, d, f⟩ := h
  refine ⟨fun q hq => ?_, fun q hq i hi => ?_, fun i hi => ?_, ?_, fun i hi => ?_⟩
  · simp only [scalC, List.mem_cons, List.not_mem_nil, or_false] at hq
    rcases hq with rfl | rfl | rfl | rfl | rfl | rfl | rfl | rfl
    · rw [Kp_rI hk (by decide), dS_ne (by decide)]; exact a (8, 0, 0) (by decide)
    · rw [Kp_rI hk (by decide), dS_ne (by decide)]; exact a (8, 1, 1) (by decide)
    · rw [Kp_rI hk (by decide), dS_ne (by decide)]; exact a (8, 2, 2) (by decide)
    · rw [Kp_rI hk (by decide), dS_ne (by decide)]; exact a (8, 3, 3) (by decide)
    · rw [Kp_rI hk (by decide), dS_ne (by decide)]; exact a (35, 2, 4) (by decide)
    · rw [Kp_rI hk (by decide), dS_ne (by decide)]; exact a (38, 6, 5) (by decide)
    · rw [Kp_rI hk (by decide), dS_ne (by decide)]; exact a (42, 4, 6) (by decide)
    · rw [show rI t 1 1 = nI n from hn]; exact congrArg nI dS_eq.symm
  · have hi2 : i < D.1 q.2.2 := by
      rw [dS_ne] at hi
      · exact hi
      · simp only [arrC, List.mem_cons, List.not_mem_nil, or_false] at hq
        rcases hq with rfl | rfl | rfl | rfl | rfl | rfl | rfl | rfl | rfl | rfl | rfl | rfl <;> decide
    show rI t q.1 i = nI (D.2 q.2.1 i)
    rw [← b q hq i hi2]
    apply Kp_rI hk
    simp only [arrC, List.mem_cons, List.not_mem_nil, or_false] at hq
    rcases hq with rfl | rfl | rfl | rfl | rfl | rfl | rfl | rfl | rfl | rfl | rfl | rfl <;> decide
  · rw [Kp_rI hk (by decide)]
    exact c1 i (by rw [dS_ne (by decide)] at hi; exact hi)
  · rw [Kp_rI hk (by decide), dS_ne (by decide)]
    exact d
  · rw [dS_eq] at hi
    exact ht i hi
theorem RM_text {D : Dt} {tx tx1 : Nat → Int32} {s t : St} (h : RM D tx s) {n : Nat} (hk : Kp [74, 75] s t) (hj : ∀ j, j ≠ 1 → rI t 74 j = rI s 74 j) (hn : rI t 74 1 = nI n) (ht : ∀ i, i < n → rI t 75 i = tx1 i) : RM (dS D 7 n) tx1 t := by
  obtain ⟨a, b, c1, f⟩ := h
  refine ⟨fun q hq => ?_, fun q hq i hi => ?_, fun i hi => ?_, fun i hi => ?_⟩
  · simp only [scalM, List.mem_cons, List.not_mem_nil, or_false] at hq
    rcases hq with rfl | rfl | rfl | rfl | rfl | rfl | rfl | rfl
    · rw [hj _ (by decide), dS_ne (by decide)]; exact a (74, 18, 0) (by decide)
    · rw [hj _ (by decide), dS_ne (by decide)]; exact a (74, 20, 1) (by decide)
    · rw [hj _ (by decide), dS_ne (by decide)]; exact a (74, 24, 2) (by decide)
    · rw [hj _ (by decide), dS_ne (by decide)]; exact a (74, 29, 3) (by decide)
    · rw [hj _ (by decide), dS_ne (by decide)]; exact a (74, 32, 4) (by decide)
    · rw [hj _ (by decide), dS_ne (by decide)]; exact a (74, 35, 5) (by decide)
    · rw [hj _ (by decide), dS_ne (by decide)]; exact a (74, 36, 6) (by decide)
    · rw [show rI t 74 1 = nI n from hn]; exact congrArg nI dS_eq.symm
  · have hi2 : i < D.1 q.2.2 := by
      rw [dS_ne] at hi
      · exact hi
      · simp only [arrM, List.mem_cons, List.not_mem_nil, or_false] at hq
        rcases hq with rfl | rfl | rfl | rfl | rfl | rfl | rfl | rfl | rfl | rfl | rfl <;> decide
    show rI t q.1 i = nI (D.2 q.2.1 i)
    rw [← b q hq i hi2]
    apply Kp_rI hk
    simp only [arrM, List.mem_cons, List.not_mem_nil, or_false] at hq
    rcases hq with rfl | rfl | rfl | rfl | rfl | rfl | rfl | rfl | rfl | rfl | rfl <;> decide
  · rw [Kp_rI hk (by decide), Kp_rI hk (by decide), Kp_rI hk (by decide)]
    exact c1 i (by rw [dS_ne (by decide)] at hi; exact hi)
  · rw [dS_eq] at hi
    exact ht i hi
theorem Bd_text {D : Dt} (h : Bd D) {n : Nat} (hn : n ≤ 600) : Bd (dS D 7 n) := by
  obtain ⟨h1, h2, h3, h4, h5, h6⟩ := h
  refine ⟨?_, h2, h3, h4, h5, h6⟩
  rw [dS_ne (by decide), dS_ne (by decide), dS_ne (by decide), dS_ne (by decide), dS_ne (by decide), dS_ne (by decide), dS_ne (by decide), dS_eq]
  exact ⟨h1.1, h1.2.1, h1.2.2.1, h1.2.2.2.1, h1.2.2.2.2.1, h1.2.2.2.2.2.1, h1.2.2.2.2.2.2.1, hn⟩
theorem call_end {D : Dt} {tx : Nat → Int32} {s : St} (h : Rel D tx s) (x : Int32) : Ok (f_X10_end x) (f_X11_end x) s := by
  obtain ⟨hb, hc, hm⟩ := id h
  have hn := hb.1.2.2.2.2.2.2.2
  have gc : rI s 1 1 = nI (D.1 7) := hc.1 (1, 1, 7) (by decide)
  have gm : rI s 74 1 = nI (D.1 7) := hm.1 (74, 1, 7) (by decide)
  rcases three x (n := D.1 7 + 1) (by omega) with hx | ⟨v, hv, rfl⟩
  · have hx2 : x < 0 ∨ nI (D.1 7) < x := hx.imp id (fun q => by rw [fa_le, nI_toInt (by omega)] at q; rw [fa_lt, nI_toInt (by omega)]; omega)
    refine rel0 h (r := 0) ?_ ?_
    · unfold f_X10_end
      rw [gc]
      by_cases h0 : x < 0
      · rw [if_pos h0]
      · rw [if_neg h0, if_neg]
        have := hx2.resolve_left h0
        rw [fa_lt] at this; rw [fa_le]; omega
    · unfold f_X11_end
      rw [gm, inM0 hx2, bd_ok, if_pos rfl]
  · have h0 : ¬ nI v < 0 := nI_pos (by omega)
    have h2 : nI v ≤ nI (D.1 7) := nI_le (by omega) (by omega)
    refine ⟨1, wI s 1 1 (nI v), wI (wI s 1 1 (nI v)) 74 1 (nI v), dS D 7 v, tx, ?_, ?_, Bd_text hb (by omega), ?_, ?_⟩
    · unfold f_X10_end; rw [gc, if_neg h0, if_pos h2]
    · unfold f_X11_end
      rw [rI_nk (by decide), gm, inM1 h0 (by rw [fa_lt]; rw [fa_le] at h2; omega), bd_ok, if_neg (by decide)]
    · refine RC_ext (RC_text hc (Kp_wI Kp.rf (by decide) _ _) (rI_same _ _ _ _) (fun i hi => ?_)) (wI_lo (by decide))
      rw [rI_nk (by decide)]
      exact hc.2.2.2.2 i (by omega)
    · refine RM_text (RM_ext hm (wI_hi (by decide))) (Kp_wI Kp.rf (by decide) _ _) (fun j hj => rI_nj hj) (rI_same _ _ _ _) (fun i hi => ?_)
      rw [rI_nk (by decide), rI_nk (by decide)]
      exact hm.2.2.2 i (by omega)
/-- byte k of a word -/
def bw (w : Int32) (k : Nat) : Int32 := vp_nar .byte ((w >>> ([(24 : Int32), 16, 8, 0].getD k 0 &&& 31)).toInt8.toInt32)
theorem addWord_c (w : Int32) {s : St} {n : Nat} (hn : n + 4 ≤ 600) (h : rI s 1 1 = nI n) : ∃ t, f_X8_addWord w s = some ((), t) ∧ Kp [1, 2] s t ∧ rI t 1 1 = nI (n + 4) ∧ ∀ i, rI t 2 i = if n ≤ i ∧ i < n + 4 then bw w (i - n) else rI s 2 i := by
  have step : ∀ (m k : Nat) (u : St) (x x1 v : Int32), rI u 1 1 = nI k → k < 600 → ¬ x < 0 → x + (-8) = x1 → v = vp_nar .byte ((w >>> (x &&& 31)).toInt8.toInt32) → l_X8_addWord_3 (m + 1) w x u = l_X8_addWord_3 m w x1 (wI (wI u 2 k v) 1 1 (nI (k + 1))) := by
    intro m k u x x1 v hu hk hx hx1 hv
    show b_X8_addWord_3 (l_X8_addWord_3 m) w x u = _
    unfold b_X8_addWord_3
    rw [if_neg hx, hu, if_neg (show ¬ (600 : Int32) ≤ nI k from nI_ge (a := k) (b := 600) hk (by decide)), gi_nI hk (by decide), cl_nI (by omega)]
    show l_X8_addWord_3 m w (x + (-8)) (wI (wI u 2 k (vp_nar .byte ((w >>> (x &&& 31)).toInt8.toInt32))) 1 1 (rI (wI u 2 k (vp_nar .byte ((w >>> (x &&& 31)).toInt8.toInt32))) 1 1 + 1)) = _
    rw [rI_nk (by decide), hu, nI_1, hx1, hv]
  have fin : ∀ (m : Nat) (u : St), l_X8_addWord_3 (m + 1) w (-8) u = some ((), u) := by
    intro m u
    show b_X8_addWord_3 (l_X8_addWord_3 m) w (-8) u = _
    unfold b_X8_addWord_3
    rw [if_pos (by decide)]
  refine ⟨wI (wI (wI (wI (wI (wI (wI (wI s 2 n (bw w 0)) 1 1 (nI (n + 1))) 2 (n + 1) (bw w 1)) 1 1 (nI (n + 1 + 1))) 2 (n + 1 + 1) (bw w 2)) 1 1 (nI (n + 1 + 1 + 1))) 2 (n + 1 + 1 + 1) (bw w 3)) 1 1 (nI (n + 1 + 1 + 1 + 1)), ?_, ?_, ?_, ?_⟩
  · show l_X8_addWord_3 (9995 + 1 + 1 + 1 + 1 + 1) w 24 s = _
    rw [step _ n s 24 16 (bw w 0) h (by omega) (by decide) (by decide) rfl]
    rw [step _ (n + 1) _ 16 8 (bw w 1) (rI_same _ _ _ _) (by omega) (by decide) (by decide) rfl]
    rw [step _ (n + 1 + 1) _ 8 0 (bw w 2) (rI_same _ _ _ _) (by omega) (by decide) (by decide) rfl]
    rw [step _ (n + 1 + 1 + 1) _ 0 (-8) (bw w 3) (rI_same _ _ _ _) (by omega) (by decide) (by decide) rfl]
    rw [fin]
  · exact Kp_wI (Kp_wI (Kp_wI (Kp_wI (Kp_wI (Kp_wI (Kp_wI (Kp_wI Kp.rf (by decide) _ _) (by decide) _ _) (by decide) _ _) (by decide) _ _) (by decide) _ _) (by decide) _ _) (by decide) _ _) (by decide) _ _
  · exact rI_same _ _ _ _
  · intro i
    rw [rI_nk (by decide)]
    by_cases e3 : i = n + 1 + 1 + 1
    · rw [e3, rI_same, if_pos (by omega), show n + 1 + 1 + 1 - n = 3 by omega]
    rw [rI_nj e3, rI_nk (by decide)]
    by_cases e2 : i = n + 1 + 1
    · rw [e2, rI_same, if_pos (by omega), show n + 1 + 1 - n = 2 by omega]
    rw [rI_nj e2, rI_nk (by decide)]
    by_cases e1 : i = n + 1
    · rw [e1, rI_same, if_pos (by omega), show n + 1 - n = 1 by omega]
    rw [rI_nj e1, rI_nk (by decide)]
    by_cases e0 : i = n
    · rw [e0, rI_same, if_pos (by omega), Nat.sub_self]
    rw [rI_nj e0, if_neg (by omega)]
/-- the word that byte k of the five comes from -/
def wd5 (a b c d e : Int32) (k : Nat) : Int32 := if k < 4 then a else if k < 8 then b else if k < 12 then c else if k < 16 then d else e
def by5 (a b c d e : Int32) (k : Nat) : Int32 := bw (wd5 a b c d e k) (k % 4)
theorem sh_tab : (List.range 20).all (fun k => decide ((24 : Int32) - (8 * (nI k - nI k / 4 * 4)) = [(24 : Int32), 16, 8, 0].getD (k % 4) 0)) = true := by decide +kernel
theorem sh_k {k : Nat} (h : k < 20) : (24 : Int32) - (8 * (nI k - nI k / 4 * 4)) = [(24 : Int32), 16, 8, 0].getD (k % 4) 0 := by
  have := List.all_eq_true.mp sh_tab k (List.mem_range.mpr h)
  simpa using this
theorem feed_l (a b c d e : Int32) {n : Nat} (hn : n + 20 ≤ 600) : ∀ (r k m : Nat) (s : St), k + r = 20 → r < m → rI s 74 1 = nI (n + k) → ∃ t, l_X11_feed_18 m a b c d e (nI k) s = some (nI (n + 20), t) ∧ Kp [74, 75] s t ∧ (∀ j, j ≠ 1 → rI t 74 j = rI s 74 j) ∧ rI t 74 1 = nI (n + 20) ∧ ∀ i, rI t 75 i = if n + k ≤ i ∧ i < n + 20 then by5 a b c d e (i - n) else rI s 75 i := by
  intro r
  induction r with
  | zero =>
    intro k m s hk hm hs
    obtain ⟨m, rfl⟩ : ∃ q, m = q + 1 := ⟨m - 1, by omega⟩
    have hk2 : k = 20 := by omega
    subst hk2
    refine ⟨s, ?_, Kp.rf, fun _ _ => rfl, hs, fun i => by rw [if_neg (by omega)]⟩
    show b_X11_feed_18 (l_X11_feed_18 m) a b c d e (nI 20) s = _
    unfold b_X11_feed_18
    rw [if_pos (by decide), hs]
  | succ r ih =>
    intro k m s hk hm hs
    obtain ⟨m, rfl⟩ : ∃ q, m = q + 1 := ⟨m - 1, by omega⟩
    have hk2 : k < 20 := by omega
    have hj : l_X11_feed_18 (m + 1) a b c d e (nI k) s = j_X11_feed_71 (l_X11_feed_18 m) a b c d e (nI k) (wd5 a b c d e k) s := by
      show b_X11_feed_18 (l_X11_feed_18 m) a b c d e (nI k) s = _
      unfold b_X11_feed_18 wd5
      rw [if_neg (show ¬ (20 : Int32) ≤ nI k from nI_ge (a := k) (b := 20) hk2 (by decide))]
      by_cases h4 : k < 4
      · rw [if_neg (show ¬ (4 : Int32) ≤ nI k from nI_ge (a := k) (b := 4) h4 (by decide)), if_pos h4]
      rw [if_pos (show (4 : Int32) ≤ nI k from nI_le (a := 4) (b := k) (by omega) (by omega)), if_neg h4]
      by_cases h8 : k < 8
      · rw [if_neg (show ¬ (8 : Int32) ≤ nI k from nI_ge (a := k) (b := 8) h8 (by decide)), if_pos h8]
      rw [if_pos (show (8 : Int32) ≤ nI k from nI_le (a := 8) (b := k) (by omega) (by omega)), if_neg h8]
      by_cases h12 : k < 12
      · rw [if_neg (show ¬ (12 : Int32) ≤ nI k from nI_ge (a := k) (b := 12) h12 (by decide)), if_pos h12]
      rw [if_pos (show (12 : Int32) ≤ nI k from nI_le (a := 12) (b := k) (by omega) (by omega)), if_neg h12]
      by_cases h16 : k < 16
      · rw [if_neg (show ¬ (16 : Int32) ≤ nI k from nI_ge (a := k) (b := 16) h16 (by decide)), if_pos h16]
      rw [if_pos (show (16 : Int32) ≤ nI k from nI_le (a := 16) (b := k) (by omega) (by omega)), if_neg h16]
    have hj2 : j_X11_feed_71 (l_X11_feed_18 m) a b c d e (nI k) (wd5 a b c d e k) s = l_X11_feed_18 m a b c d e (nI (k + 1)) (wI (wI s 75 (n + k) (by5 a b c d e k)) 74 1 (nI (n + (k + 1)))) := by
      unfold j_X11_feed_71
      rw [hs, gi_nI (show n + k < 600 by omega) (by decide), cl_nI (by omega), sh_k hk2]
      show l_X11_feed_18 m a b c d e (nI k + 1) (wI (wI s 75 (n + k) (by5 a b c d e k)) 74 1 (rI (wI s 75 (n + k) (by5 a b c d e k)) 74 1 + 1)) = _
      rw [rI_nk (by decide), hs, nI_1, nI_1]
      rfl
    obtain ⟨t, ht, hkt, hjt, hlt, hbt⟩ := ih (k + 1) m (wI (wI s 75 (n + k) (by5 a b c d e k)) 74 1 (nI (n + (k + 1)))) (by omega) (by omega) (rI_same _ _ _ _)
    refine ⟨t, by rw [hj, hj2, ht], (Kp_wI (Kp_wI Kp.rf (by decide) _ _) (by decide) _ _).tr hkt, fun j hj9 => ?_, hlt, fun i => ?_⟩
    · rw [hjt j hj9, rI_nj hj9, rI_nk (by decide)]
    · rw [hbt i]
      by_cases h1 : n + (k + 1) ≤ i ∧ i < n + 20
      · rw [if_pos h1, if_pos (by omega)]
      · rw [if_neg h1, rI_nk (by decide)]
        by_cases e1 : i = n + k
        · rw [e1, rI_same, if_pos (by omega), show n + k - n = k by omega]
        · rw [rI_nj e1, if_neg (by omega)]
theorem call_feed {D : Dt} {tx : Nat → Int32} {s : St} (h : Rel D tx s) (a b c d e : Int32) : Ok (f_X10_feed a b c d e) (f_X11_feed a b c d e) s := by
  obtain ⟨hb, hc, hm⟩ := id h
  have hn := hb.1.2.2.2.2.2.2.2
  have gc : rI s 1 1 = nI (D.1 7) := hc.1 (1, 1, 7) (by decide)
  have gm : rI s 74 1 = nI (D.1 7) := hm.1 (74, 1, 7) (by decide)
  have hadd : nI (D.1 7) + 20 = nI (D.1 7 + 20) := nI_add (D.1 7) 20
  by_cases hr : D.1 7 + 20 ≤ 600
  · obtain ⟨s1, e1, k1, l1, b1⟩ := addWord_c a (s := s) (n := D.1 7) (by omega) gc
    obtain ⟨s2, e2, k2, l2, b2⟩ := addWord_c b (s := s1) (n := D.1 7 + 4) (by omega) l1
    obtain ⟨s3, e3, k3, l3, b3⟩ := addWord_c c (s := s2) (n := D.1 7 + 4 + 4) (by omega) l2
    obtain ⟨s4, e4, k4, l4, b4⟩ := addWord_c d (s := s3) (n := D.1 7 + 4 + 4 + 4) (by omega) l3
    obtain ⟨s5, e5, k5, l5, b5⟩ := addWord_c e (s := s4) (n := D.1 7 + 4 + 4 + 4 + 4) (by omega) l4
    have k15 := (((k1.tr k2).tr k3).tr k4).tr k5
    have bt5 : ∀ i, i < D.1 7 + 20 → rI s5 2 i = if D.1 7 ≤ i then by5 a b c d e (i - D.1 7) else tx i := by
      intro i hi
      rw [b5 i, b4 i, b3 i, b2 i, b1 i]
      unfold by5 wd5
      by_cases h0 : i < D.1 7
      · rw [if_neg (by omega), if_neg (by omega), if_neg (by omega), if_neg (by omega), if_neg (by omega), if_neg (by omega)]
        exact hc.2.2.2.2 i h0
      rw [if_pos (show D.1 7 ≤ i by omega)]
      by_cases q1 : i < D.1 7 + 4
      · rw [if_neg (by omega), if_neg (by omega), if_neg (by omega), if_neg (by omega), if_pos (by omega), if_pos (show i - D.1 7 < 4 by omega)]
        congr 1
        omega
      by_cases q2 : i < D.1 7 + 8
      · rw [if_neg (by omega), if_neg (by omega), if_neg (by omega), if_pos (by omega), if_neg (show ¬ i - D.1 7 < 4 by omega), if_pos (show i - D.1 7 < 8 by omega)]
        congr 1
        omega
      by_cases q3 : i < D.1 7 + 12
      · rw [if_neg (by omega), if_neg (by omega), if_pos (by omega), if_neg (show ¬ i - D.1 7 < 4 by omega), if_neg (show ¬ i - D.1 7 < 8 by omega), if_pos (show i - D.1 7 < 12 by omega)]
        congr 1
        omega
      by_cases q4 : i < D.1 7 + 16
      · rw [if_neg (by omega), if_pos (by omega), if_neg (show ¬ i - D.1 7 < 4 by omega), if_neg (show ¬ i - D.1 7 < 8 by omega), if_neg (show ¬ i - D.1 7 < 12 by omega), if_pos (show i - D.1 7 < 16 by omega)]
        congr 1
        omega
      · rw [if_pos (by omega), if_neg (show ¬ i - D.1 7 < 4 by omega), if_neg (show ¬ i - D.1 7 < 8 by omega), if_neg (show ¬ i - D.1 7 < 12 by omega), if_neg (show ¬ i - D.1 7 < 16 by omega)]
        congr 1
        omega
    have hm5 := RM_kpC hm k15 (by decide)
    obtain ⟨t, ht, hkt, hjt, hlt, hbt⟩ := feed_l a b c d e (n := D.1 7) hr 20 0 FU s5 (by omega) (FU_lt (by omega)) (by rw [Nat.add_zero]; exact hm5.1 (74, 1, 7) (by decide))
    refine ⟨nI (D.1 7 + 20), s5, t, dS D 7 (D.1 7 + 20), fun i => if D.1 7 ≤ i then by5 a b c d e (i - D.1 7) else tx i, ?_, ?_, Bd_text hb hr, ?_, ?_⟩
    · unfold f_X10_feed f_X8_hasRoom
      rw [gc, hadd, if_neg (show ¬ (600 : Int32) < nI (D.1 7 + 20) from nI_nlt (a := 600) (b := D.1 7 + 20) hr (by decide)), bd_ok, if_neg (by decide), e1, bd_ok, e2, bd_ok, e3, bd_ok, e4, bd_ok, e5, bd_ok, l5]
    · unfold f_X11_feed
      rw [show rI s5 74 1 = nI (D.1 7) from hm5.1 (74, 1, 7) (by decide), hadd, if_pos (show nI (D.1 7 + 20) ≤ (600 : Int32) from nI_le (a := D.1 7 + 20) (b := 600) hr (by decide))]
      exact ht
    · exact RC_kpM (RC_text hc k15 l5 bt5) hkt (by decide)
    · refine RM_text hm5 hkt hjt hlt (fun i hi => ?_)
      rw [hbt i]
      by_cases h0 : D.1 7 ≤ i
      · rw [if_pos (by omega), if_pos h0]
      · rw [if_neg (by omega), if_neg h0]
        exact hm5.2.2.2 i (by omega)
  · refine rel0 h (r := -1) ?_ ?_
    · unfold f_X10_feed f_X8_hasRoom
      rw [gc, hadd, if_pos (show (600 : Int32) < nI (D.1 7 + 20) from nI_lt (a := 600) (b := D.1 7 + 20) (by omega) (by omega)), bd_ok, if_pos rfl]
    · unfold f_X11_feed
      rw [gm, hadd, if_neg (show ¬ nI (D.1 7 + 20) ≤ (600 : Int32) from nI_ge (a := 600) (b := D.1 7 + 20) (by omega) (by omega))]
