/-! ===== the reader: the lag that counts ===== -/
def cntLe (L : Nat → Nat) (n i : Nat) : Nat := fb_ct (fun j => decide (L j ≤ L i)) n
def kthN (L : Nat → Nat) (n r : Nat) : Nat → Nat
  | 0 => 60
  | i + 1 => if cntLe L n i < r then kthN L n r i else min (kthN L n r i) (L i)
theorem kthN_le (L : Nat → Nat) (n r : Nat) : ∀ i, kthN L n r i ≤ 60
  | 0 => Nat.le_refl _
  | i + 1 => by
    have := kthN_le L n r i
    unfold kthN
    split <;> omega
/-- as the reference puts a lag where it belongs -/
def insL (v : Nat) : Nat → (Nat → Nat) → Nat → Nat
  | 0, S => va_up S 0 v
  | k + 1, S => if v < S k then insL v k (va_up S (k + 1) (S k)) else va_up S (k + 1) v
def srt (L : Nat → Nat) : Nat → Nat → Nat
  | 0 => fun _ => 0
  | n + 1 => insL (L n) n (srt L n)
theorem srt_cong {L M : Nat → Nat} : ∀ n, (∀ j, j < n → L j = M j) → srt L n = srt M n
  | 0, _ => rfl
  | n + 1, h => by
    show insL (L n) n (srt L n) = insL (M n) n (srt M n)
    rw [srt_cong n (fun j hj => h j (by omega)), h n (by omega)]
theorem vaN_at (f : Nat → Nat) (k v j : Nat) : va_up f k v j = if j = k then v else f j := by
  by_cases e : j = k
  · simp [va_up, e]
  · simp [va_up, e]
theorem ins0_at (v : Nat) (S : Nat → Nat) (j : Nat) : insL v 0 S j = if j = 0 then v else S j := vaN_at _ _ _ _
theorem insk_at (v k : Nat) (S : Nat → Nat) (j : Nat) : insL v (k + 1) S j = if v < S k then insL v k (va_up S (k + 1) (S k)) j else if j = k + 1 then v else S j := by
  show (if v < S k then insL v k (va_up S (k + 1) (S k)) else va_up S (k + 1) v) j = _
  by_cases c : v < S k
  · rw [if_pos c, if_pos c]
  · rw [if_neg c, if_neg c, vaN_at]
theorem srt_1 (L : Nat → Nat) (j : Nat) : srt L 1 j = if j = 0 then L 0 else 0 := vaN_at _ _ _ _
theorem srt_2 (L : Nat → Nat) (j : Nat) : srt L 2 j = if L 1 < L 0 then (if j = 0 then L 1 else if j = 1 then L 0 else if j = 0 then L 0 else 0) else if j = 1 then L 1 else if j = 0 then L 0 else 0 := by
  show insL (L 1) 1 (srt L 1) j = _
  rw [insk_at, ins0_at, vaN_at, srt_1, srt_1]
  simp
theorem srt_3 (L : Nat → Nat) (j : Nat) : srt L 3 j = if L 2 < srt L 2 1 then (if L 2 < srt L 2 0 then (if j = 0 then L 2 else if j = 1 then srt L 2 0 else if j = 2 then srt L 2 1 else srt L 2 j) else (if j = 1 then L 2 else if j = 2 then srt L 2 1 else srt L 2 j)) else if j = 2 then L 2 else srt L 2 j := by
  show insL (L 2) 2 (srt L 2) j = _
  rw [insk_at, insk_at, ins0_at, vaN_at, vaN_at, vaN_at]
  simp
theorem srt_kth1 (L : Nat → Nat) (h : L 0 ≤ 60) : srt L 1 0 = kthN L 1 1 1 := by
  rw [srt_1]
  simp only [kthN, cntLe, fb_ct]
  simp
  omega
theorem srt_kth2 (L : Nat → Nat) (h0 : L 0 ≤ 60) (h1 : L 1 ≤ 60) : srt L 2 0 = kthN L 2 1 2 ∧ srt L 2 1 = kthN L 2 2 2 := by
  rw [srt_2, srt_2]
  simp only [kthN, cntLe, fb_ct]
  by_cases a : L 0 ≤ L 1
  · by_cases b : L 1 ≤ L 0
    · have : ¬ L 1 < L 0 := by omega
      simp [a, b, this]; omega
    · have : ¬ L 1 < L 0 := by omega
      simp [a, b, this]; omega
  · have b : L 1 ≤ L 0 := by omega
    have : L 1 < L 0 := by omega
    simp [a, b, this]; omega
theorem srt_kth3 (L : Nat → Nat) (h0 : L 0 ≤ 60) (h1 : L 1 ≤ 60) (h2 : L 2 ≤ 60) : srt L 3 0 = kthN L 3 1 3 ∧ srt L 3 1 = kthN L 3 2 3 ∧ srt L 3 2 = kthN L 3 3 3 := by
  rw [srt_3, srt_3, srt_3, srt_2, srt_2, srt_2]
  simp only [kthN, cntLe, fb_ct]
  by_cases a : L 1 < L 0 <;> by_cases a2 : L 0 < L 1 <;> by_cases b : L 2 < L 1 <;> by_cases b2 : L 1 < L 2 <;> by_cases c : L 2 < L 0 <;> by_cases c2 : L 0 < L 2 <;> first | (exfalso; omega) | (
    have e1 : (L 0 ≤ L 1) = ¬ (L 1 < L 0) := by apply propext; omega
    have e2 : (L 1 ≤ L 0) = ¬ (L 0 < L 1) := by apply propext; omega
    have e3 : (L 1 ≤ L 2) = ¬ (L 2 < L 1) := by apply propext; omega
    have e4 : (L 2 ≤ L 1) = ¬ (L 1 < L 2) := by apply propext; omega
    have e5 : (L 0 ≤ L 2) = ¬ (L 2 < L 0) := by apply propext; omega
    have e6 : (L 2 ≤ L 0) = ¬ (L 0 < L 2) := by apply propext; omega
    simp [e1, e2, e3, e4, e5, e6, a, a2, b, b2, c, c2]
    omega)
theorem srt_kth {L : Nat → Nat} {n r : Nat} (hn : n ≤ 3) (hr1 : 1 ≤ r) (hr : r ≤ n) (h : ∀ j, j < n → L j ≤ 60) : srt L n (r - 1) = kthN L n r n := by
  have hh : n = 1 ∨ n = 2 ∨ n = 3 := by omega
  rcases hh with rfl | rfl | rfl
  · have : r = 1 := by omega
    subst this
    exact srt_kth1 L (h 0 (by decide))
  · have := srt_kth2 L (h 0 (by decide)) (h 1 (by decide))
    have hr2 : r = 1 ∨ r = 2 := by omega
    rcases hr2 with rfl | rfl
    · exact this.1
    · exact this.2
  · have := srt_kth3 L (h 0 (by decide)) (h 1 (by decide)) (h 2 (by decide))
    have hr2 : r = 1 ∨ r = 2 ∨ r = 3 := by omega
    rcases hr2 with rfl | rfl | rfl
    · exact this.1
    · exact this.2.1
    · exact this.2.2
/-! the class's -/
theorem lag18_l {s : St} {L : Nat → Nat} {n : Nat} (hn : n ≤ 3) (h6 : ∀ j, j < n → rI s 6 j = nI (L j) ∧ L j ≤ 60) {r i e : Nat} (hr : r ≤ 3) (he : e ≤ 60) (hi : i < n) (rec : Int32 → Int32 → Int32 → Int32 → St → Option (Int32 × St)) : ∀ (d j m : Nat), j + d = n → d < m → l_X4_leastLag_18 rec m (nI n) (nI r) (nI e) (nI i) (nI (fb_ct (fun j => decide (L j ≤ L i)) j)) (nI j) s = rec (nI n) (nI r) (nI (if cntLe L n i < r then e else min e (L i))) (nI (i + 1)) s := by
  obtain ⟨q1, q2⟩ := h6 i hi
  intro d
  induction d with
  | zero =>
    intro j m hj hm
    obtain ⟨m, rfl⟩ : ∃ k, m = k + 1 := ⟨m - 1, by omega⟩
    have e1 : j = n := by omega
    subst e1
    have hle : cntLe L j i ≤ j := fb_ct_le _ _
    show b_X4_leastLag_18 rec (l_X4_leastLag_18 rec m) _ _ _ _ (nI (cntLe L j i)) (nI j) s = _
    unfold b_X4_leastLag_18
    rw [if_pos (nI_le (Nat.le_refl j) (by omega)), nI_1]
    by_cases c : cntLe L j i < r
    · rw [if_pos (nI_lt c (by omega)), if_pos c]
    · rw [if_neg (nI_nlt (a := cntLe L j i) (b := r) (by omega) (by omega)), if_neg c, gi_nI (j := i) (n := 3) (by omega) (by decide), cl_nI (n := i) (by omega), q1, jmin_nI (by omega) (by omega)]
  | succ d ih =>
    intro j m hj hm
    obtain ⟨m, rfl⟩ : ∃ k, m = k + 1 := ⟨m - 1, by omega⟩
    have hlt : j < n := by omega
    obtain ⟨p1, p2⟩ := h6 j hlt
    rw [← ih (j + 1) m (by omega) (by omega), fb_ct_succ]
    show b_X4_leastLag_18 rec (l_X4_leastLag_18 rec m) _ _ _ _ _ (nI j) s = _
    unfold b_X4_leastLag_18
    rw [if_neg (nI_ge (a := j) (b := n) hlt (by omega)), gi_nI (j := j) (n := 3) (by omega) (by decide), gi_nI (j := i) (n := 3) (by omega) (by decide), cl_nI (n := i) (by omega), cl_nI (n := j) (by omega), q1, p1]
    by_cases c : L j ≤ L i
    · rw [if_neg (nI_nlt (a := L i) (b := L j) c (by omega)), if_pos (decide_eq_true c), nI_1, nI_1]
    · rw [if_pos (nI_lt (a := L i) (b := L j) (by omega) (by omega)), if_neg (fun q => c (of_decide_eq_true q)), nI_1]
      rfl
theorem lag6_l {s : St} {L : Nat → Nat} {n : Nat} (hn : n ≤ 3) (h6 : ∀ j, j < n → rI s 6 j = nI (L j) ∧ L j ≤ 60) {r : Nat} (hr : r ≤ 3) : ∀ (d i m : Nat), i + d = n → d < m → l_X4_leastLag_6 m (nI n) (nI r) (nI (kthN L n r i)) (nI i) s = some (nI (kthN L n r n), s) := by
  intro d
  induction d with
  | zero =>
    intro i m hi hm
    obtain ⟨m, rfl⟩ : ∃ k, m = k + 1 := ⟨m - 1, by omega⟩
    have e1 : i = n := by omega
    subst e1
    show b_X4_leastLag_6 (l_X4_leastLag_6 m) _ _ _ (nI i) s = _
    unfold b_X4_leastLag_6
    rw [if_pos (nI_le (Nat.le_refl i) (by omega))]
  | succ d ih =>
    intro i m hi hm
    obtain ⟨m, rfl⟩ : ∃ k, m = k + 1 := ⟨m - 1, by omega⟩
    have hlt : i < n := by omega
    show b_X4_leastLag_6 (l_X4_leastLag_6 m) _ _ _ (nI i) s = _
    unfold b_X4_leastLag_6
    rw [if_neg (nI_ge (a := i) (b := n) hlt (by omega))]
    have := lag18_l hn h6 (r := r) (i := i) (e := kthN L n r i) hr (kthN_le L n r i) hlt (l_X4_leastLag_6 m) n 0 FU (by omega) (FU_lt (by omega))
    refine Eq.trans this ?_
    exact ih (i + 1) m (by omega) (by omega)
theorem leastLag_c {s : St} {L : Nat → Nat} {n : Nat} (hn : n ≤ 3) (h6 : ∀ j, j < n → rI s 6 j = nI (L j) ∧ L j ≤ 60) {r : Nat} (hr : r ≤ 3) : f_X4_leastLag (nI n) (nI r) s = some (nI (kthN L n r n), s) := lag6_l hn h6 hr n 0 FU (by omega) (FU_lt (by omega))
/-! a window's line -/
def pEw (tx : Nat → Int32) (N : Nat) (E : Dt) (p n r : Nat) (L : Nat → Nat) (a : Nat) : Ln := if kdA tx N a = 2 then (true, nxA tx N a, addW E p (kthN L n r n)) else (false, a, E)
def pOf (tx : Nat → Int32) (N : Nat) (E : Dt) (p n : Nat) (L : Nat → Nat) (a : Nat) : Ln :=
  if n ≤ 1 then pEw tx N E p n 1 L a
  else if wrd tx N 7 a then
    if nmb tx N 1 (n + 1) (nxA tx N a) then pEw tx N E p n (vlA tx N (nxA tx N a)) L (nxA tx N (nxA tx N a))
    else (false, nxA tx N a, E)
  else (false, a, E)
def pLg (tx : Nat → Int32) (N : Nat) (E : Dt) (p : Nat) : Nat → Nat → (Nat → Nat) → Nat → Ln
  | 0, n, L, a => pOf tx N E p n L a
  | d + 1, n, L, a => if n = 0 ∨ kdA tx N a = 1 then if nmb tx N 0 61 a then pLg tx N E p d (n + 1) (va_up L n (vlA tx N a)) (nxA tx N a) else (false, a, E) else pOf tx N E p n L a
def pWn (tx : Nat → Int32) (N : Nat) (E : Dt) (A : Nat) : Ln := if hsP tx N E (nxA tx N A) then pLg tx N E (fpN E (wdA tx N (nxA tx N A))) 3 0 (fun _ => 0) (nxA tx N (nxA tx N A)) else (false, nxA tx N A, E)
theorem w109_c {tx : Nat → Int32} {N a : Nat} {E : Dt} {s u : St} (h : SC tx N a E u) (hK : Kp KC s u) (hn : E.1 2 < 12) (p : Nat) {n r : Nat} (hn3 : n ≤ 3) (hr : r ≤ 3) {L : Nat → Nat} (h6 : ∀ j, j < n → rI u 6 j = nI (L j) ∧ L j ≤ 60) {x : Int32} (hx : x = nI r) : LnC tx N s (j_X4_readWindow_d_109 (nI p) (nI n) x u) (pEw tx N E p n r L a) := by
  subst hx
  unfold j_X4_readWindow_d_109 pEw
  by_cases c : kdA tx N a = 2
  · obtain ⟨u2, a2, k2, h2⟩ := takeSemi_y h c
    obtain ⟨u3, a3, k3, h3⟩ := addWindow_c h2 hn p (kthN L n r n)
    rw [if_pos c, a2, bd_ok, if_neg (by decide), leastLag_c hn3 (fun j hj => by rw [Kp_rI k2 (by decide)]; exact h6 j hj) hr, bd_ok, a3, bd_ok]
    exact LnC_y h3 (hK.tr ((k2.mono (by decide)).tr (k3.mono (by decide)))) rfl
  · rw [if_neg c, takeSemi_n h c, bd_ok, if_pos rfl]
    exact LnC_n h hK rfl
theorem w75_c {tx : Nat → Int32} {N a : Nat} {E : Dt} {s u : St} (h : SC tx N a E u) (hK : Kp KC s u) (hn : E.1 2 < 12) (p : Nat) {n : Nat} (hn3 : n ≤ 3) {L : Nat → Nat} (h6 : ∀ j, j < n → rI u 6 j = nI (L j) ∧ L j ≤ 60) : LnC tx N s (j_X4_readWindow_d_75 (nI p) (nI n) u) (pOf tx N E p n L a) := by
  unfold j_X4_readWindow_d_75 pOf
  by_cases c1 : n ≤ 1
  · rw [if_pos (show nI n ≤ (1 : Int32) from nI_le (a := n) (b := 1) c1 (by omega)), if_pos c1]
    exact w109_c h hK hn p hn3 (by decide) h6 rfl
  · rw [if_neg (show ¬ nI n ≤ (1 : Int32) from nI_ge (a := 1) (b := n) (by omega) (by omega)), if_neg c1]
    by_cases c2 : wrd tx N 7 a
    · obtain ⟨u2, a2, k2, h2⟩ := takeWord_y h (k := 7) (by decide) c2
      have K2 : Kp KC s u2 := hK.tr (k2.mono (by decide))
      rw [if_pos c2, a2, bd_ok, if_neg (by decide)]
      by_cases c3 : nmb tx N 1 (n + 1) (nxA tx N a)
      · obtain ⟨u3, a3, k3, v3, h3⟩ := takeNumber_y h2 (by omega) c3 (x1 := 1) (x2 := nI n) rfl (nI_pred n).symm
        have := c3.2.2
        rw [if_pos c3, a3, bd_ok, if_neg (by decide), v3]
        exact w109_c h3 (K2.tr (k3.mono (by decide))) hn p hn3 (by omega) (fun j hj => by rw [Kp_rI k3 (by decide), Kp_rI k2 (by decide)]; exact h6 j hj) rfl
      · rw [if_neg c3, takeNumber_n h2 (by omega) (by omega) c3 (x1 := 1) (x2 := nI n) rfl (nI_pred n).symm, bd_ok, if_pos rfl]
        exact LnC_n h2 K2 rfl
    · rw [if_neg c2, takeWord_n h (by decide) c2, bd_ok, if_pos rfl]
      exact LnC_n h hK rfl
theorem vaN_eq {f : Nat → Nat} {k v : Nat} : va_up f k v k = v := by simp [va_up]
theorem vaN_ne {f : Nat → Nat} {k v j : Nat} (h : j ≠ k) : va_up f k v j = f j := by simp [va_up, h]
theorem w27_l {tx : Nat → Int32} {N : Nat} {E : Dt} {s : St} (hn : E.1 2 < 12) (p : Nat) : ∀ (d n m : Nat) (L : Nat → Nat) (a : Nat) (u : St), n + d = 3 → d < m → SC tx N a E u → Kp KC s u → (∀ j, j < n → rI u 6 j = nI (L j) ∧ L j ≤ 60) → LnC tx N s (l_X4_readWindow_d_27 m (nI p) (nI n) u) (pLg tx N E p d n L a) := by
  intro d
  induction d with
  | zero =>
    intro n m L a u hd hm h hK h6
    obtain ⟨m, rfl⟩ : ∃ k, m = k + 1 := ⟨m - 1, by omega⟩
    show LnC tx N s (b_X4_readWindow_d_27 (l_X4_readWindow_d_27 m) (nI p) (nI n) u) (pOf tx N E p n L a)
    unfold b_X4_readWindow_d_27
    rw [if_pos (show (3 : Int32) ≤ nI n from nI_le (a := 3) (b := n) (by omega) (by omega))]
    exact w75_c h hK hn p (by omega) h6
  | succ d ih =>
    intro n m L a u hd hm h hK h6
    obtain ⟨m, rfl⟩ : ∃ k, m = k + 1 := ⟨m - 1, by omega⟩
    have hstep : b_X4_readWindow_d_27 (l_X4_readWindow_d_27 m) (nI p) (nI n) u = if n = 0 ∨ kdA tx N a = 1 then j_X4_readWindow_d_47 (l_X4_readWindow_d_27 m) (nI p) (nI n) u else j_X4_readWindow_d_75 (nI p) (nI n) u := by
      unfold b_X4_readWindow_d_27
      rw [if_neg (show ¬ (3 : Int32) ≤ nI n from nI_ge (a := n) (b := 3) (by omega) (by omega))]
      by_cases z : n = 0
      · rw [if_pos (show nI n = (0 : Int32) by rw [z]; rfl), if_pos (Or.inl z)]
      · rw [if_neg (show ¬ nI n = (0 : Int32) from nI_ne0 (n := n) (by omega) (by omega))]
        by_cases c : kdA tx N a = 1
        · rw [if_pos ((kC1 h.2.2.1).mpr c), if_pos (Or.inr c)]
        · rw [if_neg (fun q => c ((kC1 h.2.2.1).mp q)), if_neg (fun q => q.elim z c)]
    show LnC tx N s (b_X4_readWindow_d_27 (l_X4_readWindow_d_27 m) (nI p) (nI n) u) (if n = 0 ∨ kdA tx N a = 1 then if nmb tx N 0 61 a then pLg tx N E p d (n + 1) (va_up L n (vlA tx N a)) (nxA tx N a) else (false, a, E) else pOf tx N E p n L a)
    rw [hstep]
    by_cases c : n = 0 ∨ kdA tx N a = 1
    · rw [if_pos c, if_pos c]
      unfold j_X4_readWindow_d_47
      by_cases c2 : nmb tx N 0 61 a
      · obtain ⟨u3, a3, k3, v3, h3⟩ := takeNumber_y h (by decide) c2 (x1 := 0) (x2 := 60) rfl (by decide)
        have hv := c2.2.2
        rw [if_pos c2, a3, bd_ok, if_neg (by decide), gi_nI (j := n) (n := 3) (by omega) (by decide), cl_nI (n := n) (by omega), v3, nI_1]
        have k4 : Kp [6] u3 (wI u3 6 n (nI (vlA tx N a))) := Kp_wI Kp.rf (by decide) _ _
        exact ih (n + 1) m (va_up L n (vlA tx N a)) (nxA tx N a) (wI u3 6 n (nI (vlA tx N a))) (by omega) (by omega) (h3.kp k4 (by decide)) (hK.tr ((k3.mono (by decide)).tr (k4.mono (by decide)))) (fun j hj => by
          by_cases e : j = n
          · subst e; rw [rI_same, vaN_eq]; exact ⟨rfl, by omega⟩
          · rw [rI_nj e, vaN_ne e, Kp_rI k3 (by decide)]; exact h6 j (by omega))
      · rw [if_neg c2, takeNumber_n h (by decide) (by decide) c2 (x1 := 0) (x2 := 60) rfl (by decide), bd_ok, if_pos rfl]
        exact LnC_n h hK rfl
    · rw [if_neg c, if_neg c]
      exact w75_c h hK hn p (by omega) h6
theorem window_c {tx : Nat → Int32} {N A : Nat} {E : Dt} {s : St} (h : SC tx N A E s) (hB : BE E) (hn : E.1 2 < 12) : LnC tx N s (f_X4_readWindow_d s) (pWn tx N E A) := by
  obtain ⟨u1, a1, k1, h1⟩ := adv_S h
  have K1 : Kp KC s u1 := k1.mono (by decide)
  unfold pWn f_X4_readWindow_d
  rw [a1, bd_ok]
  by_cases c1 : hsP tx N E (nxA tx N A)
  · obtain ⟨u2, a2, k2, v2, h2⟩ := takePoint_y h1 hB c1
    have K2 : Kp KC s u2 := K1.tr (k2.mono (by decide))
    rw [if_pos c1, a2, bd_ok, if_neg (by decide), v2]
    exact w27_l hn _ 3 0 FU (fun _ => 0) _ u2 (by omega) (FU_lt (by omega)) h2 K2 (fun j hj => absurd hj (Nat.not_lt_zero j))
  · rw [if_neg c1, takePoint_n h1 hB c1, bd_ok, if_pos rfl]
    exact LnC_n h1 K1 rfl
