/-! ===== explain: rows, spans, the least begin ===== -/
def Kx (s t : St) : Prop := Kp [29, 30, 31, 38, 39, 40, 41] s t ∧ rI t 38 6 = rI s 38 6
theorem Kx_rf (s : St) : Kx s s := ⟨Kp.rf, rfl⟩
theorem Kx_tr {s t u : St} (h1 : Kx s t) (h2 : Kx t u) : Kx s u := ⟨h1.1.tr h2.1, h2.2.trans h1.2⟩
theorem Kx_kp {s t : St} {ks : List Nat} (h : Kp ks s t) (hs : ∀ k ∈ ks, k ∈ [29, 30, 31, 39, 40, 41]) : Kx s t := ⟨h.mono (fun k hk => by
  have := hs k hk
  simp only [List.mem_cons, List.not_mem_nil, or_false] at this ⊢
  omega), Kp_rI h (fun q => by
  have := hs 38 q
  simp at this) 6⟩
theorem Kx_38 {s t : St} (h : Kp [38] s t) (h6 : rI t 38 6 = rI s 38 6) : Kx s t := ⟨h.mono (by decide), h6⟩
theorem RC_x {D : Dt} {tx : Nat → Int32} {s t : St} (h : RC D tx s) (hk : Kx s t) : RC D tx t := h.keep (fun k hm => hk.1 k (by
  simp only [List.mem_cons, List.not_mem_nil, or_false] at hm ⊢
  omega)) (Kp_rI hk.1 (by decide) 4) hk.2 (Kp_rI hk.1 (by decide) 4)
def fsU (D : Dt) (ra : Nat → Nat) : Nat → Nat → Nat
  | 0, _ => 0
  | k + 1, w => if D.2 13 k = w ∧ fsU D ra k w = 0 then ra k + 1 else fsU D ra k w
def fj (D : Dt) (ra : Nat → Nat) : Nat → Nat → Nat → Nat
  | 0, _, _ => 0
  | d + 1, j, w => if D.2 13 j = w then ra j + 1 else fj D ra d (j + 1) w
theorem fsU_fj (D : Dt) (ra : Nat → Nat) (w : Nat) : ∀ d j, fsU D ra (j + d) w = if fsU D ra j w = 0 then fj D ra d j w else fsU D ra j w
  | 0, j => by
    show fsU D ra j w = if fsU D ra j w = 0 then 0 else fsU D ra j w
    split <;> omega
  | d + 1, j => by
    have ih := fsU_fj D ra w d (j + 1)
    rw [show j + 1 + d = j + (d + 1) by omega] at ih
    rw [ih]
    have e1 : fsU D ra (j + 1) w = if D.2 13 j = w ∧ fsU D ra j w = 0 then ra j + 1 else fsU D ra j w := rfl
    have e2 : fj D ra (d + 1) j w = if D.2 13 j = w then ra j + 1 else fj D ra d (j + 1) w := rfl
    rw [e1, e2]
    by_cases c : D.2 13 j = w
    · by_cases z : fsU D ra j w = 0
      · simp [c, z]
      · simp [z]
    · simp [c]
def La (D : Dt) (ra : Nat → Nat) (k : Nat) : Nat := if k = 0 then 0 else ra (k - 1)
theorem fsU_le {D : Dt} {ra : Nat → Nat} (h : ∀ i, i < D.1 4 → ra i ≤ 999) (w : Nat) : ∀ k, k ≤ D.1 4 → fsU D ra k w ≤ 1000
  | 0, _ => by unfold fsU; omega
  | k + 1, hk => by
    have := fsU_le h w k (by omega)
    have := h k (by omega)
    unfold fsU
    split <;> omega
theorem La_le {D : Dt} {ra : Nat → Nat} (h : ∀ i, i < D.1 4 → ra i ≤ 999) {k : Nat} (hk : k ≤ D.1 4) : La D ra k ≤ 999 := by
  unfold La
  split
  · omega
  · exact h _ (by omega)
theorem fill39_l (v : Int32) : ∀ (d i n : Nat) (s : St), i + d = 12 → d < n → ∃ t, l_J7_fill_53178_39_5 n v (nI i) 12 s = some ((), t) ∧ Kp [39] s t ∧ (∀ j, i ≤ j → j < 12 → rI t 39 j = v) ∧ ∀ j, j < i → rI t 39 j = rI s 39 j := by
  intro d
  induction d with
  | zero =>
    intro i n s hi hn
    obtain ⟨n, rfl⟩ : ∃ m, n = m + 1 := ⟨n - 1, by omega⟩
    refine ⟨s, ?_, Kp.rf, fun j h1 h2 => by omega, fun _ _ => rfl⟩
    show b_J7_fill_53178_39_5 (l_J7_fill_53178_39_5 n) v (nI i) 12 s = _
    unfold b_J7_fill_53178_39_5
    rw [if_pos (show (12 : Int32) ≤ nI i from nI_le (a := 12) (b := i) (by omega) (by omega))]
  | succ d ih =>
    intro i n s hi hn
    obtain ⟨n, rfl⟩ : ∃ m, n = m + 1 := ⟨n - 1, by omega⟩
    obtain ⟨t, h1, h2, h3, h4⟩ := ih (i + 1) n (wI s 39 i v) (by omega) (by omega)
    refine ⟨t, ?_, (Kp_wI Kp.rf (by decide) _ _).tr h2, fun j g1 g2 => ?_, fun j g => ?_⟩
    · show b_J7_fill_53178_39_5 (l_J7_fill_53178_39_5 n) v (nI i) 12 s = _
      unfold b_J7_fill_53178_39_5
      rw [if_neg (show ¬ (12 : Int32) ≤ nI i from nI_ge (a := i) (b := 12) (by omega) (by omega)), gi_nI (by omega) (by decide), cl_nI (by omega), nI_1]
      exact h1
    · by_cases e : j = i
      · subst e; rw [h4 j (by omega), rI_same]
      · exact h3 j (by omega) g2
    · rw [h4 j (by omega), rI_nj (by omega)]
theorem fill39 (v : Int32) (s : St) : ∃ t, f_J7_fill_53178_39 v s = some ((), t) ∧ Kp [39] s t ∧ ∀ j, j < 12 → rI t 39 j = v := by
  obtain ⟨t, h1, h2, h3, _⟩ := fill39_l v 12 0 FU s (by omega) (FU_lt (by omega))
  exact ⟨t, h1, h2, fun j hj => h3 j (by omega) hj⟩
theorem loadRows_l {D : Dt} {tx : Nat → Int32} (hb : Bw D) (hw : ∀ i, i < D.1 4 → D.2 13 i < D.1 2) {ra : Nat → Nat} {x1 x2 : Int32} (hra : ∀ i, i < D.1 4 → (if nI i = x1 then x2 else nI (D.2 14 i)) = nI (ra i)) (hle : ∀ i, i < D.1 4 → ra i ≤ 999) : ∀ (d i n : Nat) (s : St), i + d = D.1 4 → d < n → RC D tx s → rI s 38 7 = nI (La D ra i) → (∀ w, w < D.1 2 → rI s 39 w = nI (fsU D ra i w) - 1) → ∃ u, l_X1_loadRows_15 n x1 x2 (nI i) s = some ((), u) ∧ Kx s u ∧ rI u 38 7 = nI (La D ra (D.1 4)) ∧ ∀ w, w < D.1 2 → rI u 39 w = nI (fsU D ra (D.1 4) w) - 1 := by
  have hN := hb.1.2.2.2.2.1
  have hW := hb.1.2.2.1
  intro d
  induction d with
  | zero =>
    intro i n s hi hn hR h7 h39
    obtain ⟨n, rfl⟩ : ∃ m, n = m + 1 := ⟨n - 1, by omega⟩
    have e : i = D.1 4 := by omega
    subst e
    refine ⟨s, ?_, Kx_rf s, h7, h39⟩
    show b_X1_loadRows_15 (l_X1_loadRows_15 n) x1 x2 (nI (D.1 4)) s = _
    unfold b_X1_loadRows_15
    rw [hR.1 (35, 2, 4) (by decide), if_pos (nI_le (Nat.le_refl (D.1 4)) (by omega))]
  | succ d ih =>
    intro i n s hi hn hR h7 h39
    obtain ⟨n, rfl⟩ : ∃ m, n = m + 1 := ⟨n - 1, by omega⟩
    have hlt : i < D.1 4 := by omega
    have hwi := hw i hlt
    have hri := hra i hlt
    have hlei := hle i hlt
    have hfs := fsU_le hle (D.2 13 i) i (by omega)
    have eL : La D ra (i + 1) = ra i := by unfold La; rw [if_neg (by omega)]; rfl
    have key : ∀ t1 : Int32, t1 = nI (ra i) → ∃ u, j_X1_loadRows_56 (l_X1_loadRows_15 n) x1 x2 (nI i) (nI (D.2 13 i)) t1 s = some ((), u) ∧ Kx s u ∧ rI u 38 7 = nI (La D ra (D.1 4)) ∧ ∀ w, w < D.1 2 → rI u 39 w = nI (fsU D ra (D.1 4) w) - 1 := by
      intro t1 ht1
      subst ht1
      have k1 : Kx s (wI s 38 7 (nI (ra i))) := Kx_38 (Kp_wI Kp.rf (by decide) _ _) (rI_nj (by decide))
      have e39 : rI (wI s 38 7 (nI (ra i))) 39 (D.2 13 i) = nI (fsU D ra i (D.2 13 i)) - 1 := by rw [rI_nk (by decide)]; exact h39 _ hwi
      by_cases z : fsU D ra i (D.2 13 i) = 0
      · have k2 : Kx s (wI (wI s 38 7 (nI (ra i))) 39 (D.2 13 i) (nI (ra i))) := Kx_tr k1 (Kx_kp (Kp_wI Kp.rf (ks := [39]) (by decide) _ _) (by decide))
        obtain ⟨u, a1, a2, a3, a4⟩ := ih (i + 1) n (wI (wI s 38 7 (nI (ra i))) 39 (D.2 13 i) (nI (ra i))) (by omega) (by omega) (RC_x hR k2) (by rw [rI_nk (by decide), rI_same, eL]) (fun w hww => by
          have e1 : fsU D ra (i + 1) w = if D.2 13 i = w ∧ fsU D ra i w = 0 then ra i + 1 else fsU D ra i w := rfl
          rw [rI_wI, e1]
          by_cases e : D.2 13 i = w
          · rw [if_pos ⟨rfl, e.symm⟩, if_pos ⟨e, by rw [← e]; exact z⟩, nI_pred]
          · rw [if_neg (fun q => e q.2.symm), if_neg (fun q => e q.1), rI_nk (by decide)]; exact h39 w hww)
        refine ⟨u, ?_, Kx_tr k2 a2, a3, a4⟩
        unfold j_X1_loadRows_56
        show gi (nI (D.2 13 i)) 12 (if rI (wI s 38 7 (nI (ra i))) 39 (nI (D.2 13 i)).toNatClampNeg = -1 then gi (nI (D.2 13 i)) 12 (l_X1_loadRows_15 n x1 x2 (nI i + 1) (wI (wI s 38 7 (nI (ra i))) 39 (nI (D.2 13 i)).toNatClampNeg (rI (wI s 38 7 (nI (ra i))) 38 7))) else l_X1_loadRows_15 n x1 x2 (nI i + 1) (wI s 38 7 (nI (ra i)))) = _
        rw [gi_nI (lt_n hwi hW) (by decide), cl_nI (n := D.2 13 i) (by omega), e39, z, if_pos (by decide), gi_nI (lt_n hwi hW) (by decide), rI_same, nI_1]
        exact a1
      · obtain ⟨u, a1, a2, a3, a4⟩ := ih (i + 1) n (wI s 38 7 (nI (ra i))) (by omega) (by omega) (RC_x hR k1) (by rw [rI_same, eL]) (fun w hww => by
          have e1 : fsU D ra (i + 1) w = if D.2 13 i = w ∧ fsU D ra i w = 0 then ra i + 1 else fsU D ra i w := rfl
          rw [rI_nk (by decide), e1, if_neg (fun q => z (by rw [q.1]; exact q.2))]
          exact h39 w hww)
        refine ⟨u, ?_, Kx_tr k1 a2, a3, a4⟩
        unfold j_X1_loadRows_56
        show gi (nI (D.2 13 i)) 12 (if rI (wI s 38 7 (nI (ra i))) 39 (nI (D.2 13 i)).toNatClampNeg = -1 then _ else l_X1_loadRows_15 n x1 x2 (nI i + 1) (wI s 38 7 (nI (ra i)))) = _
        rw [gi_nI (lt_n hwi hW) (by decide), cl_nI (n := D.2 13 i) (by omega), e39, if_neg, nI_1]
        · exact a1
        · rw [show nI (fsU D ra i (D.2 13 i)) - 1 = nI (fsU D ra i (D.2 13 i) - 1) from pk_sub (a := fsU D ra i (D.2 13 i)) (b := 1) (by omega)]
          exact ne_m1 (by omega)
    have hb15 : b_X1_loadRows_15 (l_X1_loadRows_15 n) x1 x2 (nI i) s = j_X1_loadRows_56 (l_X1_loadRows_15 n) x1 x2 (nI i) (nI (D.2 13 i)) (if nI i = x1 then x2 else nI (D.2 14 i)) s := by
      unfold b_X1_loadRows_15
      rw [hR.1 (35, 2, 4) (by decide), if_neg (nI_ge (a := i) (b := D.1 4) hlt (by omega)), gi_nI (lt_n hlt hN) (by decide), cl_nI (n := i) (by omega), gArr hR (c := 36) (a := 13) (n := 4) (by decide) hlt, gArr hR (c := 37) (a := 14) (n := 4) (by decide) hlt]
      by_cases e : nI i = x1
      · rw [if_pos e, if_pos e]
      · rw [if_neg e, if_neg e, gi_nI (lt_n hlt hN) (by decide)]
    obtain ⟨u, a1, a2⟩ := key _ hri
    refine ⟨u, ?_, a2⟩
    show b_X1_loadRows_15 (l_X1_loadRows_15 n) x1 x2 (nI i) s = _
    rw [hb15]
    exact a1
theorem loadRows_c {D : Dt} {tx : Nat → Int32} {s : St} (hR : RC D tx s) (hb : Bw D) (hw : ∀ i, i < D.1 4 → D.2 13 i < D.1 2) {ra : Nat → Nat} {x1 x2 : Int32} (hra : ∀ i, i < D.1 4 → (if nI i = x1 then x2 else nI (D.2 14 i)) = nI (ra i)) (hle : ∀ i, i < D.1 4 → ra i ≤ 999) : ∃ u, f_X1_loadRows x1 x2 s = some ((), u) ∧ Kx s u ∧ rI u 38 7 = nI (La D ra (D.1 4)) ∧ ∀ w, w < D.1 2 → rI u 39 w = nI (fsU D ra (D.1 4) w) - 1 := by
  have hN := hb.1.2.2.2.2.1
  have hW := hb.1.2.2.1
  obtain ⟨t, a1, a2, a3⟩ := fill39 (-1) s
  have k1 : Kx s (wI t 38 7 0) := Kx_tr (Kx_kp a2 (by decide)) (Kx_38 (Kp_wI Kp.rf (by decide) _ _) (rI_nj (by decide)))
  obtain ⟨u, b1, b2, b3, b4⟩ := loadRows_l (tx := tx) hb hw hra hle (D.1 4) 0 FU (wI t 38 7 0) (by omega) (FU_lt (by omega)) (RC_x hR k1) (rI_same _ _ _ _) (fun w hww => by rw [rI_nk (by decide)]; exact a3 w (by omega))
  refine ⟨u, ?_, Kx_tr k1 b2, b3, b4⟩
  unfold f_X1_loadRows
  rw [a1, bd_ok]
  exact b1
/-- the begins that suit window w: F its first row's second + 1 (0 for none), L the last second, E the slack, l its own second -/
def loS (F L E l : Nat) : Int := if F = 0 then (if l < 1000000 then (L : Int) - l + 1 else -1000000) else if l < 1000000 then (F : Int) - 1 - l - E else 1000000
def hiS (F E l : Nat) : Int := if F = 0 then 1000000 else if l < 1000000 then (F : Int) - 1 - l + E else -1000000
theorem setSpan_c {s : St} {w F L E l : Nat} (hw : w < 12) (hF : F ≤ 1000) (hL : L ≤ 999) (hE : E ≤ 20) (hl : l ≤ 1000000) (h39 : rI s 39 w = nI F - 1) (h7 : rI s 38 7 = nI L) (h6 : rI s 38 6 = nI E) : ∃ a b : Int32, f_X1_setSpan (nI w) (nI l) s = some ((), wI (wI s 40 w a) 41 w b) ∧ a.toInt = loS F L E l ∧ b.toInt = hiS F E l := by
  have eL := nI_toInt (n := L) (by omega)
  have eE := nI_toInt (n := E) (by omega)
  have el := nI_toInt (n := l) (by omega)
  have e1 : (1 : Int32).toInt = 1 := by decide
  have eM : (1000000 : Int32).toInt = 1000000 := by decide
  have eMn : (-1000000 : Int32).toInt = -1000000 := by decide
  unfold f_X1_setSpan loS hiS
  rw [gi_nI hw (by decide), cl_nI (n := w) (by omega), h39, h7, h6]
  by_cases z : F = 0
  · subst z
    rw [if_pos rfl, if_pos rfl]
    by_cases c : l < 1000000
    · refine ⟨nI L - nI l + 1, 1000000, ?_, ?_, eM⟩
      · show (if nI 0 - 1 = (-1 : Int32) then (if nI l < 1000000 then gi (nI w) 12 (gi (nI w) 12 (some ((), wI (wI s 40 w (nI L - nI l + 1)) 41 w 1000000))) else _) else _) = _
        rw [if_pos (by decide), if_pos (show nI l < (1000000 : Int32) from nI_lt (a := l) (b := 1000000) c (by omega)), gi_nI hw (by decide), gi_nI hw (by decide)]
      · have q : (nI L - nI l).toInt = (L : Int) - l := by rw [fb_subI (by omega) (by omega), eL, el]
        rw [fb_addI (by omega) (by omega), q, e1, if_pos c]
    · refine ⟨-1000000, 1000000, ?_, ?_, eM⟩
      · show (if nI 0 - 1 = (-1 : Int32) then (if nI l < 1000000 then _ else gi (nI w) 12 (gi (nI w) 12 (some ((), wI (wI s 40 w (-1000000)) 41 w 1000000)))) else _) = _
        rw [if_pos (by decide), if_neg (show ¬ nI l < (1000000 : Int32) from nI_nlt (a := l) (b := 1000000) (by omega) (by omega)), gi_nI hw (by decide), gi_nI hw (by decide)]
      · rw [eMn, if_neg c]
  · have hp : nI F - 1 = nI (F - 1) := pk_sub (a := F) (b := 1) (by omega)
    have eF := nI_toInt (n := F - 1) (by omega)
    rw [if_neg z, if_neg z, hp]
    by_cases c : l < 1000000
    · have q : (nI (F - 1) - nI l).toInt = (F : Int) - 1 - l := by rw [fb_subI (by omega) (by omega), eF, el]; omega
      refine ⟨nI (F - 1) - nI l - nI E, nI (F - 1) - nI l + nI E, ?_, ?_, ?_⟩
      · show (if nI (F - 1) = (-1 : Int32) then _ else (if nI l < 1000000 then gi (nI w) 12 (gi (nI w) 12 (some ((), wI (wI s 40 w (nI (F - 1) - nI l - nI E)) 41 w (nI (F - 1) - nI l + rI (wI s 40 w (nI (F - 1) - nI l - nI E)) 38 6)))) else _)) = _
        rw [if_neg (ne_m1 (by omega)), if_pos (show nI l < (1000000 : Int32) from nI_lt (a := l) (b := 1000000) c (by omega)), gi_nI hw (by decide), gi_nI hw (by decide), rI_nk (by decide), h6]
      · rw [fb_subI (by omega) (by omega), q, eE, if_pos c]
      · rw [fb_addI (by omega) (by omega), q, eE, if_pos c]
    · refine ⟨1000000, -1000000, ?_, ?_, ?_⟩
      · show (if nI (F - 1) = (-1 : Int32) then _ else (if nI l < 1000000 then _ else gi (nI w) 12 (gi (nI w) 12 (some ((), wI (wI s 40 w 1000000) 41 w (-1000000)))))) = _
        rw [if_neg (ne_m1 (by omega)), if_neg (show ¬ nI l < (1000000 : Int32) from nI_nlt (a := l) (b := 1000000) (by omega) (by omega)), gi_nI hw (by decide), gi_nI hw (by decide)]
      · rw [eM, if_neg c]
      · rw [eMn, if_neg c]
