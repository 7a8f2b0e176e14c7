/-! ===== how failing spreads: the class ===== -/
theorem jmin_nI {a b : Nat} (ha : a < 2 ^ 31) (hb : b < 2 ^ 31) : jmin (nI a) (nI b) = nI (min a b) := by
  unfold jmin
  by_cases h : b < a
  · rw [if_pos (nI_lt h ha), Nat.min_eq_right (by omega)]
  · rw [if_neg (nI_nlt (by omega) hb), Nat.min_eq_left (by omega)]
theorem jmax_nI {a b : Nat} (ha : a < 2 ^ 31) (hb : b + 1 < 2 ^ 31) : jmax (nI a - 1) (nI b) = nI (max a (b + 1)) - 1 := by
  unfold jmax
  have e1 := nI_pred_toInt (n := a) ha
  have e2 := nI_toInt (n := b) (by omega)
  by_cases h : a ≤ b
  · rw [if_pos (by rw [fa_lt, e1, e2]; omega), Nat.max_eq_right (by omega), nI_pred]
  · rw [if_neg (by rw [fa_lt, e1, e2]; omega), Nat.max_eq_left (by omega)]
theorem fill30_l (v : Int32) : ∀ (d i n : Nat) (s : St), i + d = 12 → d < n → ∃ t, l_J7_fill_53178_30_5 n v (nI i) 12 s = some ((), t) ∧ Kp [30] s t ∧ (∀ j, i ≤ j → j < 12 → rI t 30 j = v) ∧ ∀ j, j < i → rI t 30 j = rI s 30 j := by
  intro d
  induction d with
  | zero =>
    intro i n s hi hn
    obtain ⟨n, rfl⟩ : ∃ m, n = m + 1 := ⟨n - 1, by omega⟩
    refine ⟨s, ?_, Kp.rf, fun j h1 h2 => by omega, fun _ _ => rfl⟩
    show b_J7_fill_53178_30_5 (l_J7_fill_53178_30_5 n) v (nI i) 12 s = _
    unfold b_J7_fill_53178_30_5
    rw [if_pos (show (12 : Int32) ≤ nI i from nI_le (a := 12) (b := i) (by omega) (by omega))]
  | succ d ih =>
    intro i n s hi hn
    obtain ⟨n, rfl⟩ : ∃ m, n = m + 1 := ⟨n - 1, by omega⟩
    obtain ⟨t, h1, h2, h3, h4⟩ := ih (i + 1) n (wI s 30 i v) (by omega) (by omega)
    refine ⟨t, ?_, (Kp_wI Kp.rf (by decide) _ _).tr h2, fun j g1 g2 => ?_, fun j g => ?_⟩
    · show b_J7_fill_53178_30_5 (l_J7_fill_53178_30_5 n) v (nI i) 12 s = _
      unfold b_J7_fill_53178_30_5
      rw [if_neg (show ¬ (12 : Int32) ≤ nI i from nI_ge (a := i) (b := 12) (by omega) (by omega)), gi_nI (by omega) (by decide), cl_nI (by omega), nI_1]
      exact h1
    · by_cases e : j = i
      · subst e; rw [h4 j (by omega), rI_same]
      · exact h3 j (by omega) g2
    · rw [h4 j (by omega), rI_nj (by omega)]
theorem fill30 (v : Int32) (s : St) : ∃ t, f_J7_fill_53178_30 v s = some ((), t) ∧ Kp [30] s t ∧ ∀ j, j < 12 → rI t 30 j = v := by
  obtain ⟨t, h1, h2, h3, _⟩ := fill30_l v 12 0 FU s (by omega) (FU_lt (by omega))
  exact ⟨t, h1, h2, fun j hj => h3 j (by omega) hj⟩
theorem fill31_l (v : Int32) : ∀ (d i n : Nat) (s : St), i + d = 12 → d < n → ∃ t, l_J7_fill_53178_31_5 n v (nI i) 12 s = some ((), t) ∧ Kp [31] s t ∧ (∀ j, i ≤ j → j < 12 → rI t 31 j = v) ∧ ∀ j, j < i → rI t 31 j = rI s 31 j := by
  intro d
  induction d with
  | zero =>
    intro i n s hi hn
    obtain ⟨n, rfl⟩ : ∃ m, n = m + 1 := ⟨n - 1, by omega⟩
    refine ⟨s, ?_, Kp.rf, fun j h1 h2 => by omega, fun _ _ => rfl⟩
    show b_J7_fill_53178_31_5 (l_J7_fill_53178_31_5 n) v (nI i) 12 s = _
    unfold b_J7_fill_53178_31_5
    rw [if_pos (show (12 : Int32) ≤ nI i from nI_le (a := 12) (b := i) (by omega) (by omega))]
  | succ d ih =>
    intro i n s hi hn
    obtain ⟨n, rfl⟩ : ∃ m, n = m + 1 := ⟨n - 1, by omega⟩
    obtain ⟨t, h1, h2, h3, h4⟩ := ih (i + 1) n (wI s 31 i v) (by omega) (by omega)
    refine ⟨t, ?_, (Kp_wI Kp.rf (by decide) _ _).tr h2, fun j g1 g2 => ?_, fun j g => ?_⟩
    · show b_J7_fill_53178_31_5 (l_J7_fill_53178_31_5 n) v (nI i) 12 s = _
      unfold b_J7_fill_53178_31_5
      rw [if_neg (show ¬ (12 : Int32) ≤ nI i from nI_ge (a := i) (b := 12) (by omega) (by omega)), gi_nI (by omega) (by decide), cl_nI (by omega), nI_1]
      exact h1
    · by_cases e : j = i
      · subst e; rw [h4 j (by omega), rI_same]
      · exact h3 j (by omega) g2
    · rw [h4 j (by omega), rI_nj (by omega)]
theorem fill31 (v : Int32) (s : St) : ∃ t, f_J7_fill_53178_31 v s = some ((), t) ∧ Kp [31] s t ∧ ∀ j, j < 12 → rI t 31 j = v := by
  obtain ⟨t, h1, h2, h3, _⟩ := fill31_l v 12 0 FU s (by omega) (FU_lt (by omega))
  exact ⟨t, h1, h2, fun j hj => h3 j (by omega) hj⟩
theorem gather_l {D : Dt} {tx : Nat → Int32} (hb : Bw D) {t : Nat → Nat} (ht : ∀ p, p < D.1 0 → t p ≤ 1000000) : ∀ (d a n : Nat) (s : St), a + d = D.1 1 → d < n → RC D tx s → (∀ p, p < D.1 0 → rI s 29 p = nI (t p)) → (∀ p, p < D.1 0 → rI s 30 p = nI (so D t a p)) → (∀ p, p < D.1 0 → rI s 31 p = nI (la D t a p) - 1) → ∃ u, l_X7_gather_19 n (nI a) s = some ((), u) ∧ Kp [30, 31] s u ∧ (∀ p, p < D.1 0 → rI u 30 p = nI (so D t (D.1 1) p)) ∧ ∀ p, p < D.1 0 → rI u 31 p = nI (la D t (D.1 1) p) - 1 := by
  have hP := hb.1.1
  have hA := hb.1.2.1
  intro d
  induction d with
  | zero =>
    intro a n s ha hn hc h29 h30 h31
    obtain ⟨n, rfl⟩ : ∃ m, n = m + 1 := ⟨n - 1, by omega⟩
    have e : a = D.1 1 := by omega
    subst e
    refine ⟨s, ?_, Kp.rf, h30, h31⟩
    show b_X7_gather_19 (l_X7_gather_19 n) (nI (D.1 1)) s = _
    unfold b_X7_gather_19
    rw [hc.1 (8, 1, 1) (by decide), if_pos (nI_le (Nat.le_refl (D.1 1)) (by omega))]
  | succ d ih =>
    intro a n s ha hn hc h29 h30 h31
    obtain ⟨n, rfl⟩ : ∃ m, n = m + 1 := ⟨n - 1, by omega⟩
    have hlt : a < D.1 1 := by omega
    obtain ⟨q1, q2, q3⟩ := hb.2.2.1 a hlt
    have hs := sec_le D t a
    have hso := so_le D t (D.2 2 a) a
    have hla := la_le D t (D.2 2 a) a
    have htf := ht _ q1
    have es : jmin (nI (t (D.2 1 a)) + nI (D.2 3 a)) 1000000 = nI (sec D t a) := by
      rw [nI_add]
      exact jmin_nI (a := t (D.2 1 a) + D.2 3 a) (b := 1000000) (by omega) (by omega)
    obtain ⟨u, k1, k2, k3, k4⟩ := ih (a + 1) n (wI (wI s 30 (D.2 2 a) (nI (min (so D t a (D.2 2 a)) (sec D t a)))) 31 (D.2 2 a) (nI (max (la D t a (D.2 2 a)) (sec D t a + 1)) - 1)) (by omega) (by omega) (hc.kp (ks := [30, 31]) (Kp_wI (Kp_wI Kp.rf (by decide) _ _) (by decide) _ _) (by decide)) (fun p hp => by rw [rI_nk (by decide), rI_nk (by decide)]; exact h29 p hp) (fun p hp => by
      rw [rI_nk (by decide), rI_wI]
      show _ = nI (if D.2 2 a = p then min (so D t a p) (sec D t a) else so D t a p)
      by_cases e : D.2 2 a = p
      · rw [if_pos ⟨rfl, e.symm⟩, if_pos e, e]
      · rw [if_neg (fun q => e q.2.symm), if_neg e]; exact h30 p hp) (fun p hp => by
      rw [rI_wI]
      show _ = nI (if D.2 2 a = p then max (la D t a p) (sec D t a + 1) else la D t a p) - 1
      by_cases e : D.2 2 a = p
      · rw [if_pos ⟨rfl, e.symm⟩, if_pos e, e]
      · rw [if_neg (fun q => e q.2.symm), if_neg e, rI_nk (by decide)]; exact h31 p hp)
    refine ⟨u, ?_, Kp.tr (Kp_wI (Kp_wI Kp.rf (by decide) _ _) (by decide) _ _) k2, k3, k4⟩
    show b_X7_gather_19 (l_X7_gather_19 n) (nI a) s = _
    unfold b_X7_gather_19
    rw [hc.1 (8, 1, 1) (by decide), if_neg (nI_ge (a := a) (b := D.1 1) hlt (by omega)), gi_nI (lt_n hlt hA) (by decide), cl_nI (n := a) (by omega), gArr hc (c := 11) (a := 2) (n := 1) (by decide) hlt, gArr hc (c := 10) (a := 1) (n := 1) (by decide) hlt, gArr hc (c := 12) (a := 3) (n := 1) (by decide) hlt, gi_nI (lt_n hlt hA) (by decide), gi_nI (lt_n q1 hP) (by decide), gi_nI (lt_n hlt hA) (by decide), cl_nI (n := D.2 1 a) (by omega), h29 _ q1, es]
    show gi (nI (D.2 2 a)) 12 (gi (nI (D.2 2 a)) 12 (gi (nI (D.2 2 a)) 12 (gi (nI (D.2 2 a)) 12 (l_X7_gather_19 n (nI a + 1) (wI (wI s 30 (nI (D.2 2 a)).toNatClampNeg (jmin (rI s 30 (nI (D.2 2 a)).toNatClampNeg) (nI (sec D t a)))) 31 (nI (D.2 2 a)).toNatClampNeg (jmax (rI (wI s 30 (nI (D.2 2 a)).toNatClampNeg (jmin (rI s 30 (nI (D.2 2 a)).toNatClampNeg) (nI (sec D t a)))) 31 (nI (D.2 2 a)).toNatClampNeg) (nI (sec D t a)))))))) = _
    rw [gi_nI (lt_n q2 hP) (by decide), gi_nI (lt_n q2 hP) (by decide), gi_nI (lt_n q2 hP) (by decide), gi_nI (lt_n q2 hP) (by decide), cl_nI (n := D.2 2 a) (by omega), rI_nk (by decide), h30 _ q2, h31 _ q2, jmin_nI (by omega) (by omega), jmax_nI (by omega) (by omega), nI_1]
    exact k1
theorem gather_c {D : Dt} {tx : Nat → Int32} (hb : Bw D) {t : Nat → Nat} (ht : ∀ p, p < D.1 0 → t p ≤ 1000000) {s : St} (hc : RC D tx s) (h29 : ∀ p, p < D.1 0 → rI s 29 p = nI (t p)) : ∃ u, f_X7_gather s = some ((), u) ∧ Kp [30, 31] s u ∧ (∀ p, p < D.1 0 → rI u 30 p = nI (so D t (D.1 1) p)) ∧ ∀ p, p < D.1 0 → rI u 31 p = nI (la D t (D.1 1) p) - 1 := by
  have hP := hb.1.1
  have hA := hb.1.2.1
  obtain ⟨s1, a1, a2, a3⟩ := fill30 1000000 s
  obtain ⟨s2, b1, b2, b3⟩ := fill31 (-1) s1
  have k12 : Kp [30, 31] s s2 := (a2.mono (by decide)).tr (b2.mono (by decide))
  obtain ⟨u, c1, c2, c3, c4⟩ := gather_l (tx := tx) hb ht (D.1 1) 0 FU s2 (by omega) (FU_lt (by omega)) (hc.kp k12 (by decide)) (fun p hp => by rw [Kp_rI k12 (by decide)]; exact h29 p hp) (fun p hp => by rw [Kp_rI b2 (by decide)]; exact a3 p (by omega)) (fun p hp => b3 p (by omega))
  refine ⟨u, ?_, k12.tr c2, c3, c4⟩
  unfold f_X7_gather
  rw [a1, bd_ok, b1, bd_ok]
  exact c1
theorem settle_l {D : Dt} {tx : Nat → Int32} (hb : Bw D) {t : Nat → Nat} (ht : ∀ p, p < D.1 0 → t p ≤ 1000000) : ∀ (d i n : Nat) (ch : Int32) (s : St), i + d = D.1 0 → d < n → RC D tx s → (∀ p, p < D.1 0 → rI s 29 p = nI (if p < i then nx D t p else t p)) → (∀ p, p < D.1 0 → rI s 30 p = nI (so D t (D.1 1) p)) → (∀ p, p < D.1 0 → rI s 31 p = nI (la D t (D.1 1) p) - 1) → (ch = 1 ∨ (ch = 0 ∧ ∀ p, p < i → nx D t p = t p)) → ∃ r u, l_X7_settle_4 n ch (nI i) s = some (r, u) ∧ Kp [29] s u ∧ (∀ p, p < D.1 0 → rI u 29 p = nI (nx D t p)) ∧ (r = 1 ∨ (r = 0 ∧ ∀ p, p < D.1 0 → nx D t p = t p)) := by
  have hP := hb.1.1
  intro d
  induction d with
  | zero =>
    intro i n ch s hi hn hc h29 h30 h31 hch
    obtain ⟨n, rfl⟩ : ∃ m, n = m + 1 := ⟨n - 1, by omega⟩
    have e : i = D.1 0 := by omega
    subst e
    refine ⟨ch, s, ?_, Kp.rf, fun p hp => by rw [h29 p hp, if_pos hp], hch⟩
    show b_X7_settle_4 (l_X7_settle_4 n) ch (nI (D.1 0)) s = _
    unfold b_X7_settle_4
    rw [hc.1 (8, 0, 0) (by decide), if_pos (nI_le (Nat.le_refl (D.1 0)) (by omega))]
    rcases hch with e | ⟨e, _⟩ <;> rw [e]
    · exact gb_1
    · exact gb_0
  | succ d ih =>
    intro i n ch s hi hn hc h29 h30 h31 hch
    obtain ⟨n, rfl⟩ : ∃ m, n = m + 1 := ⟨n - 1, by omega⟩
    have hlt : i < D.1 0 := by omega
    have hF := Fw_le D t i
    have hall := hb.2.1 i hlt
    have hla := la_le D t i (D.1 1)
    have hso := so_le D t i (D.1 1)
    have hti := ht i hlt
    have h9 := gArr hc (c := 9) (a := 0) (n := 0) (by decide) hlt
    have h29i : rI s 29 i = nI (t i) := by rw [h29 i hlt, if_neg (by omega)]
    have step : b_X7_settle_4 (l_X7_settle_4 n) ch (nI i) s = j_X7_settle_62 (l_X7_settle_4 n) ch (nI i) (nI (Fw D t i)) s := by
      unfold b_X7_settle_4
      rw [hc.1 (8, 0, 0) (by decide), if_neg (nI_ge (a := i) (b := D.1 0) hlt (by omega)), gi_nI (lt_n hlt hP) (by decide), cl_nI (n := i) (by omega), h9]
      have hzero : ∀ (k : Fw D t i = so D t (D.1 1) i), j_X7_settle_42 (l_X7_settle_4 n) ch (nI i) 0 s = j_X7_settle_62 (l_X7_settle_4 n) ch (nI i) (nI (Fw D t i)) s := fun k => by
        unfold j_X7_settle_42
        rw [if_pos rfl, gi_nI (lt_n hlt hP) (by decide), cl_nI (n := i) (by omega), h30 i hlt, k]
      by_cases c0 : D.2 0 i = 0
      · rw [if_pos (by rw [c0]; rfl)]
        exact hzero (by unfold Fw; rw [if_neg (by omega)])
      · rw [if_neg (nI_ne0 (by omega) (by omega)), gi_nI (lt_n hlt hP) (by decide), h31 i hlt]
        by_cases c1 : la D t (D.1 1) i = 0
        · rw [if_pos (by rw [c1]; decide)]
          exact hzero (by unfold Fw; rw [if_neg (fun q => q.2 c1)])
        · rw [if_neg]
          · unfold j_X7_settle_42
            rw [if_neg (by decide), gi_nI (lt_n hlt hP) (by decide), cl_nI (n := i) (by omega), h31 i hlt]
            have : nI (la D t (D.1 1) i) - 1 = nI (Fw D t i) := by
              unfold Fw
              rw [if_pos ⟨by omega, c1⟩]
              exact pk_sub (a := la D t (D.1 1) i) (b := 1) (by omega)
            rw [this]
          · intro q
            rw [fa_eq, nI_pred_toInt (by omega)] at q
            have : (-1 : Int32).toInt = -1 := by decide
            omega
    by_cases c : t i ≤ Fw D t i
    · have hnx : nx D t i = t i := Nat.min_eq_left c
      obtain ⟨r, u, k1, k2, k3, k4⟩ := ih (i + 1) n ch s (by omega) (by omega) hc (fun p hp => by
        rw [h29 p hp]
        by_cases e : p = i
        · subst e; rw [if_neg (by omega), if_pos (by omega), hnx]
        · by_cases e2 : p < i
          · rw [if_pos e2, if_pos (by omega)]
          · rw [if_neg e2, if_neg (by omega)]) h30 h31 (hch.imp id (fun q => ⟨q.1, fun p hp => by
        by_cases e : p = i
        · subst e; exact hnx
        · exact q.2 p (by omega)⟩))
      refine ⟨r, u, ?_, k2, k3, k4⟩
      show b_X7_settle_4 (l_X7_settle_4 n) ch (nI i) s = _
      rw [step]
      unfold j_X7_settle_62
      rw [gi_nI (lt_n hlt hP) (by decide), cl_nI (n := i) (by omega), h29i, if_pos (nI_le c (by omega)), nI_1]
      exact k1
    · have hnx : nx D t i = Fw D t i := Nat.min_eq_right (by omega)
      obtain ⟨r, u, k1, k2, k3, k4⟩ := ih (i + 1) n 1 (wI s 29 i (nI (Fw D t i))) (by omega) (by omega) (hc.kp (ks := [29]) (Kp_wI Kp.rf (by decide) _ _) (by decide)) (fun p hp => by
        by_cases e : p = i
        · subst e; rw [rI_same, if_pos (by omega), hnx]
        · rw [rI_nj e, h29 p hp]
          by_cases e2 : p < i
          · rw [if_pos e2, if_pos (by omega)]
          · rw [if_neg e2, if_neg (by omega)]) (fun p hp => by rw [rI_nk (by decide)]; exact h30 p hp) (fun p hp => by rw [rI_nk (by decide)]; exact h31 p hp) (Or.inl rfl)
      refine ⟨r, u, ?_, Kp.tr (Kp_wI Kp.rf (by decide) _ _) k2, k3, k4⟩
      show b_X7_settle_4 (l_X7_settle_4 n) ch (nI i) s = _
      rw [step]
      unfold j_X7_settle_62
      rw [gi_nI (lt_n hlt hP) (by decide), cl_nI (n := i) (by omega), h29i, if_neg (nI_ge (by omega) (by omega)), gi_nI (lt_n hlt hP) (by decide), nI_1]
      exact k1
theorem it_stay {D : Dt} (hb : Bw D) {t : Nat → Nat} {k : Nat} (h : ∀ p, p < D.1 0 → nx D (it D t k) p = it D t k p) : ∀ m p, p < D.1 0 → it D t (k + m) p = it D t k p
  | 0, _, _ => rfl
  | m + 1, p, hp => by
    have ih := it_stay hb h m
    show min (it D t (k + m) p) (Fw D (it D t (k + m)) p) = _
    rw [Fw_cong hb ih p, ih p hp]
    exact h p hp
theorem it_bd {D : Dt} {t : Nat → Nat} (ht : ∀ p, p < D.1 0 → t p ≤ 1000000) : ∀ k p, p < D.1 0 → it D t k p ≤ 1000000
  | 0, p, hp => ht p hp
  | k + 1, p, hp => by
    have := it_bd ht k p hp
    show min (it D t k p) _ ≤ _
    omega
theorem rounds_l {D : Dt} {tx : Nat → Int32} (hb : Bw D) {t : Nat → Nat} (ht : ∀ p, p < D.1 0 → t p ≤ 1000000) : ∀ (d k n : Nat) (ch : Int32) (s : St), k + d = D.1 0 + 1 → d < n → RC D tx s → (∀ p, p < D.1 0 → rI s 29 p = nI (it D t k p)) → (ch = 1 ∨ (ch = 0 ∧ ∀ p, p < D.1 0 → nx D (it D t k) p = it D t k p)) → ∃ u, l_X7_run_43 n ch (nI k) s = some ((), u) ∧ Kp [29, 30, 31] s u ∧ ∀ p, p < D.1 0 → rI u 29 p = nI (it D t (D.1 0 + 1) p) := by
  have hP := hb.1.1
  intro d
  induction d with
  | zero =>
    intro k n ch s hk hn hc h29 hch
    obtain ⟨n, rfl⟩ : ∃ m, n = m + 1 := ⟨n - 1, by omega⟩
    have e : k = D.1 0 + 1 := by omega
    subst e
    refine ⟨s, ?_, Kp.rf, h29⟩
    show b_X7_run_43 (l_X7_run_43 n) ch (nI (D.1 0 + 1)) s = _
    unfold b_X7_run_43
    rw [hc.1 (8, 0, 0) (by decide), if_pos (nI_lt (a := D.1 0) (b := D.1 0 + 1) (by omega) (by omega))]
  | succ d ih =>
    intro k n ch s hk hn hc h29 hch
    obtain ⟨n, rfl⟩ : ∃ m, n = m + 1 := ⟨n - 1, by omega⟩
    have hbody : ∀ ch, b_X7_run_43 (l_X7_run_43 n) ch (nI k) s = if ch = 0 then some ((), s) else bd (f_X7_gather s) fun _ s_59 => bd (f_X7_settle s_59) fun r_63 s_63 => l_X7_run_43 n r_63 (nI k + 1) s_63 := fun ch => by
      unfold b_X7_run_43
      rw [hc.1 (8, 0, 0) (by decide), if_neg (nI_nlt (a := D.1 0) (b := k) (by omega) (by omega))]
    rcases hch with rfl | ⟨rfl, hfix⟩
    · obtain ⟨s1, a1, a2, a3, a4⟩ := gather_c (tx := tx) hb (it_bd ht k) hc h29
      have hc1 : RC D tx s1 := hc.kp a2 (by decide)
      obtain ⟨r, s2, b1, b2, b3, b4⟩ := settle_l (tx := tx) hb (it_bd ht k) (D.1 0) 0 FU 0 s1 (by omega) (FU_lt (by omega)) hc1 (fun p hp => by rw [if_neg (by omega), Kp_rI a2 (by decide)]; exact h29 p hp) a3 a4 (Or.inr ⟨rfl, fun p hp => absurd hp (Nat.not_lt_zero p)⟩)
      obtain ⟨u, c1, c2, c3⟩ := ih (k + 1) n r s2 (by omega) (by omega) (hc1.kp b2 (by decide)) b3 (b4.imp id (fun q => ⟨q.1, fun p hp => by
        show nx D (nx D (it D t k)) p = nx D (it D t k) p
        have e := Fw_cong hb (t := nx D (it D t k)) (t1 := it D t k) (fun q1 hq1 => q.2 q1 hq1) p
        show min (nx D (it D t k) p) (Fw D (nx D (it D t k)) p) = _
        rw [e, q.2 p hp]
        exact q.2 p hp⟩))
      refine ⟨u, ?_, ((a2.mono (by decide)).tr (b2.mono (by decide))).tr c2, c3⟩
      show b_X7_run_43 (l_X7_run_43 n) 1 (nI k) s = _
      rw [hbody 1, if_neg (by decide), a1, bd_ok, show f_X7_settle s1 = some (r, s2) from b1, bd_ok, nI_1]
      exact c1
    · refine ⟨s, ?_, Kp.rf, fun p hp => ?_⟩
      · show b_X7_run_43 (l_X7_run_43 n) 0 (nI k) s = _
        rw [hbody 0, if_pos rfl]
      · have := it_stay hb hfix (D.1 0 + 1 - k) p hp
        rw [show k + (D.1 0 + 1 - k) = D.1 0 + 1 by omega] at this
        rw [this]; exact h29 p hp
/-- the start: who is in the heap fails at second 0 -/
def t0 (h : Int32) (p : Nat) : Nat := if bt h p then 0 else 1000000
def fl (D : Dt) (h : Int32) : Nat → Nat := it D (t0 h) (D.1 0 + 1)
theorem t0_le (h : Int32) (p : Nat) : t0 h p ≤ 1000000 := by unfold t0; split <;> omega
theorem fl_le (D : Dt) (h : Int32) {p : Nat} (hp : p < D.1 0) : fl D h p ≤ 1000000 := it_bd (fun q _ => t0_le h q) _ p hp
theorem run_l {D : Dt} {tx : Nat → Int32} (hb : Bw D) (h : Int32) : ∀ (d i n : Nat) (s : St), i + d = D.1 0 → d < n → RC D tx s → (∀ p, p < i → rI s 29 p = nI (t0 h p)) → ∃ u, l_X7_run_2 n h (nI i) s = some ((), u) ∧ Kp [29, 30, 31] s u ∧ ∀ p, p < D.1 0 → rI u 29 p = nI (fl D h p) := by
  have hP := hb.1.1
  intro d
  induction d with
  | zero =>
    intro i n s hi hn hc h29
    obtain ⟨n, rfl⟩ : ∃ m, n = m + 1 := ⟨n - 1, by omega⟩
    obtain ⟨u, a1, a2, a3⟩ := rounds_l (tx := tx) hb (t := t0 h) (fun q _ => t0_le h q) (D.1 0 + 1) 0 FU 1 s (by omega) (FU_lt (by omega)) hc (fun p hp => h29 p (by omega)) (Or.inl rfl)
    refine ⟨u, ?_, a2, a3⟩
    show b_X7_run_2 (l_X7_run_2 n) h (nI i) s = _
    unfold b_X7_run_2
    rw [hc.1 (8, 0, 0) (by decide), if_pos (nI_le (a := D.1 0) (b := i) (by omega) (by omega))]
    exact a1
  | succ d ih =>
    intro i n s hi hn hc h29
    obtain ⟨n, rfl⟩ : ∃ m, n = m + 1 := ⟨n - 1, by omega⟩
    have hlt : i < D.1 0 := by omega
    have hnx : ∃ u, l_X7_run_2 n h (nI i + 1) (wI s 29 i (nI (t0 h i))) = some ((), u) ∧ Kp [29, 30, 31] s u ∧ ∀ p, p < D.1 0 → rI u 29 p = nI (fl D h p) := by
      obtain ⟨u, a1, a2, a3⟩ := ih (i + 1) n (wI s 29 i (nI (t0 h i))) (by omega) (by omega) (hc.kp (ks := [29]) (Kp_wI Kp.rf (by decide) _ _) (by decide)) (fun p hp => by
        by_cases e : p = i
        · subst e; exact rI_same _ _ _ _
        · rw [rI_nj e]; exact h29 p (by omega))
      exact ⟨u, by rw [nI_1]; exact a1, Kp.tr (Kp_wI Kp.rf (by decide) _ _) a2, a3⟩
    obtain ⟨u, a1, a2, a3⟩ := hnx
    refine ⟨u, ?_, a2, a3⟩
    show b_X7_run_2 (l_X7_run_2 n) h (nI i) s = _
    unfold b_X7_run_2
    rw [hc.1 (8, 0, 0) (by decide), if_neg (nI_ge (a := i) (b := D.1 0) hlt (by omega)), hasBit_c _ (by omega), bd_ok]
    unfold t0 at a1
    by_cases c : bt h i = true
    · rw [if_pos c] at a1
      rw [if_pos c, if_neg (by decide), gi_nI (lt_n hlt hP) (by decide), cl_nI (n := i) (by omega)]
      exact a1
    · rw [if_neg c] at a1
      rw [if_neg c, if_pos rfl, gi_nI (lt_n hlt hP) (by decide), cl_nI (n := i) (by omega)]
      exact a1
theorem run_c {D : Dt} {tx : Nat → Int32} {s : St} (hc : RC D tx s) (hb : Bw D) (h : Int32) : ∃ u, f_X7_run h s = some ((), u) ∧ Kp [29, 30, 31] s u ∧ ∀ p, p < D.1 0 → rI u 29 p = nI (fl D h p) := by
  have hP := hb.1.1
  exact run_l hb h (D.1 0) 0 FU s (by omega) (FU_lt (by omega)) hc (fun p hp => absurd hp (Nat.not_lt_zero p))
