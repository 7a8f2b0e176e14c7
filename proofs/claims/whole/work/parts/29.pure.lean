/-! ===== how failing spreads: the reference ===== -/
/-- seconds that are FAR or small -/
def Gk (D : Dt) (k : Nat) (t : Nat → Nat) : Prop := ∀ p, p < D.1 0 → t p = 1000000 ∨ t p ≤ 60 * k
theorem sec_G {D : Dt} (hb : Bw D) {k : Nat} {t : Nat → Nat} (h : Gk D k t) {a : Nat} (ha : a < D.1 1) : sec D t a = 1000000 ∨ sec D t a ≤ 60 * k + 60 := by
  obtain ⟨q1, q2, q3⟩ := hb.2.2.1 a ha
  have := h _ q1
  unfold sec
  omega
theorem so_G {D : Dt} (hb : Bw D) {k : Nat} {t : Nat → Nat} (h : Gk D k t) (p : Nat) : ∀ a, a ≤ D.1 1 → so D t a p = 1000000 ∨ so D t a p ≤ 60 * k + 60
  | 0, _ => Or.inl rfl
  | a + 1, ha => by
    have ih := so_G hb h p a (by omega)
    have := sec_G hb h (a := a) (by omega)
    have := sec_le D t a
    have := so_le D t p a
    unfold so
    split <;> omega
theorem la_G {D : Dt} (hb : Bw D) {k : Nat} {t : Nat → Nat} (h : Gk D k t) (p : Nat) : ∀ a, a ≤ D.1 1 → la D t a p = 1000001 ∨ la D t a p ≤ 60 * k + 61
  | 0, _ => Or.inr (by unfold la; omega)
  | a + 1, ha => by
    have ih := la_G hb h p a (by omega)
    have := sec_G hb h (a := a) (by omega)
    have := sec_le D t a
    have := la_le D t p a
    unfold la
    split <;> omega
theorem Fw_G {D : Dt} (hb : Bw D) {k : Nat} {t : Nat → Nat} (h : Gk D k t) (p : Nat) : Fw D t p = 1000000 ∨ Fw D t p ≤ 60 * k + 60 := by
  have h1 := so_G hb h p (D.1 1) (Nat.le_refl _)
  have h2 := la_G hb h p (D.1 1) (Nat.le_refl _)
  unfold Fw
  split <;> omega
theorem Gk_ds {D : Dt} (hb : Bw D) {k : Nat} {t : Nat → Nat} (h : Gk D k t) : Gk D (k + 1) (ds D t) := by
  intro p hp
  have hp0 := h p hp
  unfold ds
  by_cases z : (sl D t (D.1 0)).2 = 0
  · rw [if_pos z]; omega
  · rw [if_neg z]
    obtain ⟨i1, i2, i3, i4, i5⟩ := sl_some D t (D.1 0) z
    by_cases e : p = (sl D t (D.1 0)).2 - 1
    · have : va_up t ((sl D t (D.1 0)).2 - 1) (sl D t (D.1 0)).1 p = (sl D t (D.1 0)).1 := by rw [e]; simp [va_up]
      rw [this, i3]
      have := Fw_G hb h ((sl D t (D.1 0)).2 - 1)
      omega
    · have : va_up t ((sl D t (D.1 0)).2 - 1) (sl D t (D.1 0)).1 p = t p := by simp [va_up, e]
      rw [this]; omega
theorem Gk_di {D : Dt} (hb : Bw D) {t : Nat → Nat} (h : Gk D 0 t) : ∀ k, Gk D k (di D t k)
  | 0 => h
  | k + 1 => Gk_ds hb (Gk_di hb h k)
theorem wouldFail_l {D : Dt} {tx : Nat → Int32} (hb : Bw D) {k : Nat} {t : Nat → Nat} (hG : Gk D k t) (hk : k ≤ 20) {s : St} (hm : RM D tx s) (h97 : ∀ p, p < D.1 0 → rI s 97 p = nI (t p)) {p : Nat} (hp : p < D.1 0) : ∀ (d a n c : Nat), a + d = D.1 1 → d < n → c ≤ a → (c = 0 ↔ la D t a p = 0) → l_X11_wouldFail_11 n (nI p) (nI c) (nI (so D t a p)) (nI (la D t a p - 1)) (nI a) s = some (nI (Fw D t p), s) := by
  have hP := hb.1.1
  have hA := hb.1.2.1
  intro d
  induction d with
  | zero =>
    intro a n c ha hn hca hz
    obtain ⟨n, rfl⟩ : ∃ m, n = m + 1 := ⟨n - 1, by omega⟩
    have e : a = D.1 1 := by omega
    subst e
    show b_X11_wouldFail_11 (l_X11_wouldFail_11 n) (nI p) (nI c) _ _ (nI (D.1 1)) s = _
    unfold b_X11_wouldFail_11
    rw [hm.1 (74, 20, 1) (by decide), if_pos (nI_le (Nat.le_refl (D.1 1)) (by omega))]
    have hall := hb.2.1 p hp
    by_cases c0 : c = 0
    · have e1 := hz.mp c0
      have e2 := so_far D t p (D.1 1) e1
      rw [if_pos (by rw [c0]; rfl)]
      have : Fw D t p = 1000000 := by unfold Fw; rw [if_neg (fun q => q.2 e1), e2]
      rw [this]; rfl
    · have e1 : la D t (D.1 1) p ≠ 0 := fun q => c0 (hz.mpr q)
      rw [if_neg (nI_ne0 (by omega) (by omega)), gi_nI (lt_n hp hP) (by decide), cl_nI (n := p) (by omega), gArrM hm (c := 84) (a := 0) (n := 0) (by decide) hp]
      by_cases a0 : D.2 0 p = 0
      · rw [if_pos (by rw [a0]; rfl)]
        have : Fw D t p = so D t (D.1 1) p := by unfold Fw; rw [if_neg (by omega)]
        rw [this]
      · rw [if_neg (nI_ne0 (by omega) (by omega))]
        have : Fw D t p = la D t (D.1 1) p - 1 := by unfold Fw; rw [if_pos ⟨by omega, e1⟩]
        rw [this]
  | succ d ih =>
    intro a n c ha hn hca hz
    obtain ⟨n, rfl⟩ : ∃ m, n = m + 1 := ⟨n - 1, by omega⟩
    have hlt : a < D.1 1 := by omega
    obtain ⟨q1, q2, q3⟩ := hb.2.2.1 a hlt
    have hs := sec_le D t a
    have hso := so_le D t p a
    have hla := la_le D t p a
    have hnext := ih (a + 1) n
    show b_X11_wouldFail_11 (l_X11_wouldFail_11 n) (nI p) (nI c) _ _ (nI a) s = _
    unfold b_X11_wouldFail_11
    rw [hm.1 (74, 20, 1) (by decide), if_neg (nI_ge (a := a) (b := D.1 1) hlt (by omega)), gi_nI (lt_n hlt hA) (by decide), cl_nI (n := a) (by omega), gArrM hm (c := 86) (a := 2) (n := 1) (by decide) hlt, gArrM hm (c := 85) (a := 1) (n := 1) (by decide) hlt, gArrM hm (c := 87) (a := 3) (n := 1) (by decide) hlt]
    by_cases e : D.2 2 a = p
    · have es : so D t (a + 1) p = min (so D t a p) (sec D t a) := if_pos e
      have el : la D t (a + 1) p = max (la D t a p) (sec D t a + 1) := if_pos e
      have hfin := hnext (c + 1) (by omega) (by omega) (by omega) (by omega)
      have hj : ∀ lo : Int32, lo = nI (so D t (a + 1) p) → j_X11_wouldFail_93 (l_X11_wouldFail_11 n) (nI p) (nI c + 1) (nI (la D t a p - 1)) (nI a) (nI (sec D t a)) lo s = some (nI (Fw D t p), s) := by
        intro lo hlo
        unfold j_X11_wouldFail_93
        rw [hlo, nI_1]
        by_cases c1 : sec D t a ≤ la D t a p - 1
        · rw [if_pos (nI_le c1 (by omega)), nI_1, ← hfin, el, show max (la D t a p) (sec D t a + 1) - 1 = la D t a p - 1 by omega]
        · rw [if_neg (nI_ge (by omega) (by omega)), nI_1, ← hfin, el, show max (la D t a p) (sec D t a + 1) - 1 = sec D t a by omega]
      rw [if_pos (by rw [e]), gi_nI (lt_n hlt hA) (by decide), gi_nI (lt_n q1 hP) (by decide), cl_nI (n := D.2 1 a) (by omega), h97 _ q1]
      by_cases far : t (D.2 1 a) = 1000000
      · have e6 : sec D t a = 1000000 := by unfold sec; omega
        rw [if_pos (by rw [far]; rfl), if_pos (show nI (so D t a p) ≤ (1000000 : Int32) from nI_le (a := so D t a p) (b := 1000000) hso (by omega))]
        have := hj (nI (so D t a p)) (by rw [es, e6, Nat.min_eq_left hso])
        rw [e6] at this
        exact this
      · have ht1 := hG _ q1
        have e6 : t (D.2 1 a) + D.2 3 a = sec D t a := by unfold sec; omega
        rw [if_neg (show ¬ nI (t (D.2 1 a)) = (1000000 : Int32) from fun q => far ((nI_eq (a := t (D.2 1 a)) (b := 1000000) (by omega) (by omega)).mp q)), gi_nI (lt_n hlt hA) (by decide), gi_nI (lt_n q1 hP) (by decide), gi_nI (lt_n hlt hA) (by decide), nI_add, e6]
        show (if nI (so D t a p) ≤ nI (sec D t a) then _ else _) = _
        by_cases c1 : so D t a p ≤ sec D t a
        · rw [if_pos (nI_le c1 (by omega))]
          exact hj _ (by rw [es, Nat.min_eq_left c1])
        · rw [if_neg (nI_ge (by omega) (by omega))]
          exact hj _ (by rw [es, Nat.min_eq_right (by omega)])
    · have es : so D t (a + 1) p = so D t a p := if_neg e
      have el : la D t (a + 1) p = la D t a p := if_neg e
      have hfin := hnext c (by omega) (by omega) (by omega) (by rw [el]; exact hz)
      rw [if_neg (fun q => e ((nI_eq (by omega) (by omega)).mp q)), nI_1]
      rw [es, el] at hfin
      exact hfin
theorem wouldFail_m {D : Dt} {tx : Nat → Int32} (hb : Bw D) {k : Nat} {t : Nat → Nat} (hG : Gk D k t) (hk : k ≤ 20) {s : St} (hm : RM D tx s) (h97 : ∀ p, p < D.1 0 → rI s 97 p = nI (t p)) {p : Nat} (hp : p < D.1 0) : f_X11_wouldFail (nI p) s = some (nI (Fw D t p), s) := by
  have hA := hb.1.2.1
  exact wouldFail_l hb hG hk hm h97 hp (D.1 1) 0 FU 0 (by omega) (FU_lt (by omega)) (by omega) (Iff.intro (fun _ => rfl) (fun _ => rfl))
theorem sl_le (D : Dt) (t : Nat → Nat) (p : Nat) : (sl D t p).2 ≤ p ∧ (sl D t p).1 ≤ 1000000 := by
  by_cases z : (sl D t p).2 = 0
  · rw [(sl_none D t p z).1]; omega
  · have := sl_some D t p z; omega
theorem find52_l {D : Dt} {tx : Nat → Int32} (hb : Bw D) {k : Nat} {t : Nat → Nat} (hG : Gk D k t) (hk : k ≤ 20) {s : St} (hm : RM D tx s) (h97 : ∀ p, p < D.1 0 → rI s 97 p = nI (t p)) (rec : Int32 → St → Option (Unit × St)) : ∀ (d p n : Nat), p + d = D.1 0 → d < n → l_X11_findFails_52 rec n (nI (sl D t p).2 - 1) (nI (sl D t p).1) (nI p) s = if (sl D t (D.1 0)).2 = 0 then rec (-1) s else rec (nI ((sl D t (D.1 0)).2 - 1)) (wI s 97 ((sl D t (D.1 0)).2 - 1) (nI (sl D t (D.1 0)).1)) := by
  have hP := hb.1.1
  intro d
  induction d with
  | zero =>
    intro p n hp hn
    obtain ⟨n, rfl⟩ : ∃ m, n = m + 1 := ⟨n - 1, by omega⟩
    have e : p = D.1 0 := by omega
    subst e
    have hsl := sl_le D t (D.1 0)
    show b_X11_findFails_52 rec (l_X11_findFails_52 rec n) _ _ (nI (D.1 0)) s = _
    unfold b_X11_findFails_52
    rw [hm.1 (74, 18, 0) (by decide), if_pos (nI_le (Nat.le_refl (D.1 0)) (by omega))]
    by_cases z : (sl D t (D.1 0)).2 = 0
    · rw [if_pos z, z, nI_m1, if_pos rfl]
    · rw [if_neg z, show nI (sl D t (D.1 0)).2 - 1 = nI ((sl D t (D.1 0)).2 - 1) from pk_sub (a := (sl D t (D.1 0)).2) (b := 1) (by omega)]
      rw [if_neg, gi_nI (by omega) (by decide), cl_nI (n := (sl D t (D.1 0)).2 - 1) (by omega)]
      intro q
      rw [fa_eq, nI_toInt (by omega)] at q
      have : (-1 : Int32).toInt = -1 := by decide
      omega
  | succ d ih =>
    intro p n hp hn
    obtain ⟨n, rfl⟩ : ∃ m, n = m + 1 := ⟨n - 1, by omega⟩
    have hlt : p < D.1 0 := by omega
    have hsl := sl_le D t p
    have hF := Fw_le D t p
    have hnext := ih (p + 1) n (by omega) (by omega)
    have htp := hG p hlt
    show b_X11_findFails_52 rec (l_X11_findFails_52 rec n) _ _ (nI p) s = _
    unfold b_X11_findFails_52
    rw [hm.1 (74, 18, 0) (by decide), if_neg (nI_ge (a := p) (b := D.1 0) hlt (by omega)), gi_nI (lt_n hlt hP) (by decide), cl_nI (n := p) (by omega), h97 p hlt]
    by_cases far : t p = 1000000
    · rw [if_pos (by rw [far]; rfl), wouldFail_m hb hG hk hm h97 hlt, bd_ok]
      by_cases c : Fw D t p < (sl D t p).1
      · have e : sl D t (p + 1) = (Fw D t p, p + 1) := if_pos ⟨far, c⟩
        rw [if_pos (nI_lt c (by omega)), wouldFail_m hb hG hk hm h97 hlt, bd_ok, nI_1, ← hnext, e]
        show _ = l_X11_findFails_52 rec n (nI (p + 1) - 1) (nI (Fw D t p)) (nI (p + 1)) s
        rw [nI_pred]
      · have e : sl D t (p + 1) = sl D t p := if_neg (fun q => c q.2)
        rw [if_neg (nI_nlt (by omega) (by omega)), nI_1, ← hnext, e]
    · have e : sl D t (p + 1) = sl D t p := if_neg (fun q => far q.1)
      rw [if_neg (show ¬ nI (t p) = (1000000 : Int32) from fun q => far ((nI_eq (a := t p) (b := 1000000) (by omega) (by omega)).mp q)), nI_1, ← hnext, e]
theorem di_none {D : Dt} {t : Nat → Nat} (z : (sl D t (D.1 0)).2 = 0) : ∀ k, di D t k = t
  | 0 => rfl
  | k + 1 => by
    show ds D (di D t k) = t
    rw [di_none z k, ds_none z]
theorem find39_l {D : Dt} {tx : Nat → Int32} (hb : Bw D) : ∀ (u n k : Nat) (t : Nat → Nat) (x : Int32) (s : St), uc D t ≤ u → u + 1 < n → Gk D k t → k + u ≤ 20 → ¬ x = -1 → RM D tx s → (∀ p, p < D.1 0 → rI s 97 p = nI (t p)) → ∃ w, l_X11_findFails_39 n x s = some ((), w) ∧ Kp [97] s w ∧ ∀ p, p < D.1 0 → rI w 97 p = nI (di D t u p) := by
  have hP := hb.1.1
  intro u
  induction u with
  | zero =>
    intro n k t x s hu hn hG hk hx hm h97
    obtain ⟨n, rfl⟩ : ∃ m, n = m + 2 := ⟨n - 2, by omega⟩
    refine ⟨s, ?_, Kp.rf, h97⟩
    show b_X11_findFails_39 (l_X11_findFails_39 (n + 1)) x s = _
    unfold b_X11_findFails_39
    have z : (sl D t (D.1 0)).2 = 0 := by
      by_cases z : (sl D t (D.1 0)).2 = 0
      · exact z
      · have := uc_step z; omega
    have := find52_l hb hG (by omega) hm h97 (l_X11_findFails_39 (n + 1)) (D.1 0) 0 FU (by omega) (FU_lt (by omega))
    rw [if_pos z] at this
    rw [if_neg hx]
    refine Eq.trans this ?_
    show b_X11_findFails_39 (l_X11_findFails_39 n) (-1) s = _
    unfold b_X11_findFails_39
    rw [if_pos rfl]
  | succ u ih =>
    intro n k t x s hu hn hG hk hx hm h97
    obtain ⟨n, rfl⟩ : ∃ m, n = m + 2 := ⟨n - 2, by omega⟩
    have hf := find52_l hb hG (by omega) hm h97 (l_X11_findFails_39 (n + 1)) (D.1 0) 0 FU (by omega) (FU_lt (by omega))
    by_cases z : (sl D t (D.1 0)).2 = 0
    · refine ⟨s, ?_, Kp.rf, by rw [di_none z]; exact h97⟩
      show b_X11_findFails_39 (l_X11_findFails_39 (n + 1)) x s = _
      unfold b_X11_findFails_39
      rw [if_pos z] at hf
      rw [if_neg hx]
      refine Eq.trans hf ?_
      show b_X11_findFails_39 (l_X11_findFails_39 n) (-1) s = _
      unfold b_X11_findFails_39
      rw [if_pos rfl]
    · have hst := uc_step z
      have i1 := (sl_some D t (D.1 0) z).1
      rw [if_neg z] at hf
      obtain ⟨w, a1, a2, a3⟩ := ih (n + 1) (k + 1) (ds D t) (nI ((sl D t (D.1 0)).2 - 1)) (wI s 97 ((sl D t (D.1 0)).2 - 1) (nI (sl D t (D.1 0)).1)) (by omega) (by omega) (Gk_ds hb hG) (by omega) (by
        intro q
        rw [fa_eq, nI_toInt (by omega)] at q
        have : (-1 : Int32).toInt = -1 := by decide
        omega) (hm.kp (ks := [97]) (Kp_wI Kp.rf (by decide) _ _) (by decide)) (fun p hp => by
        rw [rI_wI]
        unfold ds
        rw [if_neg z]
        by_cases e : p = (sl D t (D.1 0)).2 - 1
        · rw [if_pos ⟨rfl, e⟩, e]; simp [va_up]
        · rw [if_neg (fun q => e q.2), h97 p hp]; simp [va_up, e])
      refine ⟨w, ?_, Kp.tr (Kp_wI Kp.rf (by decide) _ _) a2, fun p hp => ?_⟩
      · show b_X11_findFails_39 (l_X11_findFails_39 (n + 1)) x s = _
        unfold b_X11_findFails_39
        rw [if_neg hx]
        exact Eq.trans hf a1
      · rw [a3 p hp, di_in]; rfl
theorem fl_di {D : Dt} (hb : Bw D) (h : Int32) {p : Nat} (hp : p < D.1 0) : fl D h p = di D (t0 h) (D.1 0) p :=
  it_eq_di hb (v := 0) ⟨by omega, fun q hq => ⟨fun hne => by
    have : t0 h q = 0 := by unfold t0 at *; split <;> simp_all
    omega, fun _ => by omega⟩⟩ (fun q _ => t0_le h q) p hp
theorem G_t0 (D : Dt) (h : Int32) : Gk D 0 (t0 h) := fun p _ => by
  unfold t0
  split <;> omega
theorem fl_G {D : Dt} (hb : Bw D) (h : Int32) {p : Nat} (hp : p < D.1 0) : fl D h p = 1000000 ∨ fl D h p ≤ 720 := by
  have := Gk_di hb (G_t0 D h) (D.1 0) p hp
  have hP := hb.1.1
  rw [fl_di hb h hp]
  omega
theorem find2_l {D : Dt} {tx : Nat → Int32} (hb : Bw D) (h : Int32) : ∀ (d i n : Nat) (s : St), i + d = D.1 0 → d < n → RM D tx s → (∀ p, p < i → rI s 97 p = nI (t0 h p)) → ∃ u, l_X11_findFails_2 n h (nI i) s = some ((), u) ∧ Kp [97] s u ∧ ∀ p, p < D.1 0 → rI u 97 p = nI (fl D h p) := by
  have hP := hb.1.1
  intro d
  induction d with
  | zero =>
    intro i n s hi hn hm h97
    obtain ⟨n, rfl⟩ : ∃ m, n = m + 1 := ⟨n - 1, by omega⟩
    obtain ⟨u, a1, a2, a3⟩ := find39_l (tx := tx) hb (D.1 0) FU 0 (t0 h) 0 s (fb_ct_le _ _) (by have : FU = 10000 := rfl; omega) (G_t0 D h) (by omega) (by decide) hm (fun p hp => h97 p (by omega))
    refine ⟨u, ?_, a2, fun p hp => by rw [a3 p hp, fl_di hb h hp]⟩
    show b_X11_findFails_2 (l_X11_findFails_2 n) h (nI i) s = _
    unfold b_X11_findFails_2
    rw [hm.1 (74, 18, 0) (by decide), if_pos (nI_le (a := D.1 0) (b := i) (by omega) (by omega))]
    exact a1
  | succ d ih =>
    intro i n s hi hn hm h97
    obtain ⟨n, rfl⟩ : ∃ m, n = m + 1 := ⟨n - 1, by omega⟩
    have hlt : i < D.1 0 := by omega
    obtain ⟨u, a1, a2, a3⟩ := ih (i + 1) n (wI s 97 i (nI (t0 h i))) (by omega) (by omega) (hm.kp (ks := [97]) (Kp_wI Kp.rf (by decide) _ _) (by decide)) (fun p hp => by
      by_cases e : p = i
      · subst e; exact rI_same _ _ _ _
      · rw [rI_nj e]; exact h97 p (by omega))
    refine ⟨u, ?_, Kp.tr (Kp_wI Kp.rf (by decide) _ _) a2, a3⟩
    show b_X11_findFails_2 (l_X11_findFails_2 n) h (nI i) s = _
    unfold b_X11_findFails_2
    rw [hm.1 (74, 18, 0) (by decide), if_neg (nI_ge (a := i) (b := D.1 0) hlt (by omega))]
    unfold t0 at a1
    by_cases c : bt h i = true
    · rw [if_pos c] at a1
      rw [if_pos ((b_at1 h (by omega)).mpr c), gi_nI (lt_n hlt hP) (by decide), cl_nI (n := i) (by omega), nI_1]
      exact a1
    · rw [if_neg c] at a1
      rw [if_neg (fun q => c ((b_at1 h (by omega)).mp q)), gi_nI (lt_n hlt hP) (by decide), cl_nI (n := i) (by omega), nI_1]
      exact a1
theorem find_m {D : Dt} {tx : Nat → Int32} {s : St} (hm : RM D tx s) (hb : Bw D) (h : Int32) : ∃ u, f_X11_findFails h s = some ((), u) ∧ Kp [97] s u ∧ ∀ p, p < D.1 0 → rI u 97 p = nI (fl D h p) := by
  have hP := hb.1.1
  exact find2_l hb h (D.1 0) 0 FU s (by omega) (FU_lt (by omega)) hm (fun p hp => absurd hp (Nat.not_lt_zero p))
/-! ===== heaps and points that can be ===== -/
theorem shl_P : ∀ n, n < 13 → (1 : Int32) <<< (nI n &&& 31) = nI (2 ^ n) := by decide +kernel
theorem pw_le {n : Nat} (h : n ≤ 12) : 2 ^ n ≤ 4096 := (Nat.pow_le_pow_right (by omega) h : 2 ^ n ≤ 2 ^ 12)
theorem heap3 (D : Dt) (hb : Bw D) (x : Int32) : (D.1 0 = 0 ∨ x < 0 ∨ nI (2 ^ D.1 0) ≤ x) ∨ (0 < D.1 0 ∧ ∃ h : Nat, h < 2 ^ D.1 0 ∧ x = nI h) := by
  have := pw_le hb.1.1
  by_cases z : D.1 0 = 0
  · exact Or.inl (Or.inl z)
  · rcases three x (n := 2 ^ D.1 0) (by omega) with q | q
    · exact Or.inl (Or.inr q)
    · exact Or.inr ⟨by omega, q⟩
theorem cHeap0 {D : Dt} {tx : Nat → Int32} {s : St} (hc : RC D tx s) (hb : Bw D) {x : Int32} (hx : D.1 0 = 0 ∨ x < 0 ∨ nI (2 ^ D.1 0) ≤ x) : f_X10_isHeap x s = some (0, s) := by
  have hP := hb.1.1
  unfold f_X10_isHeap f_X10_hasPlant
  rw [hc.1 (8, 0, 0) (by decide)]
  by_cases z : D.1 0 = 0
  · rw [if_pos (show nI (D.1 0) ≤ 0 by rw [z]; decide), bd_ok, if_pos rfl]
  · rw [if_neg (nI_nle (n := D.1 0) (by omega) (by omega)), bd_ok, if_neg (by decide)]
    by_cases h0 : x < 0
    · rw [if_pos h0]
    · rw [if_neg h0, hc.1 (8, 0, 0) (by decide), shl_P (D.1 0) (by omega), if_pos ((hx.resolve_left z).resolve_left h0)]
theorem cHeap1 {D : Dt} {tx : Nat → Int32} {s : St} (hc : RC D tx s) (hb : Bw D) {h : Nat} (h0 : 0 < D.1 0) (hh : h < 2 ^ D.1 0) : f_X10_isHeap (nI h) s = some (1, s) := by
  have hP := hb.1.1
  have := pw_le hP
  unfold f_X10_isHeap f_X10_hasPlant
  rw [hc.1 (8, 0, 0) (by decide), if_neg (nI_nle (n := D.1 0) (by omega) (by omega)), bd_ok, if_neg (by decide), if_neg (nI_pos (by omega)), hc.1 (8, 0, 0) (by decide), shl_P (D.1 0) (by omega), if_neg (nI_ge hh (by omega))]
theorem mHeap0 {D : Dt} {tx : Nat → Int32} {s : St} (hm : RM D tx s) (hb : Bw D) {x : Int32} (hx : D.1 0 = 0 ∨ x < 0 ∨ nI (2 ^ D.1 0) ≤ x) : f_X11_isHeap x s = some (0, s) := by
  have hP := hb.1.1
  have := pw_le hP
  unfold f_X11_isHeap
  rw [hm.1 (74, 18, 0) (by decide)]
  by_cases z : D.1 0 = 0
  · rw [if_pos (show nI (D.1 0) ≤ 0 by rw [z]; decide)]
  · rw [if_neg (nI_nle (n := D.1 0) (by omega) (by omega)), shl_P (D.1 0) (by omega), inM0 ((hx.resolve_left z).imp id (pred_lt (by omega))), bd_ok, if_pos rfl]
theorem mHeap1 {D : Dt} {tx : Nat → Int32} {s : St} (hm : RM D tx s) (hb : Bw D) {h : Nat} (h0 : 0 < D.1 0) (hh : h < 2 ^ D.1 0) : f_X11_isHeap (nI h) s = some (1, s) := by
  have hP := hb.1.1
  have := pw_le hP
  unfold f_X11_isHeap
  rw [hm.1 (74, 18, 0) (by decide), if_neg (nI_nle (n := D.1 0) (by omega) (by omega)), shl_P (D.1 0) (by omega), inM1 (nI_pos (by omega)) (pred_nlt (n := 2 ^ D.1 0) (by omega) hh), bd_ok, if_neg (by decide)]
theorem cPoint0 {D : Dt} {tx : Nat → Int32} {s : St} (hc : RC D tx s) {x : Int32} (hx : x < 0 ∨ nI (D.1 0) ≤ x) : f_X10_isPoint x s = some (0, s) := by
  unfold f_X10_isPoint
  rw [hc.1 (8, 0, 0) (by decide)]
  by_cases h0 : x < 0
  · rw [if_pos h0]
  · rw [if_neg h0, if_pos (hx.resolve_left h0)]
theorem cPoint1 {D : Dt} {tx : Nat → Int32} {s : St} (hc : RC D tx s) (hb : Bw D) {j : Nat} (hj : j < D.1 0) : f_X10_isPoint (nI j) s = some (1, s) := by
  have hP := hb.1.1
  unfold f_X10_isPoint
  rw [hc.1 (8, 0, 0) (by decide), if_neg (nI_pos (by omega)), if_neg (nI_ge (a := j) (b := D.1 0) hj (by omega))]
theorem mPoint0 {D : Dt} {tx : Nat → Int32} {s : St} (hm : RM D tx s) (hb : Bw D) {x : Int32} (hx : x < 0 ∨ nI (D.1 0) ≤ x) : f_X11_isPoint x s = some (0, s) := by
  have hP := hb.1.1
  unfold f_X11_isPoint
  rw [hm.1 (74, 18, 0) (by decide), inM0 (hx.imp id (pred_lt (by show D.1 0 < 2 ^ 31; omega))), bd_ok, gb_0]
theorem mPoint1 {D : Dt} {tx : Nat → Int32} {s : St} (hm : RM D tx s) (hb : Bw D) {j : Nat} (hj : j < D.1 0) : f_X11_isPoint (nI j) s = some (1, s) := by
  have hP := hb.1.1
  unfold f_X11_isPoint
  rw [hm.1 (74, 18, 0) (by decide), inM1 (nI_pos (by omega)) (pred_nlt (n := D.1 0) (by omega) hj), bd_ok, gb_1]
/-- what is FAR is NONE -/
def orN (v : Nat) : Int32 := if v < 1000000 then nI v else -1
theorem orNone_c {v : Nat} (hv : v ≤ 2000000) (s : St) : f_X10_orNone (nI v) s = some (orN v, s) := by
  unfold f_X10_orNone orN
  by_cases h : v < 1000000
  · rw [if_pos (show nI v < (1000000 : Int32) from nI_lt (a := v) (b := 1000000) h (by omega)), if_pos h]
  · rw [if_neg (show ¬ nI v < (1000000 : Int32) from nI_nlt (a := v) (b := 1000000) (by omega) (by omega)), if_neg h]
theorem far_ne {v : Nat} (hv : v < 1000000) : ¬ nI v = (1000000 : Int32) := fun q => by
  have := (nI_eq (a := v) (b := 1000000) (by omega) (by omega)).mp q
  omega
theorem call_fails {D : Dt} {tx : Nat → Int32} {s : St} (h : Rel D tx s) (x1 x2 : Int32) : Ok (f_X10_fails x1 x2) (f_X11_fails x1 x2) s := by
  obtain ⟨hB, hc, hm⟩ := id h
  have hb : Bw D := Bd_w hB
  have hP := hb.1.1
  rcases heap3 D hb x1 with hx | ⟨h0, g, hg, rfl⟩
  · refine rel0 h (r := -1) ?_ ?_
    · unfold f_X10_fails; rw [cHeap0 hc hb hx, bd_ok, if_pos rfl]
    · unfold f_X11_fails; rw [mHeap0 hm hb hx, bd_ok, if_pos rfl]
  · rcases three x2 (n := D.1 0) (by omega) with hx | ⟨p, hp, rfl⟩
    · refine rel0 h (r := -1) ?_ ?_
      · unfold f_X10_fails; rw [cHeap1 hc hb h0 hg, bd_ok, if_neg (by decide), cPoint0 hc hx, bd_ok, if_pos rfl]
      · unfold f_X11_fails; rw [mHeap1 hm hb h0 hg, bd_ok, if_neg (by decide), mPoint0 hm hb hx, bd_ok, if_pos rfl]
    · obtain ⟨u, a1, a2, a3⟩ := run_c hc hb (nI g)
      have hm1 : RM D tx u := RM_kpC hm a2 (by decide)
      obtain ⟨w, b1, b2, b3⟩ := find_m hm1 hb (nI g)
      have hfl := fl_le D (nI g) hp
      refine ⟨orN (fl D (nI g) p), u, w, D, tx, ?_, ?_, hB, RC_kpM (hc.kp a2 (by decide)) b2 (by decide), hm1.kp b2 (by decide)⟩
      · unfold f_X10_fails
        rw [cHeap1 hc hb h0 hg, bd_ok, if_neg (by decide), cPoint1 hc hb hp, bd_ok, if_neg (by decide), a1, bd_ok, gi_nI (lt_n hp hP) (by decide), cl_nI (n := p) (by omega), a3 p hp, orNone_c (by omega), bd_ok]
      · unfold f_X11_fails
        rw [mHeap1 hm1 hb h0 hg, bd_ok, if_neg (by decide), mPoint1 hm1 hb hp, bd_ok, if_neg (by decide), b1, bd_ok, gi_nI (lt_n hp hP) (by decide), cl_nI (n := p) (by omega), b3 p hp]
        unfold orN
        by_cases e : fl D (nI g) p < 1000000
        · rw [if_neg (far_ne e), if_pos e, gi_nI (lt_n hp hP) (by decide)]
        · rw [if_pos (by rw [show fl D (nI g) p = 1000000 by omega]; rfl), if_neg e]
