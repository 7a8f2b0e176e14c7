/-! ===== told: by stages, the class ===== -/
theorem ct_lt {p q : Nat → Bool} {i : Nat} (hq : q i = true) (hp : p i = false) : ∀ n, (∀ k, k < n → p k = true → q k = true) → i < n → fb_ct p n + 1 ≤ fb_ct q n
  | 0, _, h => absurd h (Nat.not_lt_zero i)
  | n + 1, hs, hi => by
    rw [fb_ct_succ, fb_ct_succ]
    by_cases e : i = n
    · subst e
      have := fb_ct_sub (p := p) (q := q) (n := i) (fun k hk => hs k (by omega))
      simp only [hq, hp, if_true, Bool.false_eq_true, if_false]
      omega
    · have ih := ct_lt (p := p) (q := q) hq hp n (fun k hk => hs k (by omega)) (by omega)
      have h1 := hs n (by omega)
      by_cases c : p n = true
      · rw [if_pos c, if_pos (h1 c)]; omega
      · rw [if_neg c]
        split <;> omega
/-- the next second behind v at which a window gets lit -/
def ncN (D : Dt) (h : Int32) (v : Nat) : Nat → Nat
  | 0 => 1000000
  | i + 1 => if lw D h i ≤ v then ncN D h v i else min (ncN D h v i) (lw D h i)
theorem ncN_spec (D : Dt) (h : Int32) (v : Nat) : ∀ i, ncN D h v i ≤ 1000000 ∧ (∀ w, w < i → v < lw D h w → ncN D h v i ≤ lw D h w) ∧ (ncN D h v i < 1000000 → ∃ w, w < i ∧ lw D h w = ncN D h v i ∧ v < lw D h w)
  | 0 => ⟨Nat.le_refl _, fun w hw => absurd hw (Nat.not_lt_zero w), fun q => absurd q (Nat.lt_irrefl _)⟩
  | i + 1 => by
    obtain ⟨h1, h2, h3⟩ := ncN_spec D h v i
    by_cases c : lw D h i ≤ v
    · have e : ncN D h v (i + 1) = ncN D h v i := if_pos c
      rw [e]
      refine ⟨h1, fun w hw q => ?_, fun q => ?_⟩
      · by_cases ew : w = i
        · subst ew; omega
        · exact h2 w (by omega) q
      · obtain ⟨w, a, b⟩ := h3 q
        exact ⟨w, by omega, b⟩
    · have e : ncN D h v (i + 1) = min (ncN D h v i) (lw D h i) := if_neg c
      rw [e]
      refine ⟨by omega, fun w hw q => ?_, fun q => ?_⟩
      · by_cases ew : w = i
        · subst ew; omega
        · have := h2 w (by omega) q
          omega
      · by_cases l : ncN D h v i ≤ lw D h i
        · have em : min (ncN D h v i) (lw D h i) = ncN D h v i := by omega
          rw [em] at q ⊢
          obtain ⟨w, a, b⟩ := h3 q
          exact ⟨w, by omega, b⟩
        · have em : min (ncN D h v i) (lw D h i) = lw D h i := by omega
          rw [em] at q ⊢
          exact ⟨i, by omega, rfl, by omega⟩
def nc (D : Dt) (h : Int32) (v : Nat) : Nat := ncN D h v (D.1 2)
theorem nc_le (D : Dt) (h : Int32) (v : Nat) : nc D h v ≤ 1000000 := (ncN_spec D h v _).1
theorem nc_lw {D : Dt} {h : Int32} {v w : Nat} (hw : w < D.1 2) (hv : v < lw D h w) : nc D h v ≤ lw D h w := (ncN_spec D h v _).2.1 w hw hv
theorem nc_at {D : Dt} {h : Int32} {v : Nat} (hv : nc D h v < 1000000) : ∃ w, w < D.1 2 ∧ lw D h w = nc D h v ∧ v < lw D h w := (ncN_spec D h v _).2.2 hv
theorem nextChange_l {D : Dt} {tx : Nat → Int32} {s : St} (hR : RC D tx s) (hb : Bw D) {h : Int32} (h34 : ∀ w, w < D.1 2 → rI s 34 w = nI (lw D h w)) {v : Nat} (hv : v ≤ 2000000) : ∀ (d i n : Nat), i + d = D.1 2 → d < n → l_X2_nextChange_5 n (nI v) (nI (ncN D h v i)) (nI i) s = some (nI (nc D h v), s) := by
  have hW := hb.1.2.2.1
  intro d
  induction d with
  | zero =>
    intro i n hi hn
    obtain ⟨n, rfl⟩ : ∃ m, n = m + 1 := ⟨n - 1, by omega⟩
    have e : i = D.1 2 := by omega
    subst e
    show b_X2_nextChange_5 (l_X2_nextChange_5 n) _ _ (nI (D.1 2)) s = _
    unfold b_X2_nextChange_5
    rw [hR.1 (8, 2, 2) (by decide), if_pos (nI_le (Nat.le_refl (D.1 2)) (by omega))]
    rfl
  | succ d ih =>
    intro i n hi hn
    obtain ⟨n, rfl⟩ : ∃ m, n = m + 1 := ⟨n - 1, by omega⟩
    have hlt : i < D.1 2 := by omega
    have hnext := ih (i + 1) n (by omega) (by omega)
    have hl := lw_le hb h hlt
    have hn1 := (ncN_spec D h v i).1
    show b_X2_nextChange_5 (l_X2_nextChange_5 n) _ _ (nI i) s = _
    unfold b_X2_nextChange_5
    rw [hR.1 (8, 2, 2) (by decide), if_neg (nI_ge (a := i) (b := D.1 2) hlt (by omega)), gi_nI (lt_n hlt hW) (by decide), cl_nI (n := i) (by omega), h34 i hlt]
    by_cases c : lw D h i ≤ v
    · have e : ncN D h v (i + 1) = ncN D h v i := if_pos c
      rw [if_pos (nI_le c (by omega)), nI_1, ← e]
      exact hnext
    · have e : ncN D h v (i + 1) = min (ncN D h v i) (lw D h i) := if_neg c
      rw [if_neg (nI_ge (a := v) (b := lw D h i) (by omega) (by omega)), gi_nI (lt_n hlt hW) (by decide), nI_1, jmin_nI (by omega) (by omega), ← e]
      exact hnext
theorem nextChange_c {D : Dt} {tx : Nat → Int32} {s : St} (hR : RC D tx s) (hb : Bw D) {h : Int32} (h34 : ∀ w, w < D.1 2 → rI s 34 w = nI (lw D h w)) {v : Nat} (hv : v ≤ 2000000) : f_X2_nextChange (nI v) s = some (nI (nc D h v), s) := by
  have hW := hb.1.2.2.1
  exact nextChange_l hR hb h34 hv (D.1 2) 0 FU (by omega) (FU_lt (by omega))
theorem lb_const {D : Dt} {h : Int32} {v u : Nat} (h1 : v ≤ u) (h2 : u < nc D h v) : lb D h u = lb D h v := by
  unfold lb
  refine bitsI_cong (fun w hw => ?_)
  by_cases c : lw D h w ≤ v
  · have : lw D h w ≤ u := by omega
    simp [c, this]
  · have := nc_lw (D := D) (h := h) (v := v) hw (by omega)
    have c2 : ¬ lw D h w ≤ u := by omega
    simp [c, c2]
theorem nc_const {D : Dt} {h : Int32} {v u : Nat} (h1 : v ≤ u) (h2 : u < nc D h v) : nc D h u = nc D h v := by
  have a1 := nc_le D h v
  have a2 := nc_le D h u
  apply Nat.le_antisymm
  · by_cases c : nc D h v < 1000000
    · obtain ⟨w, hw, e, _⟩ := nc_at c
      have := nc_lw (D := D) (h := h) (v := u) hw (by omega)
      omega
    · omega
  · by_cases c : nc D h u < 1000000
    · obtain ⟨w, hw, e, _⟩ := nc_at c
      have := nc_lw (D := D) (h := h) (v := v) hw (by omega)
      omega
    · omega
/-- the seconds at which the stages begin -/
def stg (D : Dt) (h : Int32) : Nat → Nat
  | 0 => 0
  | k + 1 => nc D h (stg D h k)
theorem stg_G {D : Dt} (hb : Bw D) {h : Int32} {k : Nat} (hk : stg D h k < 1000000) : stg D h k ≤ 780 := by
  cases k with
  | zero => exact Nat.zero_le _
  | succ k =>
    obtain ⟨w, hw, e, _⟩ := nc_at (D := D) (h := h) (v := stg D h k) hk
    have := lw_G hb h hw
    have e2 : stg D h (k + 1) = nc D h (stg D h k) := rfl
    omega
/-- how many windows get lit behind v -/
def chN (D : Dt) (h : Int32) (v : Nat) : Nat := fb_ct (fun w => decide (v < lw D h w ∧ lw D h w < 1000000)) (D.1 2)
theorem chN_step {D : Dt} {h : Int32} {v : Nat} (hv : nc D h v < 1000000) : chN D h (nc D h v) + 1 ≤ chN D h v := by
  obtain ⟨w, hw, e, hlt⟩ := nc_at hv
  refine ct_lt (i := w) ?_ ?_ (D.1 2) (fun k _ hk => ?_) hw
  · simp; omega
  · simp; omega
  · simp only [decide_eq_true_eq] at hk ⊢
    omega
theorem chN_mono {D : Dt} {h : Int32} {v u : Nat} (h1 : v ≤ u) : chN D h u ≤ chN D h v := fb_ct_sub (fun k _ hk => by
  simp only [decide_eq_true_eq] at hk ⊢
  omega)
/-- the stages of a point as the class holds them -/
def StP (D : Dt) (p : Nat) (s : St) (ns : Nat) : Prop := ns ≤ 13 ∧ 0 < ns ∧ rI s 49 p = nI ns ∧ stg D ((1 : Int32) <<< (nI p &&& 31)) ns = 1000000 ∧ ∀ j, j < ns → stg D ((1 : Int32) <<< (nI p &&& 31)) j < 1000000 ∧ rI s (50 + p) j = nI (stg D ((1 : Int32) <<< (nI p &&& 31)) j) ∧ rI s (62 + p) j = sv D p (stg D ((1 : Int32) <<< (nI p &&& 31)) j)
theorem stages_l {D : Dt} {tx : Nat → Int32} (hb : Bw D) {p : Nat} (hp : p < D.1 0) : ∀ (m k n : Nat) (s : St), stg D ((1 : Int32) <<< (nI p &&& 31)) k < 1000000 → chN D ((1 : Int32) <<< (nI p &&& 31)) (stg D ((1 : Int32) <<< (nI p &&& 31)) k) ≤ m → k + m ≤ 12 → m + 2 ≤ n → RC D tx s → (∀ w, w < D.1 2 → rI s 34 w = nI (lw D ((1 : Int32) <<< (nI p &&& 31)) w)) → (∀ j, j < k → stg D ((1 : Int32) <<< (nI p &&& 31)) j < 1000000 ∧ rI s (50 + p) j = nI (stg D ((1 : Int32) <<< (nI p &&& 31)) j) ∧ rI s (62 + p) j = sv D p (stg D ((1 : Int32) <<< (nI p &&& 31)) j)) → ∃ u ns, l_X0_setStages_4 n (nI p) (nI k) (nI (stg D ((1 : Int32) <<< (nI p &&& 31)) k)) s = some ((), u) ∧ Kp [49, 50 + p, 62 + p] s u ∧ (∀ q, q ≠ p → rI u 49 q = rI s 49 q) ∧ StP D p u ns := by
  have hP := hb.1.1
  intro m
  induction m with
  | zero =>
    intro k n s hk hm hkm hn hR h34 hrow
    obtain ⟨n, rfl⟩ : ∃ m, n = m + 1 := ⟨n - 1, by omega⟩
    obtain ⟨n, rfl⟩ : ∃ m, n = m + 1 := ⟨n - 1, by omega⟩
    have hG := stg_G hb hk
    have hfar : ¬ nc D ((1 : Int32) <<< (nI p &&& 31)) (stg D ((1 : Int32) <<< (nI p &&& 31)) k) < 1000000 := fun q => by
      have := chN_step q
      omega
    have hnc := nc_le D ((1 : Int32) <<< (nI p &&& 31)) (stg D ((1 : Int32) <<< (nI p &&& 31)) k)
    have k1 : Kp [49, 50 + p, 62 + p] s (wI s (50 + p) k (nI (stg D ((1 : Int32) <<< (nI p &&& 31)) k))) := Kp_wI Kp.rf (by simp) _ _
    have k2 := Kp_wI k1 (k := 62 + p) (by simp) k (sv D p (stg D ((1 : Int32) <<< (nI p &&& 31)) k))
    have k3 := Kp_wI k2 (k := 49) (by simp) p (nI (k + 1))
    have hd : ∀ c, c ∈ [1, 2, 8, 9, 10, 11, 12, 13, 14, 15, 16, 17, 32, 33, 35, 36, 37, 38, 42, 46] → c ∉ [49, 50 + p, 62 + p] := fun c hc => by
      simp only [List.mem_cons, List.not_mem_nil, or_false] at hc ⊢
      omega
    have hR1 : RC D tx (wI s (50 + p) k (nI (stg D ((1 : Int32) <<< (nI p &&& 31)) k))) := hR.kp k1 hd
    have hR2 := hR.kp k2 hd
    have e34 : ∀ w, w < D.1 2 → rI (wI s (50 + p) k (nI (stg D ((1 : Int32) <<< (nI p &&& 31)) k))) 34 w = nI (lw D ((1 : Int32) <<< (nI p &&& 31)) w) := fun w hw => by rw [rI_nk (by omega)]; exact h34 w hw
    have f34 : ∀ w, w < D.1 2 → rI (wI (wI s (50 + p) k (nI (stg D ((1 : Int32) <<< (nI p &&& 31)) k))) (62 + p) k (sv D p (stg D ((1 : Int32) <<< (nI p &&& 31)) k))) 34 w = nI (lw D ((1 : Int32) <<< (nI p &&& 31)) w) := fun w hw => by rw [rI_nk (by omega)]; exact e34 w hw
    refine ⟨_, k + 1, ?_, k3, fun q hq => ?_, by omega, by omega, rI_same _ _ _ _, ?_, fun j hj => ?_⟩
    · show b_X0_setStages_4 (l_X0_setStages_4 (n + 1)) (nI p) (nI k) _ s = _
      unfold b_X0_setStages_4
      rw [if_neg (show ¬ (13 : Int32) ≤ nI k from nI_ge (a := k) (b := 13) (by omega) (by omega)), if_neg (show ¬ (1000000 : Int32) ≤ nI (stg D ((1 : Int32) <<< (nI p &&& 31)) k) from nI_ge (b := 1000000) hk (by omega)), gi_nI (j := p) (n := 12) (by omega) (by decide), gi_nI (j := k) (n := 13) (by omega) (by decide), gi_nI (j := p) (n := 12) (by omega) (by decide), cl_nI (n := p) (by omega), cl_nI (n := k) (by omega)]
      show bd (f_X2_litAt (nI (stg D ((1 : Int32) <<< (nI p &&& 31)) k)) (wI s (50 + p) k (nI (stg D ((1 : Int32) <<< (nI p &&& 31)) k)))) _ = _
      rw [litAt_c hR1 hb e34 (by omega), bd_ok, shownOf_c hR1 hb _ _ (z := zr D) (fun r hr => rest_c hR1 hb hr), bd_ok, gi_nI (j := k) (n := 13) (by omega) (by decide), nI_1]
      show bd (f_X2_nextChange (nI (stg D ((1 : Int32) <<< (nI p &&& 31)) k)) (wI (wI s (50 + p) k (nI (stg D ((1 : Int32) <<< (nI p &&& 31)) k))) (62 + p) k (sv D p (stg D ((1 : Int32) <<< (nI p &&& 31)) k)))) _ = _
      rw [nextChange_c hR2 hb f34 (by omega), bd_ok]
      show b_X0_setStages_4 (l_X0_setStages_4 n) (nI p) (nI (k + 1)) _ _ = _
      unfold b_X0_setStages_4
      rw [if_pos (show (1000000 : Int32) ≤ nI (nc D ((1 : Int32) <<< (nI p &&& 31)) (stg D ((1 : Int32) <<< (nI p &&& 31)) k)) from nI_le (a := 1000000) (by omega) (by omega)), ite_self, gi_nI (j := p) (n := 12) (by omega) (by decide), cl_nI (n := p) (by omega)]
    · rw [rI_nj hq, rI_nk (by omega), rI_nk (by omega)]
    · show nc D _ (stg D _ k) = 1000000
      omega
    · by_cases e : j = k
      · subst e
        refine ⟨hk, ?_, ?_⟩
        · rw [rI_nk (by omega), rI_nk (by omega), rI_same]
        · rw [rI_nk (by omega), rI_same]
      · obtain ⟨a, b, c⟩ := hrow j (by omega)
        refine ⟨a, ?_, ?_⟩
        · rw [rI_nk (by omega), rI_nk (by omega), rI_nj e]; exact b
        · rw [rI_nk (by omega), rI_nj e, rI_nk (by omega)]; exact c
  | succ m ih =>
    intro k n s hk hm hkm hn hR h34 hrow
    obtain ⟨n, rfl⟩ : ∃ m, n = m + 1 := ⟨n - 1, by omega⟩
    have hG := stg_G hb hk
    have hnc := nc_le D ((1 : Int32) <<< (nI p &&& 31)) (stg D ((1 : Int32) <<< (nI p &&& 31)) k)
    have k1 : Kp [49, 50 + p, 62 + p] s (wI s (50 + p) k (nI (stg D ((1 : Int32) <<< (nI p &&& 31)) k))) := Kp_wI Kp.rf (by simp) _ _
    have k2 := Kp_wI k1 (k := 62 + p) (by simp) k (sv D p (stg D ((1 : Int32) <<< (nI p &&& 31)) k))
    have k3 := Kp_wI k2 (k := 49) (by simp) p (nI (k + 1))
    have hd : ∀ c, c ∈ [1, 2, 8, 9, 10, 11, 12, 13, 14, 15, 16, 17, 32, 33, 35, 36, 37, 38, 42, 46] → c ∉ [49, 50 + p, 62 + p] := fun c hc => by
      simp only [List.mem_cons, List.not_mem_nil, or_false] at hc ⊢
      omega
    have hR1 : RC D tx (wI s (50 + p) k (nI (stg D ((1 : Int32) <<< (nI p &&& 31)) k))) := hR.kp k1 hd
    have hR2 := hR.kp k2 hd
    have e34 : ∀ w, w < D.1 2 → rI (wI s (50 + p) k (nI (stg D ((1 : Int32) <<< (nI p &&& 31)) k))) 34 w = nI (lw D ((1 : Int32) <<< (nI p &&& 31)) w) := fun w hw => by rw [rI_nk (by omega)]; exact h34 w hw
    have f34 : ∀ w, w < D.1 2 → rI (wI (wI s (50 + p) k (nI (stg D ((1 : Int32) <<< (nI p &&& 31)) k))) (62 + p) k (sv D p (stg D ((1 : Int32) <<< (nI p &&& 31)) k))) 34 w = nI (lw D ((1 : Int32) <<< (nI p &&& 31)) w) := fun w hw => by rw [rI_nk (by omega)]; exact e34 w hw
    have rows : ∀ j, j < k + 1 → stg D ((1 : Int32) <<< (nI p &&& 31)) j < 1000000 ∧ rI (wI (wI s (50 + p) k (nI (stg D ((1 : Int32) <<< (nI p &&& 31)) k))) (62 + p) k (sv D p (stg D ((1 : Int32) <<< (nI p &&& 31)) k))) (50 + p) j = nI (stg D ((1 : Int32) <<< (nI p &&& 31)) j) ∧ rI (wI (wI s (50 + p) k (nI (stg D ((1 : Int32) <<< (nI p &&& 31)) k))) (62 + p) k (sv D p (stg D ((1 : Int32) <<< (nI p &&& 31)) k))) (62 + p) j = sv D p (stg D ((1 : Int32) <<< (nI p &&& 31)) j) := fun j hj => by
      by_cases e : j = k
      · subst e
        refine ⟨hk, ?_, ?_⟩
        · rw [rI_nk (by omega), rI_same]
        · rw [rI_same]
      · obtain ⟨a, b, c⟩ := hrow j (by omega)
        refine ⟨a, ?_, ?_⟩
        · rw [rI_nk (by omega), rI_nj e]; exact b
        · rw [rI_nj e, rI_nk (by omega)]; exact c
    have go : ∀ r, l_X0_setStages_4 n (nI p) (nI (k + 1)) (nI (stg D ((1 : Int32) <<< (nI p &&& 31)) (k + 1))) (wI (wI s (50 + p) k (nI (stg D ((1 : Int32) <<< (nI p &&& 31)) k))) (62 + p) k (sv D p (stg D ((1 : Int32) <<< (nI p &&& 31)) k))) = r → l_X0_setStages_4 (n + 1) (nI p) (nI k) (nI (stg D ((1 : Int32) <<< (nI p &&& 31)) k)) s = r := fun r hr => by
      show b_X0_setStages_4 (l_X0_setStages_4 n) (nI p) (nI k) _ s = _
      unfold b_X0_setStages_4
      rw [if_neg (show ¬ (13 : Int32) ≤ nI k from nI_ge (a := k) (b := 13) (by omega) (by omega)), if_neg (show ¬ (1000000 : Int32) ≤ nI (stg D ((1 : Int32) <<< (nI p &&& 31)) k) from nI_ge (b := 1000000) hk (by omega)), gi_nI (j := p) (n := 12) (by omega) (by decide), gi_nI (j := k) (n := 13) (by omega) (by decide), gi_nI (j := p) (n := 12) (by omega) (by decide), cl_nI (n := p) (by omega), cl_nI (n := k) (by omega)]
      show bd (f_X2_litAt (nI (stg D ((1 : Int32) <<< (nI p &&& 31)) k)) (wI s (50 + p) k (nI (stg D ((1 : Int32) <<< (nI p &&& 31)) k)))) _ = _
      rw [litAt_c hR1 hb e34 (by omega), bd_ok, shownOf_c hR1 hb _ _ (z := zr D) (fun r hr => rest_c hR1 hb hr), bd_ok, gi_nI (j := k) (n := 13) (by omega) (by decide), nI_1]
      show bd (f_X2_nextChange (nI (stg D ((1 : Int32) <<< (nI p &&& 31)) k)) (wI (wI s (50 + p) k (nI (stg D ((1 : Int32) <<< (nI p &&& 31)) k))) (62 + p) k (sv D p (stg D ((1 : Int32) <<< (nI p &&& 31)) k)))) _ = _
      rw [nextChange_c hR2 hb f34 (by omega), bd_ok]
      exact hr
    by_cases hfar : nc D ((1 : Int32) <<< (nI p &&& 31)) (stg D ((1 : Int32) <<< (nI p &&& 31)) k) < 1000000
    · have hst := chN_step hfar
      obtain ⟨u, ns, a1, a2, a3, a4⟩ := ih (k + 1) n _ hfar (by show chN D _ (nc D _ (stg D _ k)) ≤ m; omega) (by omega) (by omega) hR2 f34 rows
      refine ⟨u, ns, go _ a1, k2.tr a2, fun q hq => ?_, a4⟩
      rw [a3 q hq, rI_nk (by omega), rI_nk (by omega)]
    · obtain ⟨n, rfl⟩ : ∃ m, n = m + 1 := ⟨n - 1, by omega⟩
      refine ⟨wI (wI (wI s (50 + p) k (nI (stg D ((1 : Int32) <<< (nI p &&& 31)) k))) (62 + p) k (sv D p (stg D ((1 : Int32) <<< (nI p &&& 31)) k))) 49 p (nI (k + 1)), k + 1, go _ ?_, k3, fun q hq => ?_, by omega, by omega, rI_same _ _ _ _, ?_, fun j hj => ?_⟩
      · show b_X0_setStages_4 (l_X0_setStages_4 n) (nI p) (nI (k + 1)) _ _ = _
        unfold b_X0_setStages_4
        rw [if_pos (show (1000000 : Int32) ≤ nI (stg D ((1 : Int32) <<< (nI p &&& 31)) (k + 1)) from nI_le (a := 1000000) (b := nc D ((1 : Int32) <<< (nI p &&& 31)) (stg D ((1 : Int32) <<< (nI p &&& 31)) k)) (by omega) (by omega)), ite_self, gi_nI (j := p) (n := 12) (by omega) (by decide), cl_nI (n := p) (by omega)]
      · rw [rI_nj hq, rI_nk (by omega), rI_nk (by omega)]
      · show nc D _ (stg D _ k) = 1000000
        omega
      · obtain ⟨a, b, c⟩ := rows j hj
        refine ⟨a, ?_, ?_⟩
        · rw [rI_nk (by omega)]; exact b
        · rw [rI_nk (by omega)]; exact c
theorem setStages_c {D : Dt} {tx : Nat → Int32} {s : St} (hR : RC D tx s) (hb : Bw D) {p : Nat} (hp : p < D.1 0) (h34 : ∀ w, w < D.1 2 → rI s 34 w = nI (lw D ((1 : Int32) <<< (nI p &&& 31)) w)) : ∃ u ns, f_X0_setStages (nI p) s = some ((), u) ∧ Kp [49, 50 + p, 62 + p] s u ∧ (∀ q, q ≠ p → rI u 49 q = rI s 49 q) ∧ StP D p u ns := by
  have hW := hb.1.2.2.1
  have h12 : chN D ((1 : Int32) <<< (nI p &&& 31)) 0 ≤ 12 := Nat.le_trans (fb_ct_le _ _) hW
  exact stages_l hb hp 12 0 FU s (show 0 < 1000000 by omega) h12 (by omega) (show 14 ≤ 10000 by omega) hR h34 (fun j hj => absurd hj (Nat.not_lt_zero j))
