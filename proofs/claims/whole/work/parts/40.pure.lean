/-! ===== explain: all heaps, the reference; the call ===== -/
theorem e42_l {D : Dt} {tx : Nat → Int32} (hb : Bw D) {ra : Nat → Nat} (hle : ∀ i, i < D.1 4 → ra i ≤ 999) {k : Nat} (hk : k ≤ 3) (r35 : Int32 → Int32 → St → Option (Unit × St)) : ∀ (d c n : Nat) (A : Ax) (s : St), c + d = 2 ^ D.1 0 → d < n → IvM D tx ra A s → ∃ t, l_X11_explains_42 r35 n (nI (La D ra (D.1 4))) (nI k) (nI c) s = r35 (nI (La D ra (D.1 4))) (nI (k + 1)) t ∧ Ky s t ∧ IvM D tx ra ((ML k d c).foldl (stp D ra) A) t := by
  have hP := hb.1.1
  have h4 := pw_le hP
  intro d
  induction d with
  | zero =>
    intro c n A s hc hn h
    obtain ⟨n, rfl⟩ : ∃ m, n = m + 1 := ⟨n - 1, by omega⟩
    refine ⟨s, ?_, Ky_rf s, h⟩
    show b_X11_explains_42 r35 (l_X11_explains_42 r35 n) _ _ (nI c) s = _
    unfold b_X11_explains_42
    rw [h.1.1 (74, 18, 0) (by decide), shl_P (D.1 0) (by omega), if_pos (nI_le (a := 2 ^ D.1 0) (b := c) (by omega) (by omega)), nI_1]
  | succ d ih =>
    intro c n A s hc hn h
    obtain ⟨n, rfl⟩ : ∃ m, n = m + 1 := ⟨n - 1, by omega⟩
    have hon : onN c ≤ 12 := fb_ct_le _ _
    have hbody : b_X11_explains_42 r35 (l_X11_explains_42 r35 n) (nI (La D ra (D.1 4))) (nI k) (nI c) s = if nI (onN c) = nI k then (bd (f_X11_findFails (nI c) s) fun _ t => l_X11_explains_81 r35 (l_X11_explains_42 r35 n) FU (nI (La D ra (D.1 4))) (nI k) (nI c) 1000000 0 0 0 t) else l_X11_explains_42 r35 n (nI (La D ra (D.1 4))) (nI k) (nI (c + 1)) s := by
      unfold b_X11_explains_42
      rw [h.1.1 (74, 18, 0) (by decide), shl_P (D.1 0) (by omega), if_neg (nI_ge (a := c) (b := 2 ^ D.1 0) (by omega) (by omega)), ones_m, bd_ok, nI_1]
    by_cases e : onN c = k
    · obtain ⟨u, a1, a2, a3⟩ := heap_m hb hle h c hk r35 (l_X11_explains_42 r35 n)
      obtain ⟨t, b1, b2, b3⟩ := ih (c + 1) n _ u (by omega) (by omega) a3
      refine ⟨t, ?_, Ky_tr a2 b2, ?_⟩
      · show b_X11_explains_42 r35 (l_X11_explains_42 r35 n) _ _ (nI c) s = _
        rw [hbody, if_pos (by rw [e])]
        exact Eq.trans a1 b1
      · rw [show ML k (d + 1) c = (c, k) :: ML k d (c + 1) from if_pos e]
        exact b3
    · obtain ⟨t, b1, b2, b3⟩ := ih (c + 1) n _ s (by omega) (by omega) h
      refine ⟨t, ?_, b2, ?_⟩
      · show b_X11_explains_42 r35 (l_X11_explains_42 r35 n) _ _ (nI c) s = _
        rw [hbody, if_neg (fun q => e ((nI_eq (by omega) (by omega)).mp q))]
        exact b1
      · rw [show ML k (d + 1) c = ML k d (c + 1) from if_neg e]
        exact b3
def MS (P : Nat) : Nat → Nat → List (Nat × Nat)
  | 0, _ => []
  | d + 1, k => ML k (2 ^ P) 0 ++ MS P d (k + 1)
theorem MS_MA (P : Nat) : MS P 4 0 = MA P := by
  show ML 0 (2 ^ P) 0 ++ (ML 1 (2 ^ P) 0 ++ (ML 2 (2 ^ P) 0 ++ (ML 3 (2 ^ P) 0 ++ []))) = _
  rw [List.append_nil]
  rfl
theorem e35_l {D : Dt} {tx : Nat → Int32} (hb : Bw D) {ra : Nat → Nat} (hle : ∀ i, i < D.1 4 → ra i ≤ 999) : ∀ (d k n : Nat) (A : Ax) (s : St), k + d = 4 → d < n → IvM D tx ra A s → ∃ t, l_X11_explains_35 n (nI (La D ra (D.1 4))) (nI k) s = some ((), t) ∧ Ky s t ∧ IvM D tx ra ((MS (D.1 0) d k).foldl (stp D ra) A) t := by
  have hP := hb.1.1
  have h4 := pw_le hP
  intro d
  induction d with
  | zero =>
    intro k n A s hk hn h
    obtain ⟨n, rfl⟩ : ∃ m, n = m + 1 := ⟨n - 1, by omega⟩
    refine ⟨s, ?_, Ky_rf s, h⟩
    show b_X11_explains_35 (l_X11_explains_35 n) _ (nI k) s = _
    unfold b_X11_explains_35
    rw [if_pos (show (3 : Int32) < nI k from nI_lt (a := 3) (b := k) (by omega) (by omega))]
  | succ d ih =>
    intro k n A s hk hn h
    obtain ⟨n, rfl⟩ : ∃ m, n = m + 1 := ⟨n - 1, by omega⟩
    obtain ⟨u, a1, a2, a3⟩ := e42_l (tx := tx) hb hle (k := k) (by omega) (l_X11_explains_35 n) (2 ^ D.1 0) 0 FU A s (by omega) (FU_lt (by omega)) h
    obtain ⟨t, b1, b2, b3⟩ := ih (k + 1) n _ u (by omega) (by omega) a3
    refine ⟨t, ?_, Ky_tr a2 b2, ?_⟩
    · show b_X11_explains_35 (l_X11_explains_35 n) _ (nI k) s = _
      unfold b_X11_explains_35
      rw [if_neg (show ¬ (3 : Int32) < nI k from nI_nlt (a := 3) (b := k) (by omega) (by omega))]
      exact Eq.trans a1 b1
    · rw [show MS (D.1 0) (d + 1) k = ML k (2 ^ D.1 0) 0 ++ MS (D.1 0) d (k + 1) from rfl, List.foldl_append]
      exact b3
theorem explains_m {D : Dt} {tx : Nat → Int32} {s : St} (hS : RM D tx s) (hb : Bw D) (hw : ∀ i, i < D.1 4 → D.2 13 i < D.1 2) (hle : ∀ i, i < D.1 4 → D.2 14 i ≤ 999) : ∃ u, f_X11_explains s = some ((), u) ∧ Ky s u ∧ MlA (xp D (D.2 14)) u := by
  have hN := hb.1.2.2.2.2.1
  obtain ⟨s1, a1, a2, a3⟩ := firstRows_m hS hb hw
  have y1 : Ky s s1 := Ky_98 a2
  have hS1 := RM_y hS y1
  have k2 : Kp [74] s1 (wI s1 74 40 1000000) := Kp_wI Kp.rf (by decide) _ _
  have y2 : Ky s1 (wI s1 74 40 1000000) := ⟨k2.mono (by decide), fun j hj => rI_nj (by omega)⟩
  have i0 : IvM D tx (D.2 14) (1000000, fun j => rI (wI s1 74 40 1000000) 74 (40 + j)) (wI s1 74 40 1000000) := ⟨RM_y hS1 y2, fun w hww => by rw [rI_nk (by decide)]; exact a3 w hww, rI_same _ _ _ _, Nat.le_refl _, fun j _ _ => rfl⟩
  obtain ⟨u, b1, b2, b3⟩ := e35_l (tx := tx) hb hle 4 0 FU _ _ (by omega) (FU_lt (by omega)) i0
  refine ⟨u, ?_, Ky_tr y1 (Ky_tr y2 b2), ?_⟩
  · unfold f_X11_explains
    rw [a1, bd_ok, hS1.1 (74, 32, 4) (by decide)]
    by_cases z : D.1 4 = 0
    · rw [if_pos (show nI (D.1 4) = 0 by rw [z]; rfl)]
      rw [show La D (D.2 14) (D.1 4) = 0 by unfold La; rw [if_pos z]] at b1
      exact b1
    · have hp : nI (D.1 4) - 1 = nI (D.1 4 - 1) := pk_sub (a := D.1 4) (b := 1) (by omega)
      rw [if_neg (nI_ne0 (n := D.1 4) (by omega) (by omega))]
      show gi (nI (D.1 4) - 1) 60 (l_X11_explains_35 FU (rI s1 95 (nI (D.1 4) - 1).toNatClampNeg) 0 (wI s1 74 40 1000000)) = _
      rw [hp, gi_nI (by omega) (by decide), cl_nI (n := D.1 4 - 1) (by omega), gArrM hS1 (c := 95) (a := 14) (n := 4) (by decide) (by omega)]
      rw [show La D (D.2 14) (D.1 4) = D.2 14 (D.1 4 - 1) by unfold La; rw [if_neg z]] at b1
      exact b1
  · rw [← xp_any hb (ra := D.2 14) (fun j => rI (wI s1 74 40 1000000) 74 (40 + j)), ← MS_MA]
    exact b3.2.2
theorem eight (x : Int32) : (x < 0 ∨ 7 < x) ∨ ∃ v : Nat, v ≤ 7 ∧ x = nI v := by
  rcases three x (n := 8) (by omega) with hx | ⟨v, hv, rfl⟩
  · left
    exact hx.imp id (fun q => by rw [fa_le] at q; rw [fa_lt]; have e1 : (nI 8).toInt = 8 := (by decide); have e2 : (7 : Int32).toInt = 7 := (by decide); omega)
  · exact Or.inr ⟨v, by omega, rfl⟩
theorem call_explain {D : Dt} {tx : Nat → Int32} {s : St} (h : Rel D tx s) (x : Int32) : Ok (f_X10_explain x) (f_X11_explain x) s := by
  obtain ⟨hB, hR, hS⟩ := id h
  have hb : Bw D := Bd_w hB
  have hP := hb.1.1
  have hw : ∀ i, i < D.1 4 → D.2 13 i < D.1 2 := fun i hi => (hB.2.2.2.2.2 i hi).1
  have hle : ∀ i, i < D.1 4 → D.2 14 i ≤ 999 := fun i hi => (hB.2.2.2.2.2 i hi).2.1
  by_cases z : D.1 0 = 0
  · refine rel0 h (r := -1) ?_ ?_
    · unfold f_X10_explain
      by_cases n0 : x < 0
      · rw [if_pos n0]
      · rw [if_neg n0]
        by_cases n2 : 7 < x
        · rw [if_pos n2]
        · rw [if_neg n2, cPlant hR hb, bd_ok, if_pos z, if_pos rfl]
    · unfold f_X11_explain
      rw [hS.1 (74, 18, 0) (by decide), if_pos (show nI (D.1 0) = 0 by rw [z]; rfl)]
  · have hz18 : ∀ t : St, RM D tx t → ¬ rI t 74 18 = 0 := fun t ht => by
      rw [ht.1 (74, 18, 0) (by decide)]
      exact nI_ne0 (n := D.1 0) (by omega) (by omega)
    rcases eight x with hx | ⟨v, hv, rfl⟩
    · refine rel0 h (r := -1) ?_ ?_
      · unfold f_X10_explain
        by_cases n0 : x < 0
        · rw [if_pos n0]
        · rw [if_neg n0, if_pos (hx.resolve_left n0)]
      · unfold f_X11_explain
        rw [if_neg (hz18 s hS), inM0 hx, bd_ok, if_pos rfl]
    · have hlo : ¬ nI v < 0 := nI_pos (by omega)
      have hhi : ¬ (7 : Int32) < nI v := nI_nlt (a := 7) (b := v) hv (by omega)
      obtain ⟨u, a1, a2, a3⟩ := search_c (x1 := -1) (x2 := 0) hR hb hw (ra := D.2 14) (fun i hi => by rw [if_neg (ne_m1 (by have := hb.1.2.2.2.2.1; omega))]) hle
      have hSu : RM D tx u := RM_kpC hS a2.1 (by decide)
      have hRu := RC_x hR a2
      obtain ⟨t, b1, b2, b3⟩ := explains_m hSu hb hw hle
      refine ⟨if v = 0 then nI (xp D (D.2 14)).1 else (xp D (D.2 14)).2 v, u, t, D, tx, ?_, ?_, hB, RC_kpM hRu b2.1 (by decide), RM_y hSu b2⟩
      · unfold f_X10_explain
        rw [if_neg hlo, if_neg hhi, cPlant hR hb, bd_ok, if_neg z, if_neg (by decide), a1, bd_ok]
        rcases (show v = 0 ∨ v = 1 ∨ v = 2 ∨ v = 3 ∨ v = 4 ∨ v = 5 ∨ v = 6 ∨ v = 7 by omega) with rfl | rfl | rfl | rfl | rfl | rfl | rfl | rfl
        · rw [if_pos (by decide), show rI u 38 10 = _ from a3.1, if_pos rfl]
        · rw [if_neg (by decide), if_pos (by decide), show rI u 38 11 = _ from a3.2.2 1 (by omega) (by omega), if_neg (by decide)]
        · rw [if_neg (by decide), if_neg (by decide), if_pos (by decide), show rI u 38 12 = _ from a3.2.2 2 (by omega) (by omega), if_neg (by decide)]
        · rw [if_neg (by decide), if_neg (by decide), if_neg (by decide), if_pos (by decide), show rI u 38 13 = _ from a3.2.2 3 (by omega) (by omega), if_neg (by decide)]
        · rw [if_neg (by decide), if_neg (by decide), if_neg (by decide), if_neg (by decide), if_pos (by decide), show rI u 38 14 = _ from a3.2.2 4 (by omega) (by omega), if_neg (by decide)]
        · rw [if_neg (by decide), if_neg (by decide), if_neg (by decide), if_neg (by decide), if_neg (by decide), if_pos (by decide), show rI u 38 15 = _ from a3.2.2 5 (by omega) (by omega), if_neg (by decide)]
        · rw [if_neg (by decide), if_neg (by decide), if_neg (by decide), if_neg (by decide), if_neg (by decide), if_neg (by decide), if_pos (by decide), show rI u 38 16 = _ from a3.2.2 6 (by omega) (by omega), if_neg (by decide)]
        · rw [if_neg (by decide), if_neg (by decide), if_neg (by decide), if_neg (by decide), if_neg (by decide), if_neg (by decide), if_neg (by decide), show rI u 38 17 = _ from a3.2.2 7 (by omega) (by omega), if_neg (by decide)]
      · unfold f_X11_explain
        rw [if_neg (hz18 u hSu), inM1 hlo hhi, bd_ok, if_neg (by decide), b1, bd_ok]
        rcases (show v = 0 ∨ v = 1 ∨ v = 2 ∨ v = 3 ∨ v = 4 ∨ v = 5 ∨ v = 6 ∨ v = 7 by omega) with rfl | rfl | rfl | rfl | rfl | rfl | rfl | rfl
        · rw [if_pos (by decide), show rI t 74 40 = _ from b3.1, if_pos rfl]
        · rw [if_neg (by decide), if_pos (by decide), show rI t 74 41 = _ from b3.2.2 1 (by omega) (by omega), if_neg (by decide)]
        · rw [if_neg (by decide), if_neg (by decide), if_pos (by decide), show rI t 74 42 = _ from b3.2.2 2 (by omega) (by omega), if_neg (by decide)]
        · rw [if_neg (by decide), if_neg (by decide), if_neg (by decide), if_pos (by decide), show rI t 74 43 = _ from b3.2.2 3 (by omega) (by omega), if_neg (by decide)]
        · rw [if_neg (by decide), if_neg (by decide), if_neg (by decide), if_neg (by decide), if_pos (by decide), show rI t 74 44 = _ from b3.2.2 4 (by omega) (by omega), if_neg (by decide)]
        · rw [if_neg (by decide), if_neg (by decide), if_neg (by decide), if_neg (by decide), if_neg (by decide), if_pos (by decide), show rI t 74 45 = _ from b3.2.2 5 (by omega) (by omega), if_neg (by decide)]
        · rw [if_neg (by decide), if_neg (by decide), if_neg (by decide), if_neg (by decide), if_neg (by decide), if_neg (by decide), if_pos (by decide), show rI t 74 46 = _ from b3.2.2 6 (by omega) (by omega), if_neg (by decide)]
        · rw [if_neg (by decide), if_neg (by decide), if_neg (by decide), if_neg (by decide), if_neg (by decide), if_neg (by decide), if_neg (by decide), show rI t 74 47 = _ from b3.2.2 7 (by omega) (by omega), if_neg (by decide)]
