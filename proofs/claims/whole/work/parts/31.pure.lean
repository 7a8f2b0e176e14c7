/-! ===== horns ===== -/
/-- how many begin from second b on, at most k -/
def hc (D : Dt) (h : Int32) (g : Nat) : Nat → Nat → Nat
  | 0, _ => 0
  | k + 1, b => if (ff D h b (D.1 2)).2 = 0 then 0 else hc D h g k ((ff D h b (D.1 2)).1 + g) + 1
/-- how many can come out from second b on -/
def hm (D : Dt) (h : Int32) (b : Nat) : Nat := fb_ct (fun w => decide (D.2 9 w = 0 ∧ b ≤ lw D h w ∧ lw D h w < 1000000)) (D.1 2)
theorem hm_step {D : Dt} {h : Int32} {g b : Nat} (hg : 1 ≤ g) (z : (ff D h b (D.1 2)).2 ≠ 0) : hm D h ((ff D h b (D.1 2)).1 + g) + 1 ≤ hm D h b := by
  obtain ⟨q1, q2, q3, q4, q5⟩ := (ff_in (D := D) (h := h) (b := b) (D.1 2)).2.1 z
  generalize (ff D h b (D.1 2)).1 = v at *
  generalize hw : (ff D h b (D.1 2)).2 - 1 = w at *
  unfold hm
  have hwW : w < D.1 2 := by omega
  have hup := fb_ct_upd (fun w => decide (D.2 9 w = 0 ∧ b ≤ lw D h w ∧ lw D h w < 1000000)) false hwW
  have h1 : decide (D.2 9 w = 0 ∧ b ≤ lw D h w ∧ lw D h w < 1000000) = true := by simp [q2]; omega
  simp only [h1] at hup
  have hsub : fb_ct (fun w => decide (D.2 9 w = 0 ∧ v + g ≤ lw D h w ∧ lw D h w < 1000000)) (D.1 2) ≤ fb_ct (fun k => if k = w then false else decide (D.2 9 k = 0 ∧ b ≤ lw D h k ∧ lw D h k < 1000000)) (D.1 2) := fb_ct_sub (fun k _ hk => by
    simp only [decide_eq_true_eq] at hk
    by_cases e : k = w
    · subst e; omega
    · simp only [if_neg e, decide_eq_true_eq]
      exact ⟨hk.1, by omega, hk.2.2⟩)
  simp only [↓reduceIte, Bool.false_eq_true, Nat.add_zero] at hup
  omega
theorem hm_none {D : Dt} {h : Int32} {b : Nat} (hh : hm D h b = 0) : (ff D h b (D.1 2)).2 = 0 := by
  by_cases z : (ff D h b (D.1 2)).2 = 0
  · exact z
  · have := hm_step (g := 1) (by omega) z
    omega
theorem hc_le (D : Dt) (h : Int32) (g : Nat) : ∀ k b, hc D h g k b ≤ k
  | 0, _ => Nat.le_refl _
  | k + 1, b => by
    have := hc_le D h g k ((ff D h b (D.1 2)).1 + g)
    unfold hc
    split <;> omega
theorem horns_cl {D : Dt} {tx : Nat → Int32} {s : St} (hR : RC D tx s) (hb : Bw D) {h : Int32} (h34 : ∀ w, w < D.1 2 → rI s 34 w = nI (lw D h w)) {g : Nat} (hg : g ≤ 60) : ∀ (k i n c b : Nat), i + k = D.1 2 → k < n → l_X2_hornsBegun_11 n (nI g) (nI c) (nI (ff D h b (D.1 2)).1) (nI i) s = some (nI (c + hc D h g k b), s) := by
  have hW := hb.1.2.2.1
  intro k
  induction k with
  | zero =>
    intro i n c b hi hn
    obtain ⟨n, rfl⟩ : ∃ m, n = m + 1 := ⟨n - 1, by omega⟩
    show b_X2_hornsBegun_11 (l_X2_hornsBegun_11 n) _ _ _ (nI i) s = _
    unfold b_X2_hornsBegun_11
    rw [hR.1 (8, 2, 2) (by decide), if_pos (nI_le (a := D.1 2) (b := i) (by omega) (by omega))]
    rfl
  | succ k ih =>
    intro i n c b hi hn
    obtain ⟨n, rfl⟩ : ∃ m, n = m + 1 := ⟨n - 1, by omega⟩
    obtain ⟨i1, i2, i3⟩ := ff_in (D := D) (h := h) (b := b) (D.1 2)
    show b_X2_hornsBegun_11 (l_X2_hornsBegun_11 n) _ _ _ (nI i) s = _
    unfold b_X2_hornsBegun_11
    rw [hR.1 (8, 2, 2) (by decide), if_neg (nI_ge (a := i) (b := D.1 2) (by omega) (by omega))]
    by_cases z : (ff D h b (D.1 2)).2 = 0
    · have e : hc D h g (k + 1) b = 0 := if_pos z
      rw [if_pos (by rw [i1 z]; decide), e]
      rfl
    · have i2z := i2 z
      have e : hc D h g (k + 1) b = hc D h g k ((ff D h b (D.1 2)).1 + g) + 1 := if_neg z
      rw [if_neg (show ¬ (1000000 : Int32) ≤ nI (ff D h b (D.1 2)).1 from nI_ge (a := (ff D h b (D.1 2)).1) (b := 1000000) i2z.2.2.2.1 (by omega)), nI_add, nextSound_c hR hb h34 (by omega), bd_ok, nI_1, nI_1, e, ih (i + 1) n (c + 1) _ (by omega) (by omega)]
      rw [show c + 1 + hc D h g k ((ff D h b (D.1 2)).1 + g) = c + (hc D h g k ((ff D h b (D.1 2)).1 + g) + 1) by omega]
theorem horns_ml {D : Dt} {tx : Nat → Int32} {s : St} (hR : RM D tx s) (hb : Bw D) {h : Int32} (h97 : ∀ p, p < D.1 0 → rI s 97 p = nI (fl D h p)) {g : Nat} (hg : g ≤ 60) (hg1 : 1 ≤ g) : ∀ (k n c b : Nat), hm D h b ≤ k → k < n → l_X11_horns_38 n (nI g) (nI c) (nI (ff D h b (D.1 2)).2 - 1) s = some (nI (c + hc D h g k b), s) := by
  have hW := hb.1.2.2.1
  intro k
  induction k with
  | zero =>
    intro n c b hk hn
    obtain ⟨n, rfl⟩ : ∃ m, n = m + 1 := ⟨n - 1, by omega⟩
    show b_X11_horns_38 (l_X11_horns_38 n) _ _ _ s = _
    unfold b_X11_horns_38
    rw [hm_none (by omega), nI_m1, if_pos rfl]
    rfl
  | succ k ih =>
    intro n c b hk hn
    obtain ⟨n, rfl⟩ : ∃ m, n = m + 1 := ⟨n - 1, by omega⟩
    obtain ⟨i1, i2, i3⟩ := ff_in (D := D) (h := h) (b := b) (D.1 2)
    show b_X11_horns_38 (l_X11_horns_38 n) _ _ _ s = _
    unfold b_X11_horns_38
    by_cases z : (ff D h b (D.1 2)).2 = 0
    · have e : hc D h g (k + 1) b = 0 := if_pos z
      rw [z, nI_m1, if_pos rfl, e]
      rfl
    · have i2z := i2 z
      have hst := hm_step (g := g) hg1 z
      have e : hc D h g (k + 1) b = hc D h g k ((ff D h b (D.1 2)).1 + g) + 1 := if_neg z
      have hp : nI (ff D h b (D.1 2)).2 - 1 = nI ((ff D h b (D.1 2)).2 - 1) := pk_sub (a := (ff D h b (D.1 2)).2) (b := 1) (by omega)
      rw [hp, if_neg (ne_m1 (by omega)), litAt1_m hR hb h97 (by omega), bd_ok, ← i2z.2.2.2.2, nI_add]
      show bd (f_X11_firstFrom (nI ((ff D h b (D.1 2)).1 + g)) s) (fun r t => l_X11_horns_38 n (nI g) (nI c + 1) r t) = _
      rw [firstFrom_m hR hb h97 (by omega), bd_ok, nI_1, e, ih n (c + 1) _ (by omega) (by omega)]
      rw [show c + 1 + hc D h g k ((ff D h b (D.1 2)).1 + g) = c + (hc D h g k ((ff D h b (D.1 2)).1 + g) + 1) by omega]
theorem sixty (x : Int32) : (x < 1 ∨ 60 < x) ∨ ∃ v : Nat, 1 ≤ v ∧ v ≤ 60 ∧ x = nI v := by
  have e1 : (1 : Int32).toInt = 1 := by decide
  have e60 : (60 : Int32).toInt = 60 := by decide
  rcases three x (n := 61) (by omega) with hx | ⟨v, hv, rfl⟩
  · left
    refine hx.imp (fun q => ?_) (fun q => ?_)
    · rw [fa_lt] at q ⊢
      have e0 : (0 : Int32).toInt = 0 := by decide
      omega
    · rw [fa_le] at q; rw [fa_lt]
      have e2 : (nI 61).toInt = 61 := by decide
      omega
  · by_cases h : v = 0
    · subst h; left; left; decide
    · exact Or.inr ⟨v, by omega, by omega, rfl⟩
theorem call_horns {D : Dt} {tx : Nat → Int32} {s : St} (h : Rel D tx s) (x1 x2 : Int32) : Ok (f_X10_horns x1 x2) (f_X11_horns x1 x2) s := by
  obtain ⟨hB, hR, hS⟩ := id h
  have hb : Bw D := Bd_w hB
  have hW := hb.1.2.2.1
  rcases heap3 D hb x1 with hx | ⟨h0, g, hg, rfl⟩
  · refine rel0 h (r := -1) ?_ ?_
    · unfold f_X10_horns; rw [cHeap0 hR hb hx, bd_ok, if_pos rfl]
    · unfold f_X11_horns; rw [mHeap0 hS hb hx, bd_ok, if_pos rfl]
  · rcases sixty x2 with hx | ⟨v, hv1, hv2, rfl⟩
    · refine rel0 h (r := -1) ?_ ?_
      · unfold f_X10_horns
        rw [cHeap1 hR hb h0 hg, bd_ok, if_neg (by decide)]
        by_cases n0 : x2 < 1
        · rw [if_pos n0]
        · rw [if_neg n0, if_neg (fa_of_lt (hx.resolve_left n0)).2.1]
      · unfold f_X11_horns
        rw [mHeap1 hS hb h0 hg, bd_ok, if_neg (by decide), inM0 hx, bd_ok, if_pos rfl]
    · obtain ⟨u, a1, hu, a3, t, b1, ht, b3⟩ := both h (nI g)
      refine ⟨nI (0 + hc D (nI g) v (D.1 2) 0), u, t, D, tx, ?_, ?_, ht⟩
      · unfold f_X10_horns f_X2_hornsBegun
        rw [cHeap1 hR hb h0 hg, bd_ok, if_neg (by decide), if_neg (show ¬ nI v < (1 : Int32) from nI_nlt (a := v) (b := 1) hv1 (by omega)), if_pos (show nI v ≤ (60 : Int32) from nI_le (a := v) (b := 60) hv2 (by omega)), a1, bd_ok, show f_X2_nextSound 0 u = _ from nextSound_c hu.2.1 hb a3 (b := 0) (by omega), bd_ok, show l_X2_hornsBegun_11 FU (nI v) 0 _ 0 u = _ from horns_cl hu.2.1 hb a3 hv2 (D.1 2) 0 FU 0 0 (by omega) (FU_lt (by omega)), bd_ok]
      · unfold f_X11_horns
        rw [mHeap1 hu.2.2 hb h0 hg, bd_ok, if_neg (by decide), inM1 (show ¬ nI v < (1 : Int32) from nI_nlt (a := v) (b := 1) hv1 (by omega)) (show ¬ (60 : Int32) < nI v from nI_nlt (a := 60) (b := v) hv2 (by omega)), bd_ok, if_neg (by decide), b1, bd_ok, show f_X11_firstFrom 0 t = _ from firstFrom_m ht.2.2 hb b3 (b := 0) (by omega), bd_ok]
        exact horns_ml ht.2.2 hb b3 hv2 hv1 (D.1 2) FU 0 0 (fb_ct_le _ _) (FU_lt (by omega))
/-! ===== the board ===== -/
def lb (D : Dt) (h : Int32) (v : Nat) : Int32 := bitsI (fun w => decide (lw D h w ≤ v)) (D.1 2)
theorem or_0 (x : Int32) : x ||| 0 = x := by
  apply b_ext
  intro i _
  rw [b_or, b_0]
  simp
theorem litAt_l {D : Dt} {tx : Nat → Int32} {s : St} (hR : RC D tx s) (hb : Bw D) {h : Int32} (h34 : ∀ w, w < D.1 2 → rI s 34 w = nI (lw D h w)) {v : Nat} (hv : v ≤ 999) : ∀ (d i n : Nat), i + d = D.1 2 → d < n → l_X2_litAt_4 n (nI v) (bitsI (fun w => decide (lw D h w ≤ v)) i) (nI i) s = some (lb D h v, s) := by
  have hW := hb.1.2.2.1
  intro d
  induction d with
  | zero =>
    intro i n hi hn
    obtain ⟨n, rfl⟩ : ∃ m, n = m + 1 := ⟨n - 1, by omega⟩
    have e : i = D.1 2 := by omega
    subst e
    show b_X2_litAt_4 (l_X2_litAt_4 n) _ _ (nI (D.1 2)) s = _
    unfold b_X2_litAt_4
    rw [hR.1 (8, 2, 2) (by decide), if_pos (nI_le (Nat.le_refl (D.1 2)) (by omega))]
    rfl
  | succ d ih =>
    intro i n hi hn
    obtain ⟨n, rfl⟩ : ∃ m, n = m + 1 := ⟨n - 1, by omega⟩
    have hlt : i < D.1 2 := by omega
    have hnext := ih (i + 1) n (by omega) (by omega)
    have hl := lw_le hb h hlt
    show b_X2_litAt_4 (l_X2_litAt_4 n) _ _ (nI i) s = _
    unfold b_X2_litAt_4
    rw [hR.1 (8, 2, 2) (by decide), if_neg (nI_ge (a := i) (b := D.1 2) hlt (by omega)), gi_nI (lt_n hlt hW) (by decide), cl_nI (n := i) (by omega), h34 i hlt]
    by_cases c : lw D h i ≤ v
    · rw [if_neg (nI_nlt c (by omega)), nI_1, ← hnext]
      have e : bitsI (fun w => decide (lw D h w ≤ v)) (i + 1) = bitsI (fun w => decide (lw D h w ≤ v)) i ||| ((1 : Int32) <<< (nI i &&& 31)) := if_pos (by simp [c])
      rw [e]
    · rw [if_pos (nI_lt (by omega) (by omega)), nI_1, ← hnext]
      have e : bitsI (fun w => decide (lw D h w ≤ v)) (i + 1) = bitsI (fun w => decide (lw D h w ≤ v)) i := if_neg (by simp [c])
      rw [e]
theorem litAt_c {D : Dt} {tx : Nat → Int32} {s : St} (hR : RC D tx s) (hb : Bw D) {h : Int32} (h34 : ∀ w, w < D.1 2 → rI s 34 w = nI (lw D h w)) {v : Nat} (hv : v ≤ 999) : f_X2_litAt (nI v) s = some (lb D h v, s) := by
  have hW := hb.1.2.2.1
  exact litAt_l hR hb h34 hv (D.1 2) 0 FU (by omega) (FU_lt (by omega))
theorem litBits_l {D : Dt} {tx : Nat → Int32} {s : St} (hS : RM D tx s) (hb : Bw D) {h : Int32} (h97 : ∀ p, p < D.1 0 → rI s 97 p = nI (fl D h p)) {v : Nat} (hv : v ≤ 999) : ∀ (d i n : Nat), i + d = D.1 2 → d < n → l_X11_litBits_4 n (nI v) (bitsI (fun w => decide (lw D h w ≤ v)) i) (nI i) s = some (lb D h v, s) := by
  have hW := hb.1.2.2.1
  intro d
  induction d with
  | zero =>
    intro i n hi hn
    obtain ⟨n, rfl⟩ : ∃ m, n = m + 1 := ⟨n - 1, by omega⟩
    have e : i = D.1 2 := by omega
    subst e
    show b_X11_litBits_4 (l_X11_litBits_4 n) _ _ (nI (D.1 2)) s = _
    unfold b_X11_litBits_4
    rw [hS.1 (74, 24, 2) (by decide), if_pos (nI_le (Nat.le_refl (D.1 2)) (by omega))]
    rfl
  | succ d ih =>
    intro i n hi hn
    obtain ⟨n, rfl⟩ : ∃ m, n = m + 1 := ⟨n - 1, by omega⟩
    have hlt : i < D.1 2 := by omega
    have hnext := ih (i + 1) n (by omega) (by omega)
    have hl := lw_le hb h hlt
    show b_X11_litBits_4 (l_X11_litBits_4 n) _ _ (nI i) s = _
    unfold b_X11_litBits_4
    rw [hS.1 (74, 24, 2) (by decide), if_neg (nI_ge (a := i) (b := D.1 2) hlt (by omega)), litAt1_m hS hb h97 hlt, bd_ok]
    by_cases c : lw D h i ≤ v
    · rw [if_neg (nI_nlt c (by omega)), nI_1, ← hnext]
      have e : bitsI (fun w => decide (lw D h w ≤ v)) (i + 1) = bitsI (fun w => decide (lw D h w ≤ v)) i ||| ((1 : Int32) <<< (nI i &&& 31)) := if_pos (by simp [c])
      rw [e]
    · rw [if_pos (nI_lt (by omega) (by omega)), or_0, nI_1, ← hnext]
      have e : bitsI (fun w => decide (lw D h w ≤ v)) (i + 1) = bitsI (fun w => decide (lw D h w ≤ v)) i := if_neg (by simp [c])
      rw [e]
theorem litBits_m {D : Dt} {tx : Nat → Int32} {s : St} (hS : RM D tx s) (hb : Bw D) {h : Int32} (h97 : ∀ p, p < D.1 0 → rI s 97 p = nI (fl D h p)) {v : Nat} (hv : v ≤ 999) : f_X11_litBits (nI v) s = some (lb D h v, s) := by
  have hW := hb.1.2.2.1
  exact litBits_l hS hb h97 hv (D.1 2) 0 FU (by omega) (FU_lt (by omega))
/-- rule r speaks at the windows x -/
def ap (D : Dt) (x : Int32) (r : Nat) : Bool := bt x (D.2 7 r) && (decide (D.2 8 r = 0) || !bt x (D.2 8 r - 1))
/-- window i is hidden by the rules below n that do not rest (z) -/
def hid (D : Dt) (x : Int32) (z : Nat → Bool) : Nat → Nat → Bool
  | 0, _ => false
  | n + 1, i => hid D x z n i || (ap D x n && !z n && decide (D.2 6 n = i))
def shI (D : Dt) (x : Int32) (z : Nat → Bool) : Int32 := bitsI (fun i => bt x i && !hid D x z (D.1 3) i) 32
theorem bt_shI (D : Dt) (x : Int32) (z : Nat → Bool) (i : Nat) (hi : i < 32) : bt (shI D x z) i = (bt x i && !hid D x z (D.1 3) i) := by
  unfold shI
  rw [b_bitsI _ (Nat.le_refl 32) i hi]
  simp [hi]
theorem shownOf_l {D : Dt} {tx : Nat → Int32} {s : St} (hR : RC D tx s) (hb : Bw D) (x y : Int32) {z : Nat → Bool} (hz : ∀ r, r < D.1 3 → bt y r = z r) : ∀ (d i n : Nat) (a : Int32), i + d = D.1 3 → d < n → (∀ j, j < 32 → bt a j = hid D x z i j) → l_X2_shownOf_5 n x y a (nI i) s = some (shI D x z, s) := by
  have hRR := hb.1.2.2.2.1
  have hW := hb.1.2.2.1
  intro d
  induction d with
  | zero =>
    intro i n a hi hn ha
    obtain ⟨n, rfl⟩ : ∃ m, n = m + 1 := ⟨n - 1, by omega⟩
    have e : i = D.1 3 := by omega
    subst e
    show b_X2_shownOf_5 (l_X2_shownOf_5 n) _ _ _ (nI (D.1 3)) s = _
    unfold b_X2_shownOf_5
    rw [hR.1 (8, 3, 3) (by decide), if_pos (nI_le (Nat.le_refl (D.1 3)) (by omega))]
    have : x &&& (a ^^^ -1) = shI D x z := by
      apply b_ext
      intro j hj
      rw [b_and, b_xor, b_m1 j hj, ha j hj, bt_shI D x z j hj]
      simp
    rw [this]
  | succ d ih =>
    intro i n a hi hn ha
    obtain ⟨n, rfl⟩ : ∃ m, n = m + 1 := ⟨n - 1, by omega⟩
    have hlt : i < D.1 3 := by omega
    obtain ⟨q1, q2, q3, q4⟩ := hb.2.2.2.2.1 i hlt
    have j70 : ∀ t : Int32, t = (if ap D x i then 1 else 0) → j_X2_shownOf_70 (l_X2_shownOf_5 n) x y a (nI i) t s = some (shI D x z, s) := by
      intro t ht
      unfold j_X2_shownOf_70
      rw [ht]
      by_cases c : ap D x i = true
      · rw [if_pos c, if_neg (by decide), hasBit_c _ (by omega), bd_ok, hz i hlt]
        by_cases c2 : z i = true
        · rw [if_pos c2, if_neg (by decide), nI_1]
          refine ih (i + 1) n a (by omega) (by omega) (fun j hj => ?_)
          rw [ha j hj]
          show _ = (hid D x z i j || (ap D x i && !z i && decide (D.2 6 i = j)))
          simp [c2]
        · rw [if_neg c2, if_pos rfl, gi_nI (lt_n hlt hRR) (by decide), cl_nI (n := i) (by omega), gArr hR (c := 15) (a := 6) (n := 3) (by decide) hlt, nI_1]
          refine ih (i + 1) n _ (by omega) (by omega) (fun j hj => ?_)
          rw [b_or, ha j hj, b_one (by omega) hj]
          show _ = (hid D x z i j || (ap D x i && !z i && decide (D.2 6 i = j)))
          have c3 : z i = false := by simpa using c2
          simp [c, c3, eq_comm]
      · rw [if_neg c, if_pos rfl, nI_1]
        refine ih (i + 1) n a (by omega) (by omega) (fun j hj => ?_)
        rw [ha j hj]
        show _ = (hid D x z i j || (ap D x i && !z i && decide (D.2 6 i = j)))
        have c3 : ap D x i = false := by simpa using c
        simp [c3]
    show b_X2_shownOf_5 (l_X2_shownOf_5 n) _ _ _ (nI i) s = _
    unfold b_X2_shownOf_5
    rw [hR.1 (8, 3, 3) (by decide), if_neg (nI_ge (a := i) (b := D.1 3) hlt (by omega)), gi_nI (lt_n hlt hRR) (by decide), cl_nI (n := i) (by omega), gArr hR (c := 16) (a := 7) (n := 3) (by decide) hlt, hasBit_c _ (by omega), bd_ok]
    by_cases c : bt x (D.2 7 i) = true
    · rw [if_pos c, if_neg (by decide), gi_nI (lt_n hlt hRR) (by decide), hR.2.2.1 i hlt]
      by_cases c8 : D.2 8 i = 0
      · rw [if_pos (by rw [c8]; decide)]
        exact j70 1 (by unfold ap; simp [c, c8])
      · have hp : nI (D.2 8 i) - 1 = nI (D.2 8 i - 1) := pk_sub (a := D.2 8 i) (b := 1) (by omega)
        rw [hp, if_neg (ne_m1 (by omega)), gi_nI (lt_n hlt hRR) (by decide), hasBit_c _ (by omega), bd_ok]
        by_cases c9 : bt x (D.2 8 i - 1) = true
        · rw [if_pos c9, if_neg (by decide)]
          exact j70 0 (by unfold ap; simp [c, c8, c9])
        · rw [if_neg c9, if_pos rfl]
          exact j70 1 (by unfold ap; simp [c, c8, c9])
    · rw [if_neg c, if_pos rfl]
      exact j70 0 (by unfold ap; simp [c])
theorem shownOf_c {D : Dt} {tx : Nat → Int32} {s : St} (hR : RC D tx s) (hb : Bw D) (x y : Int32) {z : Nat → Bool} (hz : ∀ r, r < D.1 3 → bt y r = z r) : f_X2_shownOf x y s = some (shI D x z, s) := by
  have hRR := hb.1.2.2.2.1
  exact shownOf_l hR hb x y hz (D.1 3) 0 FU 0 (by omega) (FU_lt (by omega)) (fun j _ => b_0 j)
theorem shown_l {D : Dt} {tx : Nat → Int32} {s : St} (hS : RM D tx s) (hb : Bw D) (x y : Int32) {z : Nat → Bool} (hz : ∀ r, r < D.1 3 → (decide (D.2 10 r = 1) || bt y r) = z r) : ∀ (d i n : Nat) (a : Int32), i + d = D.1 3 → d < n → (∀ j, j < 32 → bt a j = (bt x j && !hid D x z i j)) → l_X11_shown_5 n x y a (nI i) s = some (shI D x z, s) := by
  have hRR := hb.1.2.2.2.1
  have hW := hb.1.2.2.1
  intro d
  induction d with
  | zero =>
    intro i n a hi hn ha
    obtain ⟨n, rfl⟩ : ∃ m, n = m + 1 := ⟨n - 1, by omega⟩
    have e : i = D.1 3 := by omega
    subst e
    show b_X11_shown_5 (l_X11_shown_5 n) _ _ _ (nI (D.1 3)) s = _
    unfold b_X11_shown_5
    rw [hS.1 (74, 29, 3) (by decide), if_pos (nI_le (Nat.le_refl (D.1 3)) (by omega))]
    have : a = shI D x z := by
      apply b_ext
      intro j hj
      rw [ha j hj, bt_shI D x z j hj]
    rw [this]
  | succ d ih =>
    intro i n a hi hn ha
    obtain ⟨n, rfl⟩ : ∃ m, n = m + 1 := ⟨n - 1, by omega⟩
    have hlt : i < D.1 3 := by omega
    obtain ⟨q1, q2, q3, q4⟩ := hb.2.2.2.2.1 i hlt
    obtain ⟨r1, r2, r3⟩ := hS.2.2.1 i hlt
    have m3 : (3 : Int32) * nI i = nI (3 * i) := pk_mul 3 i
    have m31 : (3 : Int32) * nI i + 1 = nI (3 * i + 1) := by rw [m3, nI_1]
    have m32 : (3 : Int32) * nI i + 2 = nI (3 * i + 2) := by rw [m3]; exact nI_add (3 * i) 2
    have quiet : (ap D x i && !z i) = false → l_X11_shown_5 n x y a (nI i + 1) s = some (shI D x z, s) := fun q => by
      rw [nI_1]
      refine ih (i + 1) n a (by omega) (by omega) (fun j hj => ?_)
      rw [ha j hj]
      show _ = (bt x j && !(hid D x z i j || (ap D x i && !z i && decide (D.2 6 i = j))))
      rw [q]; simp
    have hzi := hz i hlt
    show b_X11_shown_5 (l_X11_shown_5 n) _ _ _ (nI i) s = _
    unfold b_X11_shown_5
    rw [hS.1 (74, 29, 3) (by decide), if_neg (nI_ge (a := i) (b := D.1 3) hlt (by omega)), gi_nI (lt_n hlt hRR) (by decide), cl_nI (n := i) (by omega), gArrM hS (c := 93) (a := 10) (n := 3) (by decide) hlt]
    by_cases c0 : D.2 10 i = 0
    · rw [if_pos (by rw [c0]; rfl)]
      by_cases c1 : bt y i = true
      · rw [if_pos ((b_at1 y (by omega)).mpr c1)]
        exact quiet (by rw [← hzi, c1]; simp)
      · have c1f : bt y i = false := by simpa using c1
        have zf : z i = false := by rw [← hzi, c1f, c0]; decide
        rw [if_neg (fun q => c1 ((b_at1 y (by omega)).mp q)), m31, m32, gi_nI (by omega) (by decide), cl_nI (n := 3 * i + 1) (by omega), r2, cl_nI (n := 3 * i + 2) (by omega), r3]
        have j94 : ∀ t : Int32, t = (if ap D x i then 1 else 0) → j_X11_shown_94 (l_X11_shown_5 n) x y a (nI i) t s = some (shI D x z, s) := by
          intro t ht
          unfold j_X11_shown_94
          rw [ht]
          by_cases c : ap D x i = true
          · rw [if_pos c, if_neg (by decide), m3, gi_nI (by omega) (by decide), cl_nI (n := 3 * i) (by omega), r1, nI_1]
            refine ih (i + 1) n _ (by omega) (by omega) (fun j hj => ?_)
            rw [b_and, b_xor, b_m1 j hj, ha j hj, b_one (by omega) hj]
            show _ = (bt x j && !(hid D x z i j || (ap D x i && !z i && decide (D.2 6 i = j))))
            rw [c, zf]
            by_cases e : j = D.2 6 i
            · simp [e]
            · have e2 : ¬ D.2 6 i = j := fun q => e q.symm
              simp [e, e2]
          · have c3 : ap D x i = false := by simpa using c
            rw [if_neg c, if_pos rfl]
            exact quiet (by rw [c3]; rfl)
        by_cases c : bt x (D.2 7 i) = true
        · rw [if_pos ((b_at1 x (by omega)).mpr c), gi_nI (by omega) (by decide)]
          by_cases c8 : D.2 8 i = 0
          · rw [if_pos (by rw [c8]; decide)]
            exact j94 1 (by unfold ap; simp [c, c8])
          · have hp : nI (D.2 8 i) - 1 = nI (D.2 8 i - 1) := pk_sub (a := D.2 8 i) (b := 1) (by omega)
            rw [hp, if_neg (ne_m1 (by omega)), gi_nI (by omega) (by decide)]
            by_cases c9 : bt x (D.2 8 i - 1) = true
            · rw [if_neg (fun q => by rw [b_at _ (by omega), c9] at q; cases q)]
              exact j94 0 (by unfold ap; simp [c, c8, c9])
            · rw [if_pos ((b_at _ (by omega)).mpr (by simpa using c9))]
              exact j94 1 (by unfold ap; simp [c, c8, c9])
        · rw [if_neg (fun q => c ((b_at1 x (by omega)).mp q))]
          exact j94 0 (by unfold ap; simp [c])
    · rw [if_neg (nI_ne0 (by omega) (by omega))]
      have : D.2 10 i = 1 := by omega
      exact quiet (by rw [← hzi, this]; simp)
theorem shown_m {D : Dt} {tx : Nat → Int32} {s : St} (hS : RM D tx s) (hb : Bw D) (x y : Int32) {z : Nat → Bool} (hz : ∀ r, r < D.1 3 → (decide (D.2 10 r = 1) || bt y r) = z r) : f_X11_shown x y s = some (shI D x z, s) := by
  have hRR := hb.1.2.2.2.1
  exact shown_l hS hb x y hz (D.1 3) 0 FU x (by omega) (FU_lt (by omega)) (fun j _ => by show _ = (bt x j && !false); simp)
/-- the rules that rest -/
def zr (D : Dt) (r : Nat) : Bool := decide (D.2 10 r = 1)
theorem rest_c {D : Dt} {tx : Nat → Int32} {s : St} (hR : RC D tx s) (hb : Bw D) {r : Nat} (hr : r < D.1 3) : bt (rI s 32 4) r = zr D r := by
  have hRR := hb.1.2.2.2.1
  rw [hR.2.2.2.1, b_bitsI _ (by omega) r (by omega)]
  simp [hr, zr]
theorem rest_m {D : Dt} (r : Nat) : (decide (D.2 10 r = 1) || bt 0 r) = zr D r := by rw [b_0]; simp [zr]
theorem call_board {D : Dt} {tx : Nat → Int32} {s : St} (h : Rel D tx s) (x1 x2 x3 : Int32) : Ok (f_X10_board x1 x2 x3) (f_X11_board x1 x2 x3) s := by
  obtain ⟨hB, hR, hS⟩ := id h
  have hb : Bw D := Bd_w hB
  rcases heap3 D hb x1 with hx | ⟨h0, g, hg, rfl⟩
  · refine rel0 h (r := -1) ?_ ?_
    · unfold f_X10_board; rw [cHeap0 hR hb hx, bd_ok, if_pos rfl]
    · unfold f_X11_board; rw [mHeap0 hS hb hx, bd_ok, if_pos rfl]
  · rcases sec3 x2 with hx | ⟨v, hv, rfl⟩
    · refine rel0 h (r := -1) ?_ ?_
      · unfold f_X10_board; rw [cHeap1 hR hb h0 hg, bd_ok, if_neg (by decide), isSec0 hx, bd_ok, if_pos rfl]
      · unfold f_X11_board; rw [mHeap1 hS hb h0 hg, bd_ok, if_neg (by decide), inM0 hx, bd_ok, if_pos rfl]
    · have hin : ∀ t : St, f_X11_in (nI v) 0 999 t = some (1, t) := fun t => inM1 (nI_pos (by omega)) (show ¬ (999 : Int32) < nI v from nI_nlt (a := 999) (b := v) hv (by omega))
      rcases two x3 with hx | hx
      · refine rel0 h (r := -1) ?_ ?_
        · unfold f_X10_board
          rw [cHeap1 hR hb h0 hg, bd_ok, if_neg (by decide), isSec1 hv, bd_ok, if_neg (by decide)]
          by_cases n0 : x3 < 0
          · rw [if_pos n0]
          · rw [if_neg n0, if_neg (fa_of_lt (hx.resolve_left n0)).2.1]
        · unfold f_X11_board
          rw [mHeap1 hS hb h0 hg, bd_ok, if_neg (by decide), hin, bd_ok, if_neg (by decide), inM0 hx, bd_ok, if_pos rfl]
      · obtain ⟨u, a1, hu, a3, t, b1, ht, b3⟩ := both h (nI g)
        have hlo : ¬ x3 < 0 := by rcases hx with e | e <;> rw [e] <;> decide
        have hhi : x3 ≤ 1 := by rcases hx with e | e <;> rw [e] <;> decide
        have hhi2 : ¬ (1 : Int32) < x3 := by rcases hx with e | e <;> rw [e] <;> decide
        refine ⟨if x3 = 0 then lb D (nI g) v else shI D (lb D (nI g) v) (zr D), u, t, D, tx, ?_, ?_, ht⟩
        · unfold f_X10_board
          rw [cHeap1 hR hb h0 hg, bd_ok, if_neg (by decide), isSec1 hv, bd_ok, if_neg (by decide), if_neg hlo, if_pos hhi, a1, bd_ok, litAt_c hu.2.1 hb a3 hv, bd_ok]
          by_cases e : x3 = 0
          · rw [if_pos e, if_pos e]
          · rw [if_neg e, if_neg e, shownOf_c hu.2.1 hb _ _ (fun r hr => rest_c hu.2.1 hb hr), bd_ok]
        · unfold f_X11_board
          rw [mHeap1 hu.2.2 hb h0 hg, bd_ok, if_neg (by decide), hin, bd_ok, if_neg (by decide), inM1 hlo hhi2, bd_ok, if_neg (by decide), b1, bd_ok, litBits_m ht.2.2 hb b3 hv, bd_ok]
          by_cases e : x3 = 0
          · rw [if_pos e, if_pos e]
          · rw [if_neg e, if_neg e, shown_m ht.2.2 hb _ _ (fun r _ => rest_m r), bd_ok]
