/-! ===== harm: the calls ===== -/
theorem on_tab : (List.range 256).all (fun c => decide (onN c ≤ 8)) = true := by decide +kernel
theorem on_le {c : Nat} (h : c < 256) : onN c ≤ 8 := by
  have := List.all_eq_true.mp on_tab c (List.mem_range.mpr h)
  simpa using this
theorem lost_le (D : Dt) (z : Nat → Bool) (n : Nat) : lostN D z n ≤ n := fb_ct_le _ _
theorem al_le {D : Dt} {z : Nat → Bool} {n : Nat} (hn : n ≤ 12) : alN D z n ≤ 144 := by
  have h := fb_sm_bound (f := fun i => fb_ct (alB D z i) i) (c := 12) (n := n) (fun k hk => Nat.le_trans (fb_ct_le _ _) (by omega))
  unfold alN
  omega
theorem pw8 {n : Nat} (h : n ≤ 8) : 2 ^ n ≤ 256 := (Nat.pow_le_pow_right (by omega) h : 2 ^ n ≤ 2 ^ 8)
theorem isClear_c {D : Dt} {tx : Nat → Int32} {s : St} (hR : RC D tx s) (hb : Bw D) (h43 : ∀ p, p < D.1 0 → rI s 43 p = wh D p) (c : Nat) : ∃ u, f_X6_isClear (nI c) s = some (if clr D c then 1 else 0, u) ∧ Kp [44] s u := by
  have hP := hb.1.1
  obtain ⟨u, a1, a2, a3⟩ := show_c hR hb (rI s 32 4 ||| nI c) (z := zc D c) (fun r hr => by rw [b_or, rest_c hR hb hr]; rfl) h43
  have hR1 : RC D tx u := hR.kp a2 (by decide)
  have h43u : ∀ p, p < D.1 0 → rI u 43 p = wh D p := fun p hp => by rw [Kp_rI a2 (by decide)]; exact h43 p hp
  have hl := lost_le D (zc D c) (D.1 0)
  have ha := al_le (D := D) (z := zc D c) hP
  refine ⟨u, ?_, a2⟩
  unfold f_X6_isClear clr
  rw [a1, bd_ok, countLost_c hR1 hb h43u a3, bd_ok]
  by_cases c1 : lostN D (zc D c) (D.1 0) = 0
  · rw [c1, if_pos (by decide), countAlike_c hR1 hb h43u a3, bd_ok]
    by_cases c2 : alN D (zc D c) (D.1 0) = 0
    · rw [c2, if_pos (by decide), if_pos (by simp)]
    · rw [if_neg (nI_ne0 (by omega) (by omega)), if_neg (by simp [c2])]
  · rw [if_neg (nI_ne0 (by omega) (by omega)), if_neg (by simp [c1])]
theorem toRest_l {D : Dt} {tx : Nat → Int32} (hb : Bw D) : ∀ (d c n : Nat) (s : St), c + d = 2 ^ D.1 3 → d < n → RC D tx s → (∀ p, p < D.1 0 → rI s 43 p = wh D p) → ∃ u, l_X6_rulesToRest_7 n (nI (bs D c - 1)) (nI (if bs D c = 0 then 9 else onN (bs D c - 1))) (nI c) s = some (nI (bs D (2 ^ D.1 3) - 1), u) ∧ Kp [44] s u := by
  have hRR := hb.1.2.2.2.1
  have h256 := pw8 hRR
  intro d
  induction d with
  | zero =>
    intro c n s hc hn hR h43
    obtain ⟨n, rfl⟩ : ∃ m, n = m + 1 := ⟨n - 1, by omega⟩
    have e : c = 2 ^ D.1 3 := by omega
    subst e
    refine ⟨s, ?_, Kp.rf⟩
    show b_X6_rulesToRest_7 (l_X6_rulesToRest_7 n) _ _ (nI (2 ^ D.1 3)) s = _
    unfold b_X6_rulesToRest_7
    rw [hR.1 (8, 3, 3) (by decide), shl_P (D.1 3) (by omega), if_pos (nI_le (Nat.le_refl _) (by omega))]
  | succ d ih =>
    intro c n s hc hn hR h43
    obtain ⟨n, rfl⟩ : ∃ m, n = m + 1 := ⟨n - 1, by omega⟩
    have hlt : c < 2 ^ D.1 3 := by omega
    have hon := on_le (c := c) (by omega)
    have hbl := bs_le D c
    have honb := on_le (c := bs D c - 1) (by omega)
    have hrs : rI s 32 4 = rsB D := hR.2.2.2.1
    have hsu : bs D (c + 1) = if nI c &&& rsB D = 0 ∧ (bs D c = 0 ∨ onN c < onN (bs D c - 1)) ∧ clr D c = true then c + 1 else bs D c := rfl
    have hbody : b_X6_rulesToRest_7 (l_X6_rulesToRest_7 n) (nI (bs D c - 1)) (nI (if bs D c = 0 then 9 else onN (bs D c - 1))) (nI c) s = if nI c &&& rsB D = 0 then (if nI (if bs D c = 0 then 9 else onN (bs D c - 1)) ≤ nI (onN c) then l_X6_rulesToRest_7 n (nI (bs D c - 1)) (nI (if bs D c = 0 then 9 else onN (bs D c - 1))) (nI (c + 1)) s else bd (f_X6_isClear (nI c) s) fun r t => if r = 0 then l_X6_rulesToRest_7 n (nI (bs D c - 1)) (nI (if bs D c = 0 then 9 else onN (bs D c - 1))) (nI (c + 1)) t else l_X6_rulesToRest_7 n (nI c) (nI (onN c)) (nI (c + 1)) t) else l_X6_rulesToRest_7 n (nI (bs D c - 1)) (nI (if bs D c = 0 then 9 else onN (bs D c - 1))) (nI (c + 1)) s := by
      unfold b_X6_rulesToRest_7
      rw [hR.1 (8, 3, 3) (by decide), shl_P (D.1 3) (by omega), if_neg (nI_ge hlt (by omega)), hrs, nI_1]
      have hbc : ∀ t, f_J6_bitCount_0f7a4 (nI c) t = some (nI (onN c), t) := fun t => by rw [bc_f, bc_nI (n := c) (by omega)]; rfl
      simp only [hbc, bd_ok]
    have stay : ∀ t, RC D tx t → (∀ p, p < D.1 0 → rI t 43 p = wh D p) → bs D (c + 1) = bs D c → ∃ u, l_X6_rulesToRest_7 n (nI (bs D c - 1)) (nI (if bs D c = 0 then 9 else onN (bs D c - 1))) (nI (c + 1)) t = some (nI (bs D (2 ^ D.1 3) - 1), u) ∧ Kp [44] t u := fun t h1 h2 e => by
      have := ih (c + 1) n t (by omega) (by omega) h1 h2
      rw [e] at this
      exact this
    by_cases c1 : nI c &&& rsB D = 0
    · by_cases c2 : bs D c = 0 ∨ onN c < onN (bs D c - 1)
      · obtain ⟨u, a1, a2⟩ := isClear_c hR hb h43 c
        have hR1 : RC D tx u := hR.kp a2 (by decide)
        have h43u : ∀ p, p < D.1 0 → rI u 43 p = wh D p := fun p hp => by rw [Kp_rI a2 (by decide)]; exact h43 p hp
        have hcmp : ¬ nI (if bs D c = 0 then 9 else onN (bs D c - 1)) ≤ nI (onN c) := nI_ge (by split <;> omega) (by split <;> omega)
        by_cases c3 : clr D c = true
        · have e : bs D (c + 1) = c + 1 := by rw [hsu, if_pos ⟨c1, c2, c3⟩]
          obtain ⟨w, b1, b2⟩ := ih (c + 1) n u (by omega) (by omega) hR1 h43u
          rw [e, if_neg (Nat.succ_ne_zero c), show c + 1 - 1 = c by omega] at b1
          refine ⟨w, ?_, a2.tr b2⟩
          show b_X6_rulesToRest_7 (l_X6_rulesToRest_7 n) _ _ (nI c) s = _
          rw [hbody, if_pos c1, if_neg hcmp, a1, bd_ok, if_pos c3, if_neg (by decide)]
          exact b1
        · have e : bs D (c + 1) = bs D c := by rw [hsu, if_neg (fun q => c3 q.2.2)]
          obtain ⟨w, b1, b2⟩ := stay u hR1 h43u e
          refine ⟨w, ?_, a2.tr b2⟩
          show b_X6_rulesToRest_7 (l_X6_rulesToRest_7 n) _ _ (nI c) s = _
          rw [hbody, if_pos c1, if_neg hcmp, a1, bd_ok, if_neg c3, if_pos rfl]
          exact b1
      · have e : bs D (c + 1) = bs D c := by rw [hsu, if_neg (fun q => c2 q.2.1)]
        obtain ⟨w, b1, b2⟩ := stay s hR h43 e
        refine ⟨w, ?_, b2⟩
        show b_X6_rulesToRest_7 (l_X6_rulesToRest_7 n) _ _ (nI c) s = _
        rw [hbody, if_pos c1, if_pos]
        · exact b1
        · rw [if_neg (fun q => c2 (Or.inl q))]
          exact nI_le (by omega) (by omega)
    · have e : bs D (c + 1) = bs D c := by rw [hsu, if_neg (fun q => c1 q.1)]
      obtain ⟨w, b1, b2⟩ := stay s hR h43 e
      refine ⟨w, ?_, b2⟩
      show b_X6_rulesToRest_7 (l_X6_rulesToRest_7 n) _ _ (nI c) s = _
      rw [hbody, if_neg c1]
      exact b1
theorem harm87_l {D : Dt} {tx : Nat → Int32} {s : St} (hS : RM D tx s) (hb : Bw D) (h99 : ∀ p, p < D.1 0 → rI s 99 p = wh D p) : ∀ (d c n : Nat), c + d = 2 ^ D.1 3 → d < n → l_X11_harm_87 n (rsB D) (nI (bs D c) - 1) (nI c) s = some (nI (bs D (2 ^ D.1 3)) - 1, s) := by
  have hRR := hb.1.2.2.2.1
  have hP := hb.1.1
  have h256 := pw8 hRR
  intro d
  induction d with
  | zero =>
    intro c n hc hn
    obtain ⟨n, rfl⟩ : ∃ m, n = m + 1 := ⟨n - 1, by omega⟩
    have e : c = 2 ^ D.1 3 := by omega
    subst e
    show b_X11_harm_87 (l_X11_harm_87 n) _ _ (nI (2 ^ D.1 3)) s = _
    unfold b_X11_harm_87
    rw [hS.1 (74, 29, 3) (by decide), shl_P (D.1 3) (by omega), if_pos (nI_le (Nat.le_refl _) (by omega))]
  | succ d ih =>
    intro c n hc hn
    obtain ⟨n, rfl⟩ : ∃ m, n = m + 1 := ⟨n - 1, by omega⟩
    have hlt : c < 2 ^ D.1 3 := by omega
    have hon := on_le (c := c) (by omega)
    have hbl := bs_le D c
    have honb := on_le (c := bs D c - 1) (by omega)
    have hsu : bs D (c + 1) = if nI c &&& rsB D = 0 ∧ (bs D c = 0 ∨ onN c < onN (bs D c - 1)) ∧ clr D c = true then c + 1 else bs D c := rfl
    have hnext := ih (c + 1) n (by omega) (by omega)
    have hl := lost_le D (zc D c) (D.1 0)
    have ha := al_le (D := D) (z := zc D c) hP
    have hz : ∀ r, r < D.1 3 → (decide (D.2 10 r = 1) || bt (nI c) r) = zc D c r := fun r _ => rfl
    have stay : bs D (c + 1) = bs D c → l_X11_harm_87 n (rsB D) (nI (bs D c) - 1) (nI c + 1) s = some (nI (bs D (2 ^ D.1 3)) - 1, s) := fun e => by
      rw [nI_1, ← hnext, e]
    have j125 : nI c &&& rsB D = 0 → (bs D c = 0 ∨ onN c < onN (bs D c - 1)) → j_X11_harm_125 (l_X11_harm_87 n) (rsB D) (nI (bs D c) - 1) (nI c) s = some (nI (bs D (2 ^ D.1 3)) - 1, s) := fun c1 c2 => by
      unfold j_X11_harm_125
      rw [lost_m hS hb _ hz h99, bd_ok]
      by_cases k1 : lostN D (zc D c) (D.1 0) = 0
      · rw [k1, if_pos (by decide), alike_m hS hb _ hz h99, bd_ok]
        by_cases k2 : alN D (zc D c) (D.1 0) = 0
        · have e : bs D (c + 1) = c + 1 := by rw [hsu, if_pos ⟨c1, c2, by simp [clr, k1, k2]⟩]
          rw [k2, if_pos (by decide), nI_1, ← hnext, e, nI_pred]
        · rw [if_neg (nI_ne0 (by omega) (by omega))]
          exact stay (by rw [hsu, if_neg (fun q => by have := q.2.2; simp [clr, k2] at this)])
      · rw [if_neg (nI_ne0 (by omega) (by omega))]
        exact stay (by rw [hsu, if_neg (fun q => by have := q.2.2; simp [clr, k1] at this)])
    show b_X11_harm_87 (l_X11_harm_87 n) _ _ (nI c) s = _
    unfold b_X11_harm_87
    rw [hS.1 (74, 29, 3) (by decide), shl_P (D.1 3) (by omega), if_neg (nI_ge hlt (by omega))]
    by_cases c1 : nI c &&& rsB D = 0
    · rw [if_pos c1]
      by_cases z : bs D c = 0
      · rw [if_pos (by rw [z]; decide)]
        exact j125 c1 (Or.inl z)
      · have hp : nI (bs D c) - 1 = nI (bs D c - 1) := pk_sub (a := bs D c) (b := 1) (by omega)
        rw [if_neg (by rw [hp]; exact ne_m1 (by omega)), ones_m, bd_ok]
        rw [show f_X11_ones (nI (bs D c) - 1) s = some (nI (onN (bs D c - 1)), s) by rw [hp]; exact ones_m _ _, bd_ok]
        by_cases c2 : onN c < onN (bs D c - 1)
        · rw [if_pos (nI_lt c2 (by omega))]
          exact j125 c1 (Or.inr c2)
        · rw [if_neg (nI_nlt (by omega) (by omega))]
          exact stay (by rw [hsu, if_neg (fun q => c2 (q.2.1.resolve_left z))])
    · rw [if_neg c1]
      exact stay (by rw [hsu, if_neg (fun q => c1 q.1)])
theorem harm49_l {D : Dt} {tx : Nat → Int32} {s : St} (hS : RM D tx s) (hb : Bw D) (h99 : ∀ p, p < D.1 0 → rI s 99 p = wh D p) : ∀ (d i n : Nat), i + d = D.1 3 → d < n → l_X11_harm_49 n (bitsI (zr D) i) (nI i) s = some (nI (bs D (2 ^ D.1 3)) - 1, s) := by
  have hRR := hb.1.2.2.2.1
  have h256 := pw8 hRR
  intro d
  induction d with
  | zero =>
    intro i n hi hn
    obtain ⟨n, rfl⟩ : ∃ m, n = m + 1 := ⟨n - 1, by omega⟩
    have e : i = D.1 3 := by omega
    subst e
    show b_X11_harm_49 (l_X11_harm_49 n) _ (nI (D.1 3)) s = _
    unfold b_X11_harm_49
    rw [hS.1 (74, 29, 3) (by decide), if_pos (nI_le (Nat.le_refl (D.1 3)) (by omega))]
    exact harm87_l hS hb h99 (2 ^ D.1 3) 0 FU (by omega) (FU_lt (by omega))
  | succ d ih =>
    intro i n hi hn
    obtain ⟨n, rfl⟩ : ∃ m, n = m + 1 := ⟨n - 1, by omega⟩
    have hlt : i < D.1 3 := by omega
    have hnext := ih (i + 1) n (by omega) (by omega)
    have h10 := (hb.2.2.2.2.1 i hlt).2.2.2
    have hsu : bitsI (zr D) (i + 1) = if zr D i then bitsI (zr D) i ||| ((1 : Int32) <<< (nI i &&& 31)) else bitsI (zr D) i := rfl
    show b_X11_harm_49 (l_X11_harm_49 n) _ (nI i) s = _
    unfold b_X11_harm_49
    rw [hS.1 (74, 29, 3) (by decide), if_neg (nI_ge (a := i) (b := D.1 3) hlt (by omega)), gi_nI (lt_n hlt hRR) (by decide), cl_nI (n := i) (by omega), gArrM hS (c := 93) (a := 10) (n := 3) (by decide) hlt]
    by_cases c0 : D.2 10 i = 0
    · rw [if_pos (by rw [c0]; rfl), or_0, nI_1, ← hnext, hsu, if_neg (by simp [zr, c0])]
    · rw [if_neg (nI_ne0 (by omega) (by omega)), nI_1, ← hnext, hsu, if_pos (by simp [zr]; omega)]
theorem trio (x : Int32) : (x < 0 ∨ 2 < x) ∨ x = 0 ∨ x = 1 ∨ x = 2 := by
  rcases three x (n := 3) (by omega) with hx | ⟨v, hv, rfl⟩
  · left
    exact hx.imp id (fun q => by rw [fa_le] at q; rw [fa_lt]; have e1 : (nI 3).toInt = 3 := (by decide); have e2 : (2 : Int32).toInt = 2 := (by decide); omega)
  · right
    rcases (show v = 0 ∨ v = 1 ∨ v = 2 by omega) with e | e | e <;> rw [e]
    · exact Or.inl rfl
    · exact Or.inr (Or.inl rfl)
    · exact Or.inr (Or.inr rfl)
theorem cPlant {D : Dt} {tx : Nat → Int32} {s : St} (hR : RC D tx s) (hb : Bw D) : f_X10_hasPlant s = some (if D.1 0 = 0 then 0 else 1, s) := by
  have hP := hb.1.1
  unfold f_X10_hasPlant
  rw [hR.1 (8, 0, 0) (by decide)]
  by_cases z : D.1 0 = 0
  · rw [if_pos (show nI (D.1 0) ≤ 0 by rw [z]; decide), if_pos z]
  · rw [if_neg (nI_nle (n := D.1 0) (by omega) (by omega)), if_neg z]
theorem call_harm {D : Dt} {tx : Nat → Int32} {s : St} (h : Rel D tx s) (x : Int32) : Ok (f_X10_harm x) (f_X11_harm x) s := by
  obtain ⟨hB, hR, hS⟩ := id h
  have hb : Bw D := Bd_w hB
  have hP := hb.1.1
  have hRR := hb.1.2.2.2.1
  have h256 := pw8 hRR
  by_cases z : D.1 0 = 0
  · refine rel0 h (r := -1) ?_ ?_
    · unfold f_X10_harm
      by_cases n0 : x < 0
      · rw [if_pos n0]
      · rw [if_neg n0]
        by_cases n2 : 2 < x
        · rw [if_pos n2]
        · rw [if_neg n2, cPlant hR hb, bd_ok, if_pos z, if_pos rfl]
    · unfold f_X11_harm
      rw [hS.1 (74, 18, 0) (by decide), if_pos (show nI (D.1 0) = 0 by rw [z]; rfl)]
  · have hz18 : ∀ t : St, RM D tx t → ¬ rI t 74 18 = 0 := fun t ht => by
      rw [ht.1 (74, 18, 0) (by decide)]
      exact nI_ne0 (n := D.1 0) (by omega) (by omega)
    rcases trio x with hx | hx
    · refine rel0 h (r := -1) ?_ ?_
      · unfold f_X10_harm
        by_cases n0 : x < 0
        · rw [if_pos n0]
        · rw [if_neg n0, if_pos (hx.resolve_left n0)]
      · unfold f_X11_harm
        rw [if_neg (hz18 s hS), inM0 hx, bd_ok, if_pos rfl]
    · have hlo : ¬ x < 0 := by rcases hx with e | e | e <;> rw [e] <;> decide
      have hhi : ¬ (2 : Int32) < x := by rcases hx with e | e | e <;> rw [e] <;> decide
      obtain ⟨u, a1, a2, a3⟩ := load_c hR hb
      have hR1 : RC D tx u := hR.kp a2 (by decide)
      -- the class's last state, then the reference's
      have fin : ∀ (t : St), Kp [29, 30, 31, 34, 43, 44] s t → RC D tx t → ∃ v, f_X11_findSigns t = some ((), v) ∧ Rel D tx v ∧ RM D tx t ∧ ∀ p, p < D.1 0 → rI v 99 p = wh D p := fun t kt hRt => by
        have hSt : RM D tx t := RM_kpC hS kt (by decide)
        obtain ⟨v, c1, c2, c3⟩ := signs_m hSt hb
        exact ⟨v, c1, ⟨hB, RC_kpM hRt c2 (by decide), hSt.kp c2 (by decide)⟩, hSt, c3⟩
      by_cases e2 : x = 2
      · obtain ⟨w, b1, b2⟩ := toRest_l (tx := tx) hb (2 ^ D.1 3) 0 FU u (by omega) (FU_lt (by omega)) hR1 a3
        have kw : Kp [29, 30, 31, 34, 43, 44] s w := (a2.mono (by decide)).tr (b2.mono (by decide))
        obtain ⟨v, c1, c2, c3, c4⟩ := fin w kw (hR1.kp b2 (by decide))
        have hbe := bs_end hb
        have hble := bs_le D (2 ^ D.1 3)
        refine ⟨nI (bs D (2 ^ D.1 3) - 1), w, v, D, tx, ?_, ?_, c2⟩
        · unfold f_X10_harm
          rw [if_neg hlo, if_neg hhi, cPlant hR hb, bd_ok, if_neg z, if_neg (by decide), a1, bd_ok, if_pos e2, show f_X6_rulesToRest u = _ from b1, bd_ok]
        · unfold f_X11_harm
          rw [if_neg (hz18 w c3), inM1 hlo hhi, bd_ok, if_neg (by decide), c1, bd_ok, if_pos (by rw [e2]; decide)]
          rw [← show nI (bs D (2 ^ D.1 3)) - 1 = nI (bs D (2 ^ D.1 3) - 1) from pk_sub (a := bs D (2 ^ D.1 3)) (b := 1) (by omega)]
          exact harm49_l c2.2.2 hb c4 (D.1 3) 0 FU (by omega) (FU_lt (by omega))
      · obtain ⟨w, b1, b2, b3⟩ := show_c hR1 hb (rI u 32 4) (z := zr D) (fun r hr => rest_c hR1 hb hr) a3
        have kw : Kp [29, 30, 31, 34, 43, 44] s w := (a2.mono (by decide)).tr (b2.mono (by decide))
        have hRw : RC D tx w := hR1.kp b2 (by decide)
        have h43w : ∀ p, p < D.1 0 → rI w 43 p = wh D p := fun p hp => by rw [Kp_rI b2 (by decide)]; exact a3 p hp
        obtain ⟨v, c1, c2, c3, c4⟩ := fin w kw hRw
        refine ⟨if x = 0 then nI (lostN D (zr D) (D.1 0)) else nI (alN D (zr D) (D.1 0)), w, v, D, tx, ?_, ?_, c2⟩
        · unfold f_X10_harm
          rw [if_neg hlo, if_neg hhi, cPlant hR hb, bd_ok, if_neg z, if_neg (by decide), a1, bd_ok, if_neg e2, b1, bd_ok]
          by_cases e0 : x = 0
          · rw [if_pos e0, if_pos e0, countLost_c hRw hb h43w b3, bd_ok]
          · rw [if_neg e0, if_neg e0, countAlike_c hRw hb h43w b3, bd_ok]
        · unfold f_X11_harm
          rw [if_neg (hz18 w c3), inM1 hlo hhi, bd_ok, if_neg (by decide), c1, bd_ok, if_neg]
          · by_cases e0 : x = 0
            · rw [if_pos e0, if_pos e0, lost_m c2.2.2 hb 0 (fun r _ => rest_m r) c4, bd_ok]
            · rw [if_neg e0, if_neg e0, alike_m c2.2.2 hb 0 (fun r _ => rest_m r) c4, bd_ok]
          · rcases hx with e | e | e
            · rw [e]; decide
            · rw [e]; decide
            · exact absurd e e2
