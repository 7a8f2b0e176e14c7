/-! ===== the reader: a rule ===== -/
def pEr (tx : Nat → Int32) (N : Nat) (E F : Dt) (a : Nat) : Ln := if kdA tx N a = 2 then (true, nxA tx N a, F) else (false, a, E)
def pRl (tx : Nat → Int32) (N : Nat) (E : Dt) (A : Nat) : Ln :=
  if nmb tx N 0 (E.1 2) (nxA tx N A) then
    if wrd tx N 9 (nxA tx N (nxA tx N A)) then
      if nmb tx N 0 (E.1 2) (nxA tx N (nxA tx N (nxA tx N A))) ∧ vlA tx N (nxA tx N (nxA tx N (nxA tx N A))) ≠ vlA tx N (nxA tx N A) then
        if wrd tx N 10 (nxA tx N (nxA tx N (nxA tx N (nxA tx N A)))) then
          if nmb tx N 0 (E.1 2) (nxA tx N (nxA tx N (nxA tx N (nxA tx N (nxA tx N A))))) ∧ vlA tx N (nxA tx N (nxA tx N (nxA tx N (nxA tx N (nxA tx N A))))) ≠ vlA tx N (nxA tx N A) ∧ vlA tx N (nxA tx N (nxA tx N (nxA tx N (nxA tx N (nxA tx N A))))) ≠ vlA tx N (nxA tx N (nxA tx N (nxA tx N A))) then
            pEr tx N E (addR E (vlA tx N (nxA tx N A)) (vlA tx N (nxA tx N (nxA tx N (nxA tx N A)))) (vlA tx N (nxA tx N (nxA tx N (nxA tx N (nxA tx N (nxA tx N A))))) + 1)) (nxA tx N (nxA tx N (nxA tx N (nxA tx N (nxA tx N (nxA tx N A))))))
          else (false, (nxA tx N (nxA tx N (nxA tx N (nxA tx N (nxA tx N A))))), E)
        else pEr tx N E (addR E (vlA tx N (nxA tx N A)) (vlA tx N (nxA tx N (nxA tx N (nxA tx N A)))) 0) (nxA tx N (nxA tx N (nxA tx N (nxA tx N A))))
      else (false, (nxA tx N (nxA tx N (nxA tx N A))), E)
    else (false, (nxA tx N (nxA tx N A)), E)
  else (false, (nxA tx N A), E)
theorem rl120_c {tx : Nat → Int32} {N a : Nat} {E : Dt} {s u : St} (h : SC tx N a E u) (hK : Kp KC s u) (hn : E.1 3 < 8) (x y z : Nat) {c : Int32} (hc : c = nI z - 1) : LnC tx N s (j_X4_readRule_d_120 (nI x) (nI y) c u) (pEr tx N E (addR E x y z) a) := by
  subst hc
  unfold j_X4_readRule_d_120 pEr
  by_cases c : kdA tx N a = 2
  · obtain ⟨u2, a2, k2, h2⟩ := takeSemi_y h c
    obtain ⟨u3, a3, k3, h3⟩ := addRule_c h2 hn x y z
    rw [if_pos c, a2, bd_ok, if_neg (by decide), a3, bd_ok]
    exact LnC_y h3 (hK.tr ((k2.mono (by decide)).tr (k3.mono (by decide)))) rfl
  · rw [if_neg c, takeSemi_n h c, bd_ok, if_pos rfl]
    exact LnC_n h hK rfl
theorem rule_c {tx : Nat → Int32} {N A : Nat} {E : Dt} {s : St} (h : SC tx N A E s) (hB : BE E) (hn : E.1 3 < 8) : LnC tx N s (f_X4_readRule_d s) (pRl tx N E A) := by
  have hW := hB.1.2.2.1
  obtain ⟨u1, a1, k1, h1⟩ := adv_S h
  have K1 : Kp KC s u1 := k1.mono (by decide)
  unfold pRl f_X4_readRule_d
  rw [a1, bd_ok, h1.2.2.2.1 2 (by decide)]
  show LnC tx N s (bd (f_X4_takeNumber 0 (nI (E.1 2) - 1) u1) fun r_17 s_17 => if r_17 = 0 then some (0, s_17) else bd (f_X4_takeWord 9 s_17) fun r_33 s_33 => if r_33 = 0 then some (0, s_33) else bd (f_X4_isNumber (rI s_17 3 5) s_33) fun r_41 s_41 => if r_41 = 0 then bd (f_X4_takeNumber 0 (nI (E.1 2) - 1) s_41) fun r_50 s_50 => if r_50 = 0 then some (0, s_50) else bd (f_X9_isWord 10 s_50) fun r_73 s_73 => if r_73 = 0 then j_X4_readRule_d_120 (rI s_17 3 5) (rI s_50 3 5) (-1) s_73 else bd (f_X9_advance s_73) fun _ s_83 => bd (f_X4_isNumber (rI s_17 3 5) s_83) fun r_88 s_88 => if r_88 = 0 then bd (f_X4_isNumber (rI s_50 3 5) s_88) fun r_97 s_97 => if r_97 = 0 then bd (f_X4_takeNumber 0 (nI (E.1 2) - 1) s_97) fun r_106 s_106 => if r_106 = 0 then some (0, s_106) else j_X4_readRule_d_120 (rI s_17 3 5) (rI s_50 3 5) (rI s_106 3 5) s_106 else some (0, s_97) else some (0, s_88) else some (0, s_41)) _
  by_cases c1 : nmb tx N 0 (E.1 2) (nxA tx N A)
  · obtain ⟨u2, a2, k2, v2, h2⟩ := takeNumber_y h1 (g := E.1 2) (by omega) c1 (x1 := 0) (x2 := nI (E.1 2) - 1) rfl rfl
    have K2 : Kp KC s u2 := K1.tr (k2.mono (by decide))
    have l1 := c1.2.2
    rw [if_pos c1, a2, bd_ok, if_neg (by decide), v2]
    by_cases c2 : wrd tx N 9 (nxA tx N (nxA tx N A))
    · obtain ⟨u3, a3, k3, h3⟩ := takeWord_y h2 (k := 9) (by decide) c2
      have K3 : Kp KC s u3 := K2.tr (k3.mono (by decide))
      rw [if_pos c2, a3, bd_ok, if_neg (by decide), isNumber_c h3 (x := vlA tx N (nxA tx N A)) (by omega), bd_ok, one0]
      by_cases e3 : kdA tx N (nxA tx N (nxA tx N (nxA tx N A))) = 1 ∧ vlA tx N (nxA tx N (nxA tx N (nxA tx N A))) = vlA tx N (nxA tx N A)
      · rw [if_pos e3, if_neg (fun q => q.2 e3.2)]
        exact LnC_n h3 K3 rfl
      · rw [if_neg e3]
        by_cases c3 : nmb tx N 0 (E.1 2) (nxA tx N (nxA tx N (nxA tx N A)))
        · obtain ⟨u4, a4, k4, v4, h4⟩ := takeNumber_y h3 (g := E.1 2) (by omega) c3 (x1 := 0) (x2 := nI (E.1 2) - 1) rfl rfl
          have K4 : Kp KC s u4 := K3.tr (k4.mono (by decide))
          have l3 := c3.2.2
          rw [if_pos ⟨c3, fun q => e3 ⟨c3.1, q⟩⟩, a4, bd_ok, if_neg (by decide), v4, isWord_c h4.1 h4.2.1 h4.2.2.1 (k := 10) (by decide), bd_ok, one0]
          by_cases c4 : wrd tx N 10 (nxA tx N (nxA tx N (nxA tx N (nxA tx N A))))
          · obtain ⟨u5, a5, k5, h5⟩ := adv_S h4
            have K5 : Kp KC s u5 := K4.tr (k5.mono (by decide))
            rw [if_pos c4, if_pos c4, a5, bd_ok, isNumber_c h5 (x := vlA tx N (nxA tx N A)) (by omega), bd_ok, one0]
            by_cases e5 : kdA tx N (nxA tx N (nxA tx N (nxA tx N (nxA tx N (nxA tx N A))))) = 1 ∧ vlA tx N (nxA tx N (nxA tx N (nxA tx N (nxA tx N (nxA tx N A))))) = vlA tx N (nxA tx N A)
            · rw [if_pos e5, if_neg (fun q => q.2.1 e5.2)]
              exact LnC_n h5 K5 rfl
            · rw [if_neg e5, isNumber_c h5 (x := vlA tx N (nxA tx N (nxA tx N (nxA tx N A)))) (by omega), bd_ok, one0]
              by_cases e6 : kdA tx N (nxA tx N (nxA tx N (nxA tx N (nxA tx N (nxA tx N A))))) = 1 ∧ vlA tx N (nxA tx N (nxA tx N (nxA tx N (nxA tx N (nxA tx N A))))) = vlA tx N (nxA tx N (nxA tx N (nxA tx N A)))
              · rw [if_pos e6, if_neg (fun q => q.2.2 e6.2)]
                exact LnC_n h5 K5 rfl
              · rw [if_neg e6]
                by_cases c5 : nmb tx N 0 (E.1 2) (nxA tx N (nxA tx N (nxA tx N (nxA tx N (nxA tx N A)))))
                · obtain ⟨u6, a6, k6, v6, h6⟩ := takeNumber_y h5 (g := E.1 2) (by omega) c5 (x1 := 0) (x2 := nI (E.1 2) - 1) rfl rfl
                  have K6 : Kp KC s u6 := K5.tr (k6.mono (by decide))
                  rw [if_pos ⟨c5, fun q => e5 ⟨c5.1, q⟩, fun q => e6 ⟨c5.1, q⟩⟩, a6, bd_ok, if_neg (by decide), v6]
                  exact rl120_c h6 K6 hn _ _ (vlA tx N (nxA tx N (nxA tx N (nxA tx N (nxA tx N (nxA tx N A))))) + 1) (nI_pred _).symm
                · rw [if_neg (fun q => c5 q.1), takeNumber_n h5 (l := 0) (g := E.1 2) (by omega) (by omega) c5 (x1 := 0) (x2 := nI (E.1 2) - 1) rfl rfl, bd_ok, if_pos rfl]
                  exact LnC_n h5 K5 rfl
          · rw [if_neg c4, if_neg c4]
            exact rl120_c h4 K4 hn _ _ 0 nI_m1.symm
        · rw [if_neg (fun q => c3 q.1), takeNumber_n h3 (l := 0) (g := E.1 2) (by omega) (by omega) c3 (x1 := 0) (x2 := nI (E.1 2) - 1) rfl rfl, bd_ok, if_pos rfl]
          exact LnC_n h3 K3 rfl
    · rw [if_neg c2, takeWord_n h2 (by decide) c2, bd_ok, if_pos rfl]
      exact LnC_n h2 K2 rfl
  · rw [if_neg c1, takeNumber_n h1 (l := 0) (g := E.1 2) (by omega) (by omega) c1 (x1 := 0) (x2 := nI (E.1 2) - 1) rfl rfl, bd_ok, if_pos rfl]
    exact LnC_n h1 K1 rfl
/-! the reference -/
theorem rl98_l {tx : Nat → Int32} {N a : Nat} {E : Dt} {u : St} (h : SM tx N a E u) (hB : BE E) (hn : E.1 3 < 8) (hc : nmb tx N 0 (E.1 2) a) {k : Nat} (hk : k < 3) {v : Nat → Nat} (hv : ∀ j, j < k → rI u 83 (3 * E.1 3 + j) = nI (v j) ∧ v j ≤ 999) (rec : Int32 → Int32 → St → Option (Int32 × St)) : ∀ (d i n : Nat), i + d = k → d < n → (∀ j, j < i → v j ≠ vlA tx N a) → ((∀ j, j < k → v j ≠ vlA tx N a) → ∃ w, l_X11_ruleLine_98 rec n (nI (3 * E.1 3)) (nI k) (nI i) u = rec (nI (3 * E.1 3)) (nI (k + 1)) w ∧ Km u w ∧ SM tx N (nxA tx N a) E w ∧ (∀ j, j ≠ 3 * E.1 3 + k → rI w 83 j = rI u 83 j) ∧ rI w 83 (3 * E.1 3 + k) = nI (vlA tx N a)) ∧ (¬ (∀ j, j < k → v j ≠ vlA tx N a) → l_X11_ruleLine_98 rec n (nI (3 * E.1 3)) (nI k) (nI i) u = some (0, u)) := by
  have hW := hB.1.2.2.1
  have hl := hc.2.2
  intro d
  induction d with
  | zero =>
    intro i n hi hn2 hno
    obtain ⟨n, rfl⟩ : ∃ m, n = m + 1 := ⟨n - 1, by omega⟩
    have h2 := SM_wI h (k := 83) (j := 3 * E.1 3 + k) (v := nI (vlA tx N a)) (Or.inl (by decide)) (h.2.2.2.w83 (by omega) _)
    obtain ⟨w, a1, k1, h3⟩ := next_S h2
    refine ⟨fun _ => ⟨w, ?_, (Km_wI (by decide) _).tr (Km_nk k1), h3, fun j hj => by rw [Kp_rI k1.1 (by decide), rI_nj hj], by rw [Kp_rI k1.1 (by decide), rI_same]⟩, fun q => absurd (fun j hj => hno j (by omega)) q⟩
    show b_X11_ruleLine_98 rec (l_X11_ruleLine_98 rec n) _ (nI k) (nI i) u = _
    unfold b_X11_ruleLine_98
    rw [if_pos (nI_le (a := k) (b := i) (by omega) (by omega)), nI_add, gi_nI (j := 3 * E.1 3 + k) (n := 24) (by omega) (by decide), cl_nI (n := 3 * E.1 3 + k) (by omega), val_m h (by omega) hc, lN_i]
    show bd (f_X11_next (wI u 83 (3 * E.1 3 + k) (nI (vlA tx N a)))) _ = _
    rw [a1, bd_ok, nI_1]
  | succ d ih =>
    intro i n hi hn2 hno
    obtain ⟨n, rfl⟩ : ∃ m, n = m + 1 := ⟨n - 1, by omega⟩
    obtain ⟨v1, v2⟩ := hv i (by omega)
    have hstep : l_X11_ruleLine_98 rec (n + 1) (nI (3 * E.1 3)) (nI k) (nI i) u = if v i = vlA tx N a then some (0, u) else l_X11_ruleLine_98 rec n (nI (3 * E.1 3)) (nI k) (nI (i + 1)) u := by
      show b_X11_ruleLine_98 rec (l_X11_ruleLine_98 rec n) _ (nI k) (nI i) u = _
      unfold b_X11_ruleLine_98
      rw [if_neg (nI_ge (a := i) (b := k) (by omega) (by omega)), nI_add, gi_nI (j := 3 * E.1 3 + i) (n := 24) (by omega) (by decide), cl_nI (n := 3 * E.1 3 + i) (by omega), v1, val_m h (by omega) hc, nI_l (by omega), nI_1]
      by_cases e : v i = vlA tx N a
      · rw [if_pos ((lg_cmp_eq _ _).mpr (by rw [e])), if_pos e]
      · rw [if_neg (fun q => e ((pk_lEQ (by omega) (by omega)).mp ((lg_cmp_eq _ _).mp q))), if_neg e]
    rw [hstep]
    by_cases e : v i = vlA tx N a
    · rw [if_pos e]
      exact ⟨fun q => absurd e (q i (by omega)), fun _ => rfl⟩
    · rw [if_neg e]
      exact ih (i + 1) n (by omega) (by omega) (fun j hj => by
        by_cases ej : j = i
        · rw [ej]; exact e
        · exact hno j (by omega))
/-- the number of a rule, at a -/
theorem rl80_m {tx : Nat → Int32} {N a : Nat} {E : Dt} {u : St} (h : SM tx N a E u) (hB : BE E) (hn : E.1 3 < 8) {k : Nat} (hk : k < 3) {v : Nat → Nat} (hv : ∀ j, j < k → rI u 83 (3 * E.1 3 + j) = nI (v j) ∧ v j ≤ 999) (rec : Int32 → Int32 → St → Option (Int32 × St)) : (nmb tx N 0 (E.1 2) a ∧ (∀ j, j < k → v j ≠ vlA tx N a) → ∃ w, j_X11_ruleLine_80 rec (nI (3 * E.1 3)) (nI k) u = rec (nI (3 * E.1 3)) (nI (k + 1)) w ∧ Km u w ∧ SM tx N (nxA tx N a) E w ∧ (∀ j, j ≠ 3 * E.1 3 + k → rI w 83 j = rI u 83 j) ∧ rI w 83 (3 * E.1 3 + k) = nI (vlA tx N a)) ∧ (¬ (nmb tx N 0 (E.1 2) a ∧ (∀ j, j < k → v j ≠ vlA tx N a)) → j_X11_ruleLine_80 rec (nI (3 * E.1 3)) (nI k) u = some (0, u)) := by
  have hW := hB.1.2.2.1
  unfold j_X11_ruleLine_80
  rw [h.2.2.2.1 (13, 2) (by decide), isNumber_m h (l := 0) (g := E.1 2) (by omega) (by omega) (x1 := 0) (x2 := nI (E.1 2) - 1) rfl rfl, bd_ok, one0]
  by_cases c : nmb tx N 0 (E.1 2) a
  · obtain ⟨r1, r2⟩ := rl98_l h hB hn c hk hv rec k 0 FU (by omega) (FU_lt (by omega)) (fun j hj => absurd hj (Nat.not_lt_zero j))
    rw [if_pos c]
    exact ⟨fun q => r1 q.2, fun q => r2 (fun z => q ⟨c, z⟩)⟩
  · rw [if_neg c]
    exact ⟨fun q => absurd q.1 c, fun _ => rfl⟩
theorem rlEnd_m {tx : Nat → Int32} {N a : Nat} {E : Dt} {s u : St} (h : SM tx N a E u) (hK : Km s u) (n : Nat) {x y z : Nat} (h0 : rI u 83 (3 * E.1 3) = nI x) (h1 : rI u 83 (3 * E.1 3 + 1) = nI y) (h2 : rI u 83 (3 * E.1 3 + 2) = nI z - 1) : LnM tx N s (l_X11_ruleLine_24 (n + 1) (nI (3 * E.1 3)) (nI 3) u) (pEr tx N E (addR E x y z) a) := by
  obtain ⟨f1, f2, f3, f4, f5, f6, f7⟩ := addR_e E x y z
  have hpush := DM_push (m := 16) (c := 3) (by decide) h.2.2.2 f1 f2 f3 f4 (fun q hq hc => by
    have := (arrF_f q hq).2.2.2
    omega) (fun _ => by rw [f5, f6, f7]; exact ⟨h0, h1, h2⟩) (fun q => absurd q (by decide))
  have h3 := SM_wI h (k := 74) (j := 16) (Or.inr ⟨rfl, by decide⟩) hpush
  have K3 : Km s (wI u 74 16 (nI (E.1 3 + 1))) := hK.tr (Km_74 (by decide) _)
  show LnM tx N s (b_X11_ruleLine_24 (l_X11_ruleLine_24 n) _ (nI 3) u) _
  unfold b_X11_ruleLine_24 pEr
  rw [if_pos (show (3 : Int32) ≤ nI 3 by decide), h.2.2.2.1 (16, 3) (by decide), nI_1]
  show LnM tx N s (bd (f_X11_closes (wI u 74 16 (nI (E.1 3 + 1)))) _) _
  by_cases c : kdA tx N a = 2
  · obtain ⟨u4, a4, k4, h4⟩ := closes_y h3 c
    rw [if_pos c, a4, bd_ok, gb_1]
    exact LnM_y h4 (K3.tr (Km_nk k4)) rfl
  · rw [if_neg c, closes_n h3 c, bd_ok, gb_0]
    exact LnM_n h3 K3 rfl
theorem rule_m {tx : Nat → Int32} {N A : Nat} {E : Dt} {s : St} (h : SM tx N A E s) (hB : BE E) (hn : E.1 3 < 8) : LnM tx N s (f_X11_ruleLine s) (pRl tx N E A) := by
  have hW := hB.1.2.2.1
  obtain ⟨u1, a1, k1, h1⟩ := next_S h
  have K1 : Km s u1 := Km_nk k1
  unfold pRl f_X11_ruleLine
  rw [h.2.2.2.1 (16, 3) (by decide), if_neg (show ¬ nI (E.1 3) = (8 : Int32) from fun q => by
    have := (nI_eq (a := E.1 3) (b := 8) (by omega) (by omega)).mp q
    omega), a1, bd_ok, h1.2.2.2.1 (16, 3) (by decide), show (3 : Int32) * nI (E.1 3) = nI (3 * E.1 3) by rw [show (3 : Int32) = nI 3 from rfl, pk_mul]]
  -- the first number
  show LnM tx N s (b_X11_ruleLine_24 (l_X11_ruleLine_24 9999) (nI (3 * E.1 3)) (nI 0) u1) _
  have h1w := SM_wI h1 (k := 83) (j := 3 * E.1 3 + 0) (v := -1) (Or.inl (by decide)) (h1.2.2.2.w83 (by omega) _)
  have K1w : Km s (wI u1 83 (3 * E.1 3 + 0) (-1)) := K1.tr (Km_wI (by decide) _)
  obtain ⟨p1, p2⟩ := rl80_m h1w hB hn (k := 0) (by decide) (v := fun _ => 0) (fun j hj => absurd hj (Nat.not_lt_zero j)) (l_X11_ruleLine_24 9999)
  have hs0 : b_X11_ruleLine_24 (l_X11_ruleLine_24 9999) (nI (3 * E.1 3)) (nI 0) u1 = j_X11_ruleLine_80 (l_X11_ruleLine_24 9999) (nI (3 * E.1 3)) (nI 0) (wI u1 83 (3 * E.1 3 + 0) (-1)) := by
    unfold b_X11_ruleLine_24 j_X11_ruleLine_54
    rw [if_neg (show ¬ (3 : Int32) ≤ nI 0 by decide), nI_add, gi_nI (j := 3 * E.1 3 + 0) (n := 24) (by omega) (by decide), cl_nI (n := 3 * E.1 3 + 0) (by omega), if_neg (show ¬ nI 0 = (1 : Int32) by decide), if_neg (show ¬ nI 0 = (2 : Int32) by decide), if_neg (show ¬ nI 0 = (2 : Int32) by decide)]
  rw [hs0]
  by_cases c1 : nmb tx N 0 (E.1 2) (nxA tx N A)
  · obtain ⟨u2, a2, k2, h2, g2, v2⟩ := p1 ⟨c1, fun j hj => absurd hj (Nat.not_lt_zero j)⟩
    have K2 : Km s u2 := K1w.tr k2
    have l1 := c1.2.2
    rw [if_pos c1, a2]
    -- while, the second number
    show LnM tx N s (b_X11_ruleLine_24 (l_X11_ruleLine_24 9998) (nI (3 * E.1 3)) (nI 1) u2) _
    have h2w := SM_wI h2 (k := 83) (j := 3 * E.1 3 + 1) (v := -1) (Or.inl (by decide)) (h2.2.2.2.w83 (by omega) _)
    have K2w : Km s (wI u2 83 (3 * E.1 3 + 1) (-1)) := K2.tr (Km_wI (by decide) _)
    have v2w : rI (wI u2 83 (3 * E.1 3 + 1) (-1)) 83 (3 * E.1 3 + 0) = nI (vlA tx N (nxA tx N A)) := by rw [rI_nj (by omega)]; exact v2
    have hs1 : b_X11_ruleLine_24 (l_X11_ruleLine_24 9998) (nI (3 * E.1 3)) (nI 1) u2 = bd (f_X11_word 9 (wI u2 83 (3 * E.1 3 + 1) (-1))) fun r t => if r = 0 then some (0, t) else j_X11_ruleLine_80 (l_X11_ruleLine_24 9998) (nI (3 * E.1 3)) (nI 1) t := by
      unfold b_X11_ruleLine_24 j_X11_ruleLine_54
      rw [if_neg (show ¬ (3 : Int32) ≤ nI 1 by decide), nI_add, gi_nI (j := 3 * E.1 3 + 1) (n := 24) (by omega) (by decide), cl_nI (n := 3 * E.1 3 + 1) (by omega), if_pos (show nI 1 = (1 : Int32) by decide)]
      simp only [if_neg (show ¬ nI 1 = (2 : Int32) by decide)]
    rw [hs1]
    generalize wI u2 83 (3 * E.1 3 + 1) (-1) = u2w at *
    by_cases c2 : wrd tx N 9 (nxA tx N (nxA tx N A))
    · obtain ⟨u3, a3, k3, h3⟩ := word_y h2w (k := 9) (by decide) c2
      have K3 : Km s u3 := K2w.tr (Km_nk k3)
      have v3 : rI u3 83 (3 * E.1 3 + 0) = nI (vlA tx N (nxA tx N A)) := by rw [Kp_rI k3.1 (by decide)]; exact v2w
      rw [if_pos c2, a3, bd_ok, if_neg (by decide)]
      obtain ⟨p3, p4⟩ := rl80_m h3 hB hn (k := 1) (by decide) (v := fun _ => vlA tx N (nxA tx N A)) (fun j hj => by
        have : j = 0 := by omega
        subst this
        exact ⟨v3, by omega⟩) (l_X11_ruleLine_24 9998)
      by_cases c3 : nmb tx N 0 (E.1 2) (nxA tx N (nxA tx N (nxA tx N A))) ∧ vlA tx N (nxA tx N (nxA tx N (nxA tx N A))) ≠ vlA tx N (nxA tx N A)
      · obtain ⟨u4, a4, k4, h4, g4, v4⟩ := p3 ⟨c3.1, fun j hj => Ne.symm c3.2⟩
        have K4 : Km s u4 := K3.tr k4
        have l3 := c3.1.2.2
        have w4 : rI u4 83 (3 * E.1 3 + 0) = nI (vlA tx N (nxA tx N A)) := by rw [g4 _ (by omega)]; exact v3
        rw [if_pos c3, a4]
        -- not, the third number
        show LnM tx N s (b_X11_ruleLine_24 (l_X11_ruleLine_24 9997) (nI (3 * E.1 3)) (nI 2) u4) _
        have h4w := SM_wI h4 (k := 83) (j := 3 * E.1 3 + 2) (v := -1) (Or.inl (by decide)) (h4.2.2.2.w83 (by omega) _)
        have K4w : Km s (wI u4 83 (3 * E.1 3 + 2) (-1)) := K4.tr (Km_wI (by decide) _)
        have x4 : rI (wI u4 83 (3 * E.1 3 + 2) (-1)) 83 (3 * E.1 3 + 0) = nI (vlA tx N (nxA tx N A)) := by rw [rI_nj (by omega)]; exact w4
        have y4 : rI (wI u4 83 (3 * E.1 3 + 2) (-1)) 83 (3 * E.1 3 + 1) = nI (vlA tx N (nxA tx N (nxA tx N (nxA tx N A)))) := by rw [rI_nj (by omega)]; exact v4
        have z4 : rI (wI u4 83 (3 * E.1 3 + 2) (-1)) 83 (3 * E.1 3 + 2) = -1 := rI_same _ _ _ _
        have hs2 : b_X11_ruleLine_24 (l_X11_ruleLine_24 9997) (nI (3 * E.1 3)) (nI 2) u4 = bd (f_X11_isWord 10 (wI u4 83 (3 * E.1 3 + 2) (-1))) fun r t => if r = 0 then l_X11_ruleLine_24 9997 (nI (3 * E.1 3)) (nI 2 + 1) t else bd (f_X11_next t) fun _ t2 => j_X11_ruleLine_80 (l_X11_ruleLine_24 9997) (nI (3 * E.1 3)) (nI 2) t2 := by
          unfold b_X11_ruleLine_24 j_X11_ruleLine_54
          rw [if_neg (show ¬ (3 : Int32) ≤ nI 2 by decide), nI_add, gi_nI (j := 3 * E.1 3 + 2) (n := 24) (by omega) (by decide), cl_nI (n := 3 * E.1 3 + 2) (by omega), if_neg (show ¬ nI 2 = (1 : Int32) by decide)]
          simp only [if_pos (show nI 2 = (2 : Int32) by decide)]
        rw [hs2]
        generalize wI u4 83 (3 * E.1 3 + 2) (-1) = u4w at *
        rw [isWord_m h4w.1 h4w.2.2.1 (k := 10) (by decide), bd_ok, one0, nI_1]
        by_cases c4 : wrd tx N 10 (nxA tx N (nxA tx N (nxA tx N (nxA tx N A))))
        · obtain ⟨u5, a5, k5, h5⟩ := next_S h4w
          have K5 : Km s u5 := K4w.tr (Km_nk k5)
          have x5 : rI u5 83 (3 * E.1 3 + 0) = nI (vlA tx N (nxA tx N A)) := by rw [Kp_rI k5.1 (by decide)]; exact x4
          have y5 : rI u5 83 (3 * E.1 3 + 1) = nI (vlA tx N (nxA tx N (nxA tx N (nxA tx N A)))) := by rw [Kp_rI k5.1 (by decide)]; exact y4
          rw [if_pos c4, if_pos c4, a5, bd_ok]
          obtain ⟨p5, p6⟩ := rl80_m h5 hB hn (k := 2) (by decide) (v := fun j => if j = 0 then vlA tx N (nxA tx N A) else vlA tx N (nxA tx N (nxA tx N (nxA tx N A)))) (fun j hj => by
            have : j = 0 ∨ j = 1 := by omega
            rcases this with rfl | rfl
            · exact ⟨x5, by simp; omega⟩
            · exact ⟨y5, by simp; omega⟩) (l_X11_ruleLine_24 9997)
          have hiff : (∀ j, j < 2 → (fun j => if j = 0 then vlA tx N (nxA tx N A) else vlA tx N (nxA tx N (nxA tx N (nxA tx N A)))) j ≠ vlA tx N (nxA tx N (nxA tx N (nxA tx N (nxA tx N (nxA tx N A)))))) ↔ vlA tx N (nxA tx N (nxA tx N (nxA tx N (nxA tx N (nxA tx N A))))) ≠ vlA tx N (nxA tx N A) ∧ vlA tx N (nxA tx N (nxA tx N (nxA tx N (nxA tx N (nxA tx N A))))) ≠ vlA tx N (nxA tx N (nxA tx N (nxA tx N A))) := by
            constructor
            · intro q
              exact ⟨fun e => q 0 (by decide) (by simp [e]), fun e => q 1 (by decide) (by simp [e])⟩
            · intro q j hj
              have : j = 0 ∨ j = 1 := by omega
              rcases this with rfl | rfl
              · exact fun e => q.1 e.symm
              · exact fun e => q.2 e.symm
          by_cases c5 : nmb tx N 0 (E.1 2) (nxA tx N (nxA tx N (nxA tx N (nxA tx N (nxA tx N A))))) ∧ vlA tx N (nxA tx N (nxA tx N (nxA tx N (nxA tx N (nxA tx N A))))) ≠ vlA tx N (nxA tx N A) ∧ vlA tx N (nxA tx N (nxA tx N (nxA tx N (nxA tx N (nxA tx N A))))) ≠ vlA tx N (nxA tx N (nxA tx N (nxA tx N A)))
          · obtain ⟨u6, a6, k6, h6, g6, v6⟩ := p5 ⟨c5.1, hiff.mpr c5.2⟩
            rw [if_pos c5, a6]
            exact rlEnd_m h6 (K5.tr k6) 9996 (by have := g6 (3 * E.1 3 + 0) (by omega); rw [x5] at this; exact this) (by rw [g6 _ (by omega)]; exact y5) (by rw [v6, nI_pred])
          · rw [if_neg c5, p6 (fun q => c5 ⟨q.1, hiff.mp q.2⟩)]
            exact LnM_n h5 K5 rfl
        · rw [if_neg c4, if_neg c4]
          exact rlEnd_m h4w K4w 9996 x4 y4 (by rw [z4]; decide)
      · rw [if_neg c3, p4 (fun q => c3 ⟨q.1, fun e => q.2 0 (by decide) e.symm⟩)]
        exact LnM_n h3 K3 rfl
    · rw [if_neg c2, word_n h2w (by decide) c2, bd_ok, if_pos rfl]
      exact LnM_n h2w K2w rfl
  · rw [if_neg c1, p2 (fun q => c1 q.1)]
    exact LnM_n h1w K1w rfl
