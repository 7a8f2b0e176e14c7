/-! ===== the reader: line by line ===== -/
def pLn (tx : Nat → Int32) (N : Nat) (E : Dt) (A : Nat) : Ln :=
  if wrd tx N 0 A then (if E.1 0 < 12 then pPt tx N E A else (false, A, E))
  else if wrd tx N 3 A then (if E.1 1 < 24 then pArc tx N E A else (false, A, E))
  else if wrd tx N 6 A then (if E.1 2 < 12 then pWn tx N E A else (false, A, E))
  else if wrd tx N 8 A then (if E.1 3 < 8 then pRl tx N E A else (false, A, E))
  else (false, A, E)
theorem nxA_ge (tx : Nat → Int32) {N A : Nat} (h : A ≤ N) : A ≤ nxA tx N A := by
  by_cases e : A < N
  · have := (nxA_in tx h).2 e
    omega
  · have e2 : A = N := by omega
    have h1 : enA tx N A = N := by unfold enA; rw [if_pos e2]
    have := rnQ_spec (qB tx) (N - enA tx N A) (enA tx N A)
    unfold nxA
    omega
theorem nx_chain (tx : Nat → Int32) {N A : Nat} (hA : A ≤ N) : (nxA tx N A) ≤ N ∧ (nxA tx N (nxA tx N A)) ≤ N ∧ (nxA tx N (nxA tx N (nxA tx N A))) ≤ N ∧ (nxA tx N (nxA tx N (nxA tx N (nxA tx N A)))) ≤ N ∧ (nxA tx N (nxA tx N (nxA tx N (nxA tx N (nxA tx N A))))) ≤ N ∧ (nxA tx N (nxA tx N (nxA tx N (nxA tx N (nxA tx N (nxA tx N A)))))) ≤ N ∧ (nxA tx N (nxA tx N (nxA tx N (nxA tx N (nxA tx N (nxA tx N (nxA tx N A))))))) ≤ N := by
  have i1 := (nxA_in tx hA).1
  have i2 := (nxA_in tx i1).1
  have i3 := (nxA_in tx i2).1
  have i4 := (nxA_in tx i3).1
  have i5 := (nxA_in tx i4).1
  have i6 := (nxA_in tx i5).1
  have i7 := (nxA_in tx i6).1
  exact ⟨i1, i2, i3, i4, i5, i6, i7⟩
theorem nx_up (tx : Nat → Int32) {N A : Nat} (hA : A ≤ N) (h : A < N) : A < (nxA tx N A) ∧ A < (nxA tx N (nxA tx N A)) ∧ A < (nxA tx N (nxA tx N (nxA tx N A))) ∧ A < (nxA tx N (nxA tx N (nxA tx N (nxA tx N A)))) ∧ A < (nxA tx N (nxA tx N (nxA tx N (nxA tx N (nxA tx N A))))) ∧ A < (nxA tx N (nxA tx N (nxA tx N (nxA tx N (nxA tx N (nxA tx N A)))))) ∧ A < (nxA tx N (nxA tx N (nxA tx N (nxA tx N (nxA tx N (nxA tx N (nxA tx N A))))))) := by
  have q1 := (nxA_in tx hA).2 h
  have i1 := (nxA_in tx hA).1
  have q2 := Nat.lt_of_lt_of_le q1 (nxA_ge tx i1)
  have i2 := (nxA_in tx i1).1
  have q3 := Nat.lt_of_lt_of_le q2 (nxA_ge tx i2)
  have i3 := (nxA_in tx i2).1
  have q4 := Nat.lt_of_lt_of_le q3 (nxA_ge tx i3)
  have i4 := (nxA_in tx i3).1
  have q5 := Nat.lt_of_lt_of_le q4 (nxA_ge tx i4)
  have i5 := (nxA_in tx i4).1
  have q6 := Nat.lt_of_lt_of_le q5 (nxA_ge tx i5)
  have i6 := (nxA_in tx i5).1
  have q7 := Nat.lt_of_lt_of_le q6 (nxA_ge tx i6)
  have i7 := (nxA_in tx i6).1
  exact ⟨q1, q2, q3, q4, q5, q6, q7⟩
theorem fp_lt {tx : Nat → Int32} {N : Nat} {E : Dt} {A : Nat} (h : hsP tx N E A) : fpN E (wdA tx N A) < E.1 0 := h.2
/-- a line that stands: what it adds can be, and it goes on -/
def GoodL (N A : Nat) (R : Ln) : Prop := R.1 = true → BE R.2.2 ∧ A < R.2.1
theorem good_n (N A a : Nat) (E : Dt) : GoodL N A (false, a, E) := fun q => Bool.noConfusion q
theorem good_y {N A a : Nat} {E : Dt} (h1 : BE E) (h2 : A < a) : GoodL N A (true, a, E) := fun _ => ⟨h1, h2⟩
theorem pEw_good {tx : Nat → Int32} {N A a : Nat} {E : Dt} (hB : BE E) (hn : E.1 2 < 12) (haN : a ≤ N) (hA : A < a) {p n r : Nat} {L : Nat → Nat} (hp : p < E.1 0) : GoodL N A (pEw tx N E p n r L a) := by
  unfold pEw
  by_cases c : kdA tx N a = 2
  · rw [if_pos c]
    have := nxA_ge tx haN
    exact fun _ => ⟨BE_addW hB hn hp (kthN_le _ _ _ _), by show A < nxA tx N a; omega⟩
  · rw [if_neg c]; exact good_n _ _ _ _
theorem pOf_good {tx : Nat → Int32} {N A a : Nat} {E : Dt} (hB : BE E) (hn : E.1 2 < 12) (haN : a ≤ N) (hA : A < a) {p n : Nat} {L : Nat → Nat} (hp : p < E.1 0) : GoodL N A (pOf tx N E p n L a) := by
  have h1 := nxA_ge tx haN
  have h2 := (nxA_in tx haN).1
  have h3 := nxA_ge tx h2
  have h4 := (nxA_in tx h2).1
  unfold pOf
  by_cases c : n ≤ 1
  · rw [if_pos c]; exact pEw_good hB hn haN hA hp
  · rw [if_neg c]
    by_cases c2 : wrd tx N 7 a
    · rw [if_pos c2]
      by_cases c3 : nmb tx N 1 (n + 1) (nxA tx N a)
      · rw [if_pos c3]; exact pEw_good hB hn h4 (by omega) hp
      · rw [if_neg c3]; exact good_n _ _ _ _
    · rw [if_neg c2]; exact good_n _ _ _ _
theorem pLg_good {tx : Nat → Int32} {N A : Nat} {E : Dt} (hB : BE E) (hn : E.1 2 < 12) {p : Nat} (hp : p < E.1 0) : ∀ (d n : Nat) (L : Nat → Nat) (a : Nat), a ≤ N → A < a → GoodL N A (pLg tx N E p d n L a)
  | 0, _, _, _, h1, h2 => pOf_good hB hn h1 h2 hp
  | d + 1, n, L, a, h1, h2 => by
    have h3 := nxA_ge tx h1
    have h4 := (nxA_in tx h1).1
    show GoodL N A (if n = 0 ∨ kdA tx N a = 1 then if nmb tx N 0 61 a then pLg tx N E p d (n + 1) (va_up L n (vlA tx N a)) (nxA tx N a) else (false, a, E) else pOf tx N E p n L a)
    by_cases c : n = 0 ∨ kdA tx N a = 1
    · rw [if_pos c]
      by_cases c2 : nmb tx N 0 61 a
      · rw [if_pos c2]; exact pLg_good hB hn hp d (n + 1) _ _ h4 (by omega)
      · rw [if_neg c2]; exact good_n _ _ _ _
    · rw [if_neg c]; exact pOf_good hB hn h1 h2 hp
theorem pLn_good {tx : Nat → Int32} {N A : Nat} {E : Dt} (hB : BE E) (hA : A ≤ N) : GoodL N A (pLn tx N E A) := by
  obtain ⟨i1, i2, i3, i4, i5, i6, i7⟩ := nx_chain tx hA
  have hw : ∀ k, wrd tx N k A → A < N := fun k q => by
    by_cases e : A = N
    · have := (kdA_4 tx N A).mpr e
      rw [q.1] at this
      exact absurd this (by decide)
    · omega
  unfold pLn
  by_cases c0 : wrd tx N 0 A
  · obtain ⟨q1, q2, q3, q4, q5, q6, q7⟩ := nx_up tx hA (hw 0 c0)
    rw [if_pos c0]
    by_cases n0 : E.1 0 < 12
    · rw [if_pos n0]
      unfold pPt
      by_cases d1 : kdA tx N (nxA tx N A) = 0 ∧ nmB (wdA tx N (nxA tx N A)) = true
      · rw [if_pos d1]
        by_cases d2 : hsP tx N E (nxA tx N A)
        · rw [if_pos d2]; exact good_n _ _ _ _
        · rw [if_neg d2]
          by_cases d3 : wrd tx N 2 (nxA tx N (nxA tx N A)) ∨ wrd tx N 1 (nxA tx N (nxA tx N A))
          · rw [if_pos d3]
            by_cases d4 : kdA tx N (nxA tx N (nxA tx N (nxA tx N A))) = 2
            · rw [if_pos d4]
              exact good_y (BE_addP hB n0 (one_le _) ((nmB_iff _).mp d1.2) (wd_lt i1 d1.1).1) q4
            · rw [if_neg d4]; exact good_n _ _ _ _
          · rw [if_neg d3]; exact good_n _ _ _ _
      · rw [if_neg d1]; exact good_n _ _ _ _
    · rw [if_neg n0]; exact good_n _ _ _ _
  · rw [if_neg c0]
    by_cases c1 : wrd tx N 3 A
    · obtain ⟨q1, q2, q3, q4, q5, q6, q7⟩ := nx_up tx hA (hw 3 c1)
      rw [if_pos c1]
      by_cases n0 : E.1 1 < 24
      · rw [if_pos n0]
        unfold pArc
        by_cases d1 : hsP tx N E (nxA tx N A)
        · rw [if_pos d1]
          by_cases d2 : wrd tx N 4 (nxA tx N (nxA tx N A))
          · rw [if_pos d2]
            by_cases d3 : hsP tx N E (nxA tx N (nxA tx N (nxA tx N A)))
            · rw [if_pos d3]
              by_cases d4 : wrd tx N 5 (nxA tx N (nxA tx N (nxA tx N (nxA tx N A))))
              · rw [if_pos d4]
                by_cases d5 : nmb tx N 0 61 (nxA tx N (nxA tx N (nxA tx N (nxA tx N (nxA tx N A)))))
                · rw [if_pos d5]
                  by_cases d6 : kdA tx N (nxA tx N (nxA tx N (nxA tx N (nxA tx N (nxA tx N (nxA tx N A)))))) = 2
                  · rw [if_pos d6]
                    exact good_y (BE_addA hB n0 d1.2 d3.2 (Nat.le_of_lt_succ d5.2.2)) q7
                  · rw [if_neg d6]; exact good_n _ _ _ _
                · rw [if_neg d5]; exact good_n _ _ _ _
              · rw [if_neg d4]; exact good_n _ _ _ _
            · rw [if_neg d3]; exact good_n _ _ _ _
          · rw [if_neg d2]; exact good_n _ _ _ _
        · rw [if_neg d1]; exact good_n _ _ _ _
      · rw [if_neg n0]; exact good_n _ _ _ _
    · rw [if_neg c1]
      by_cases c2 : wrd tx N 6 A
      · obtain ⟨q1, q2, q3, q4, q5, q6, q7⟩ := nx_up tx hA (hw 6 c2)
        rw [if_pos c2]
        by_cases n0 : E.1 2 < 12
        · rw [if_pos n0]
          unfold pWn
          by_cases d1 : hsP tx N E (nxA tx N A)
          · rw [if_pos d1]; exact pLg_good hB n0 d1.2 _ _ _ _ i2 q2
          · rw [if_neg d1]; exact good_n _ _ _ _
        · rw [if_neg n0]; exact good_n _ _ _ _
      · rw [if_neg c2]
        by_cases c3 : wrd tx N 8 A
        · obtain ⟨q1, q2, q3, q4, q5, q6, q7⟩ := nx_up tx hA (hw 8 c3)
          rw [if_pos c3]
          by_cases n0 : E.1 3 < 8
          · rw [if_pos n0]
            unfold pRl
            by_cases d1 : nmb tx N 0 (E.1 2) (nxA tx N A)
            · have l1 := d1.2.2
              rw [if_pos d1]
              by_cases d2 : wrd tx N 9 (nxA tx N (nxA tx N A))
              · rw [if_pos d2]
                by_cases d3 : nmb tx N 0 (E.1 2) (nxA tx N (nxA tx N (nxA tx N A))) ∧ vlA tx N (nxA tx N (nxA tx N (nxA tx N A))) ≠ vlA tx N (nxA tx N A)
                · have l3 := d3.1.2.2
                  rw [if_pos d3]
                  by_cases d4 : wrd tx N 10 (nxA tx N (nxA tx N (nxA tx N (nxA tx N A))))
                  · rw [if_pos d4]
                    by_cases d5 : nmb tx N 0 (E.1 2) (nxA tx N (nxA tx N (nxA tx N (nxA tx N (nxA tx N A))))) ∧ vlA tx N (nxA tx N (nxA tx N (nxA tx N (nxA tx N (nxA tx N A))))) ≠ vlA tx N (nxA tx N A) ∧ vlA tx N (nxA tx N (nxA tx N (nxA tx N (nxA tx N (nxA tx N A))))) ≠ vlA tx N (nxA tx N (nxA tx N (nxA tx N A)))
                    · have l5 := d5.1.2.2
                      rw [if_pos d5]
                      unfold pEr
                      by_cases d6 : kdA tx N (nxA tx N (nxA tx N (nxA tx N (nxA tx N (nxA tx N (nxA tx N A)))))) = 2
                      · rw [if_pos d6]
                        exact good_y (BE_addR hB n0 l1 l3 (Nat.succ_le_of_lt l5)) q7
                      · rw [if_neg d6]; exact good_n _ _ _ _
                    · rw [if_neg d5]; exact good_n _ _ _ _
                  · rw [if_neg d4]
                    unfold pEr
                    by_cases d6 : kdA tx N (nxA tx N (nxA tx N (nxA tx N (nxA tx N A)))) = 2
                    · rw [if_pos d6]
                      exact good_y (BE_addR hB n0 l1 l3 (Nat.zero_le _)) q5
                    · rw [if_neg d6]; exact good_n _ _ _ _
                · rw [if_neg d3]; exact good_n _ _ _ _
              · rw [if_neg d2]; exact good_n _ _ _ _
            · rw [if_neg d1]; exact good_n _ _ _ _
          · rw [if_neg n0]; exact good_n _ _ _ _
        · rw [if_neg c3]; exact good_n _ _ _ _
def pRun (tx : Nat → Int32) (N : Nat) : Nat → Dt → Nat → Ln
  | 0, E, A => (true, A, E)
  | d + 1, E, A => if kdA tx N A = 4 then (true, A, E) else if (pLn tx N E A).1 = true then pRun tx N d (pLn tx N E A).2.2 (pLn tx N E A).2.1 else (false, (pLn tx N E A).2.1, E)
def ansR (N : Nat) (R : Ln) : Int32 := if R.1 = true then (if R.2.2.1 0 = 0 then nI N else -1) else nI R.2.1
/-! the class -/
theorem step_c {tx : Nat → Int32} {N A : Nat} {E : Dt} {s : St} (h : SC tx N A E s) (hB : BE E) (h4 : kdA tx N A ≠ 4) {i : Nat} (hi : i < 600) (rec : Int32 → Int32 → St → Option (Int32 × St)) : ∃ u, b_X4_read_d_15 rec 1 (nI i) s = rec (if (pLn tx N E A).1 then 1 else 0) (nI (i + 1)) u ∧ Kp KC s u ∧ (pLn tx N E A).2.1 ≤ N ∧ TxC tx N u ∧ TkC tx N (pLn tx N E A).2.1 u ∧ ((pLn tx N E A).1 = true → DC tx N (pLn tx N E A).2.2 u) := by
  have hb := hB.1
  have no : ∀ (R : Ln), R = (false, A, E) → ∃ u, rec 0 (nI (i + 1)) s = rec (if R.1 then 1 else 0) (nI (i + 1)) u ∧ Kp KC s u ∧ R.2.1 ≤ N ∧ TxC tx N u ∧ TkC tx N R.2.1 u ∧ (R.1 = true → DC tx N R.2.2 u) := fun R e => by
    subst e
    exact ⟨s, rfl, Kp.rf, h.1, h.2.1, h.2.2.1, fun q => Bool.noConfusion q⟩
  have yes : ∀ (f : St → Option (Int32 × St)) (R : Ln), LnC tx N s (f s) R → ∃ u, (bd (f s) fun r t => if r = 0 then rec 0 (nI (i + 1)) t else rec 1 (nI (i + 1)) t) = rec (if R.1 then 1 else 0) (nI (i + 1)) u ∧ Kp KC s u ∧ R.2.1 ≤ N ∧ TxC tx N u ∧ TkC tx N R.2.1 u ∧ (R.1 = true → DC tx N R.2.2 u) := fun f R hl => by
    obtain ⟨u, a1, a2⟩ := hl
    refine ⟨u, ?_, a2⟩
    rw [a1, bd_ok, one0]
    by_cases c : R.1 = true
    · rw [if_pos c, if_pos c]
    · rw [if_neg c, if_neg c]
  unfold b_X4_read_d_15 pLn
  rw [if_neg (show ¬ (600 : Int32) ≤ nI i from nI_ge (a := i) (b := 600) hi (by omega)), if_neg (by decide), if_neg (fun q => h4 ((kC4 h.2.2.1).mp q)), nI_1, isWord_c h.1 h.2.1 h.2.2.1 (k := 0) (by decide), bd_ok, one0]
  by_cases c0 : wrd tx N 0 A
  · rw [if_pos c0, if_pos c0, h.2.2.2.1 0 (by decide)]
    by_cases n0 : E.1 0 < 12
    · rw [if_neg (show ¬ (12 : Int32) ≤ nI (E.1 0) from nI_ge (a := E.1 0) (b := 12) n0 (by omega)), if_pos n0]
      exact yes _ _ (point_c h hB n0)
    · rw [if_pos (show (12 : Int32) ≤ nI (E.1 0) from nI_le (a := 12) (b := E.1 0) (by omega) (by omega)), if_neg n0]
      exact no _ rfl
  · rw [if_neg c0, if_neg c0, isWord_c h.1 h.2.1 h.2.2.1 (k := 3) (by decide), bd_ok, one0]
    by_cases c1 : wrd tx N 3 A
    · rw [if_pos c1, if_pos c1, h.2.2.2.1 1 (by decide)]
      by_cases n0 : E.1 1 < 24
      · rw [if_neg (show ¬ (24 : Int32) ≤ nI (E.1 1) from nI_ge (a := E.1 1) (b := 24) n0 (by omega)), if_pos n0]
        exact yes _ _ (arc_c h hB n0)
      · rw [if_pos (show (24 : Int32) ≤ nI (E.1 1) from nI_le (a := 24) (b := E.1 1) (by omega) (by omega)), if_neg n0]
        exact no _ rfl
    · rw [if_neg c1, if_neg c1, isWord_c h.1 h.2.1 h.2.2.1 (k := 6) (by decide), bd_ok, one0]
      by_cases c2 : wrd tx N 6 A
      · rw [if_pos c2, if_pos c2, h.2.2.2.1 2 (by decide)]
        by_cases n0 : E.1 2 < 12
        · rw [if_neg (show ¬ (12 : Int32) ≤ nI (E.1 2) from nI_ge (a := E.1 2) (b := 12) n0 (by omega)), if_pos n0]
          exact yes _ _ (window_c h hB n0)
        · rw [if_pos (show (12 : Int32) ≤ nI (E.1 2) from nI_le (a := 12) (b := E.1 2) (by omega) (by omega)), if_neg n0]
          exact no _ rfl
      · rw [if_neg c2, if_neg c2, isWord_c h.1 h.2.1 h.2.2.1 (k := 8) (by decide), bd_ok, one0]
        by_cases c3 : wrd tx N 8 A
        · rw [if_pos c3, if_pos c3, h.2.2.2.1 3 (by decide)]
          by_cases n0 : E.1 3 < 8
          · rw [if_neg (show ¬ (8 : Int32) ≤ nI (E.1 3) from nI_ge (a := E.1 3) (b := 8) n0 (by omega)), if_pos n0]
            exact yes _ _ (rule_c h hB n0)
          · rw [if_pos (show (8 : Int32) ≤ nI (E.1 3) from nI_le (a := 8) (b := E.1 3) (by omega) (by omega)), if_neg n0]
            exact no _ rfl
        · rw [if_neg c3, if_neg c3]
          exact no _ rfl
theorem r192_c {tx : Nat → Int32} {N A : Nat} {E : Dt} {s : St} (h : SC tx N A E s) (hB : BE E) : j_X4_read_d_192 1 s = some (if E.1 0 = 0 then nI N else -1, s) := by
  have hb := hB.1
  unfold j_X4_read_d_192
  rw [if_neg (by decide), h.2.2.2.1 0 (by decide), h.2.1.2.1]
  by_cases z : E.1 0 = 0
  · rw [if_pos (show nI (E.1 0) = (0 : Int32) by rw [z]; rfl), if_pos z]
  · rw [if_neg (show ¬ nI (E.1 0) = (0 : Int32) from nI_ne0 (n := E.1 0) (by omega) (by omega)), if_neg z]
theorem read15_l {tx : Nat → Int32} {N : Nat} : ∀ (d i n : Nat) (E : Dt) (A : Nat) (s : St), N ≤ A + d → d + 2 ≤ n → i ≤ A → SC tx N A E s → BE E → ∃ u, l_X4_read_d_15 n 1 (nI i) s = some (ansR N (pRun tx N d E A), u) ∧ Kp KC s u ∧ (TxC tx N u ∧ (pRun tx N d E A).2.1 ≤ N) ∧ ((pRun tx N d E A).1 = true → DC tx N (pRun tx N d E A).2.2 u ∧ BE (pRun tx N d E A).2.2) := by
  have over : ∀ (i n : Nat) (E : Dt) (A : Nat) (s : St), i ≤ A → kdA tx N A = 4 → SC tx N A E s → BE E → ∃ u, l_X4_read_d_15 (n + 1) 1 (nI i) s = some (ansR N (true, A, E), u) ∧ Kp KC s u ∧ (TxC tx N u ∧ (true, A, E).2.1 ≤ N) ∧ ((true, A, E).1 = true → DC tx N (true, A, E).2.2 u ∧ BE (true, A, E).2.2) := fun i n E A s hi h4 h hB => by
    refine ⟨s, ?_, Kp.rf, ⟨h.2.1, h.1⟩, fun _ => ⟨h.2.2.2, hB⟩⟩
    show b_X4_read_d_15 (l_X4_read_d_15 n) 1 (nI i) s = some (if E.1 0 = 0 then nI N else -1, s)
    unfold b_X4_read_d_15
    rw [r192_c h hB, if_neg (show ¬ (1 : Int32) = 0 by decide), if_pos ((kC4 h.2.2.1).mpr h4), ite_self]
  intro d
  induction d with
  | zero =>
    intro i n E A s hd hn hi h hB
    obtain ⟨n, rfl⟩ : ∃ m, n = m + 1 := ⟨n - 1, by omega⟩
    have hA := h.1
    exact over i n E A s hi ((kdA_4 tx N A).mpr (by omega)) h hB
  | succ d ih =>
    intro i n E A s hd hn hi h hB
    obtain ⟨n, rfl⟩ : ∃ m, n = m + 1 := ⟨n - 1, by omega⟩
    have hA := h.1
    have hN := h.2.1.1
    have er : pRun tx N (d + 1) E A = if kdA tx N A = 4 then (true, A, E) else if (pLn tx N E A).1 = true then pRun tx N d (pLn tx N E A).2.2 (pLn tx N E A).2.1 else (false, (pLn tx N E A).2.1, E) := rfl
    rw [er]
    by_cases h4 : kdA tx N A = 4
    · rw [if_pos h4]
      exact over i n E A s hi h4 h hB
    · rw [if_neg h4]
      have hlt : A < N := by
        by_cases e : A = N
        · exact absurd ((kdA_4 tx N A).mpr e) h4
        · omega
      obtain ⟨u, a1, a2, a3, a4, a5, a6⟩ := step_c h hB h4 (i := i) (by omega) (l_X4_read_d_15 n)
      have hst : l_X4_read_d_15 (n + 1) 1 (nI i) s = _ := a1
      rw [hst]
      by_cases c : (pLn tx N E A).1 = true
      · obtain ⟨g1, g2⟩ := pLn_good hB hA c
        rw [if_pos c, if_pos c]
        obtain ⟨w, b1, b2, b3, b4⟩ := ih (i + 1) n (pLn tx N E A).2.2 (pLn tx N E A).2.1 u (by omega) (by omega) (by omega) ⟨a3, a4, a5, a6 c⟩ g1
        exact ⟨w, b1, a2.tr b2, b3, b4⟩
      · rw [if_neg c, if_neg c]
        obtain ⟨n, rfl⟩ : ∃ m, n = m + 1 := ⟨n - 1, by omega⟩
        refine ⟨u, ?_, a2, ⟨a4, a3⟩, fun q => Bool.noConfusion q⟩
        show b_X4_read_d_15 (l_X4_read_d_15 n) 0 (nI (i + 1)) u = some (nI (pLn tx N E A).2.1, u)
        unfold b_X4_read_d_15
        rw [show j_X4_read_d_192 0 u = some (nI (pLn tx N E A).2.1, u) by unfold j_X4_read_d_192; rw [if_pos rfl, a5.2.1], if_pos (c := (0 : Int32) = 0) rfl, ite_self]
def E0 : Dt := (fun _ => 0, fun _ _ => 0)
theorem BE_E0 : BE E0 := ⟨by decide, fun p hp => absurd hp (Nat.not_lt_zero p), fun p hp => absurd hp (Nat.not_lt_zero p), fun p hp => absurd hp (Nat.not_lt_zero p), fun p hp => absurd hp (Nat.not_lt_zero p)⟩
def rdR (tx : Nat → Int32) (N : Nat) : Ln := pRun tx N N E0 (rnQ (qB tx) N 0)
theorem read_c {tx : Nat → Int32} {N : Nat} {s : St} (ht : TxC tx N s) : ∃ u, f_X4_read_d s = some (ansR N (rdR tx N), u) ∧ Kp KC s u ∧ (rdR tx N).2.1 ≤ N ∧ ((rdR tx N).1 = true → DC tx N (rdR tx N).2.2 u ∧ BE (rdR tx N).2.2) := by
  have hN := ht.1
  have k1 : Kp [18] s (wI (wI (wI (wI s 18 0 0) 18 1 0) 18 2 0) 18 3 0) := Kp_wI (Kp_wI (Kp_wI (Kp_wI Kp.rf (by decide) _ _) (by decide) _ _) (by decide) _ _) (by decide) _ _
  have d1 : DC tx N E0 (wI (wI (wI (wI s 18 0 0) 18 1 0) 18 2 0) 18 3 0) := ⟨fun k hk => by
    have : k = 0 ∨ k = 1 ∨ k = 2 ∨ k = 3 := by omega
    rcases this with rfl | rfl | rfl | rfl
    · rw [rI_nj (by decide), rI_nj (by decide), rI_nj (by decide), rI_same]; rfl
    · rw [rI_nj (by decide), rI_nj (by decide), rI_same]; rfl
    · rw [rI_nj (by decide), rI_same]; rfl
    · rw [rI_same]; rfl, fun q hq i hi => absurd hi (Nat.not_lt_zero i), fun i hi => absurd hi (Nat.not_lt_zero i), fun i hi => absurd hi (Nat.not_lt_zero i)⟩
  have k2 := Kp_wI (k1.mono (b := [7, 18]) (by decide)) (k := 7) (by decide) 3 0
  obtain ⟨u, a1, a2, a3⟩ := adv_from (tx := tx) (N := N) (b := 0) (by omega) (ht.kp k2 (by decide) (by decide)) (rI_same _ _ _ _)
  have k3 : Kp [7] (wI (wI (wI (wI s 18 0 0) 18 1 0) 18 2 0) 18 3 0) (wI (wI (wI (wI (wI s 18 0 0) 18 1 0) 18 2 0) 18 3 0) 7 3 0) := Kp_wI Kp.rf (by decide) _ _
  have hS : SC tx N (rnQ (qB tx) N 0) E0 u := ⟨by have := (rnQ_spec (qB tx) N 0).2.1; omega, (ht.kp k2 (by decide) (by decide)).kp a2 (by decide) (by decide), a3, (d1.kp k3 (by decide)).kp a2 (by decide)⟩
  obtain ⟨w, b1, b2, b3, b4⟩ := read15_l (tx := tx) (N := N) N 0 FU E0 (rnQ (qB tx) N 0) u (by omega) (show N + 2 ≤ 10000 by omega) (Nat.zero_le _) hS BE_E0
  refine ⟨w, ?_, (k2.mono (by decide)).tr ((a2.mono (by decide)).tr b2), b3.2, b4⟩
  unfold f_X4_read_d
  rw [show f_X3_clear_d s = some ((), wI (wI (wI (wI s 18 0 0) 18 1 0) 18 2 0) 18 3 0) from rfl, bd_ok]
  unfold f_X9_restart
  show bd (bd (f_X9_advance (wI (wI (wI (wI (wI s 18 0 0) 18 1 0) 18 2 0) 18 3 0) 7 3 0)) _) _ = _
  rw [a1, bd_ok, bd_ok]
  exact b1
/-! the reference -/
theorem line_m {tx : Nat → Int32} {N A : Nat} {E : Dt} {s : St} (h : SM tx N A E s) (hB : BE E) : LnM tx N s (f_X11_line s) (pLn tx N E A) := by
  have hb := hB.1
  have yes : ∀ (f : Option (Int32 × St)) (R : Ln), LnM tx N s f R → LnM tx N s (bd f fun r t => gb r (some (r, t))) R := fun f R hl => by
    obtain ⟨u, a1, a2⟩ := hl
    refine ⟨u, ?_, a2⟩
    rw [a1, bd_ok]
    by_cases c : R.1 = true
    · rw [if_pos c, gb_1]
    · rw [if_neg c, gb_0]
  have yes2 : ∀ (f : Option (Int32 × St)) (R : Ln), LnM tx N s f R → LnM tx N s (bd f fun r t => if r = 0 then some (0, t) else some (1, t)) R := fun f R hl => by
    obtain ⟨u, a1, a2⟩ := hl
    refine ⟨u, ?_, a2⟩
    rw [a1, bd_ok, one0]
    by_cases c : R.1 = true
    · rw [if_pos c, if_pos c]
    · rw [if_neg c, if_neg c]
  have no : ∀ (f : Option (Int32 × St)), f = some (0, s) → LnM tx N s f (false, A, E) := fun f e => LnM_n h Km.rf e
  unfold f_X11_line pLn
  rw [isWord_m h.1 h.2.2.1 (k := 0) (by decide), bd_ok, one0]
  by_cases c0 : wrd tx N 0 A
  · rw [if_pos c0, if_pos c0]
    by_cases n0 : E.1 0 < 12
    · rw [if_pos n0]; exact yes _ _ (point_m h hB n0)
    · rw [if_neg n0]
      exact yes _ _ (no _ (by unfold f_X11_pointLine; rw [h.2.2.2.1 (6, 0) (by decide), if_pos (show nI (E.1 0) = (12 : Int32) by rw [show E.1 0 = 12 by omega]; rfl)]))
  · rw [if_neg c0, if_neg c0, isWord_m h.1 h.2.2.1 (k := 3) (by decide), bd_ok, one0]
    by_cases c1 : wrd tx N 3 A
    · rw [if_pos c1, if_pos c1]
      by_cases n0 : E.1 1 < 24
      · rw [if_pos n0]; exact yes _ _ (arc_m h hB n0)
      · rw [if_neg n0]
        exact yes _ _ (no _ (by unfold f_X11_arcLine; rw [h.2.2.2.1 (9, 1) (by decide), if_pos (show nI (E.1 1) = (24 : Int32) by rw [show E.1 1 = 24 by omega]; rfl)]))
    · rw [if_neg c1, if_neg c1, isWord_m h.1 h.2.2.1 (k := 6) (by decide), bd_ok, one0]
      by_cases c2 : wrd tx N 6 A
      · rw [if_pos c2, if_pos c2]
        by_cases n0 : E.1 2 < 12
        · rw [if_pos n0]; exact yes _ _ (window_m h hB n0)
        · rw [if_neg n0]
          exact yes _ _ (no _ (by unfold f_X11_windowLine; rw [h.2.2.2.1 (13, 2) (by decide), if_pos (show nI (E.1 2) = (12 : Int32) by rw [show E.1 2 = 12 by omega]; rfl)]))
      · rw [if_neg c2, if_neg c2, isWord_m h.1 h.2.2.1 (k := 8) (by decide), bd_ok, one0]
        by_cases c3 : wrd tx N 8 A
        · rw [if_pos c3, if_pos c3]
          by_cases n0 : E.1 3 < 8
          · rw [if_pos n0]; exact yes2 _ _ (rule_m h hB n0)
          · rw [if_neg n0]
            exact yes2 _ _ (no _ (by unfold f_X11_ruleLine; rw [h.2.2.2.1 (16, 3) (by decide), if_pos (show nI (E.1 3) = (8 : Int32) by rw [show E.1 3 = 8 by omega]; rfl)]))
        · rw [if_neg c3, if_neg c3]
          exact no _ rfl
theorem fault29_l {tx : Nat → Int32} {N : Nat} : ∀ (d n : Nat) (E : Dt) (A : Nat) (s : St), N ≤ A + d → d < n → SM tx N A E s → BE E → ∃ u, l_X11_fault_29 n s = some (ansR N (pRun tx N d E A), u) ∧ Km s u ∧ TxM tx N u ∧ ((pRun tx N d E A).1 = true → DM (pRun tx N d E A).2.2 u) := by
  have over : ∀ (n : Nat) (E : Dt) (A : Nat) (s : St), kdA tx N A = 4 → SM tx N A E s → BE E → ∃ u, l_X11_fault_29 (n + 1) s = some (ansR N (true, A, E), u) ∧ Km s u ∧ TxM tx N u ∧ ((true, A, E).1 = true → DM (true, A, E).2.2 u) := fun n E A s h4 h hB => by
    have hb := hB.1
    refine ⟨s, ?_, Km.rf, h.2.1, fun _ => h.2.2.2⟩
    show b_X11_fault_29 (l_X11_fault_29 n) s = some (if E.1 0 = 0 then nI N else -1, s)
    unfold b_X11_fault_29
    rw [if_pos ((kM4 h.2.2.1).mpr h4), h.2.2.2.1 (6, 0) (by decide), h.2.2.1.2.1, (kdA_4 tx N A).mp h4]
    by_cases z : E.1 0 = 0
    · rw [if_pos (show nI (E.1 0) = (0 : Int32) by rw [z]; rfl), if_pos z]
    · rw [if_neg (show ¬ nI (E.1 0) = (0 : Int32) from nI_ne0 (n := E.1 0) (by omega) (by omega)), if_neg z]
  intro d
  induction d with
  | zero =>
    intro n E A s hd hn h hB
    obtain ⟨n, rfl⟩ : ∃ m, n = m + 1 := ⟨n - 1, by omega⟩
    have hA := h.1
    exact over n E A s ((kdA_4 tx N A).mpr (by omega)) h hB
  | succ d ih =>
    intro n E A s hd hn h hB
    obtain ⟨n, rfl⟩ : ∃ m, n = m + 1 := ⟨n - 1, by omega⟩
    have hA := h.1
    have er : pRun tx N (d + 1) E A = if kdA tx N A = 4 then (true, A, E) else if (pLn tx N E A).1 = true then pRun tx N d (pLn tx N E A).2.2 (pLn tx N E A).2.1 else (false, (pLn tx N E A).2.1, E) := rfl
    rw [er]
    by_cases h4 : kdA tx N A = 4
    · rw [if_pos h4]
      exact over n E A s h4 h hB
    · rw [if_neg h4]
      obtain ⟨u, a1, a2, a3, a4, a5, a6⟩ := line_m h hB
      have hst : l_X11_fault_29 (n + 1) s = if (pLn tx N E A).1 = true then l_X11_fault_29 n u else some (rI u 74 4, u) := by
        show b_X11_fault_29 (l_X11_fault_29 n) s = _
        unfold b_X11_fault_29
        rw [if_neg (fun q => h4 ((kM4 h.2.2.1).mp q)), a1, bd_ok, one0]
      rw [hst]
      by_cases c : (pLn tx N E A).1 = true
      · obtain ⟨g1, g2⟩ := pLn_good hB hA c
        rw [if_pos c, if_pos c]
        obtain ⟨w, b1, b2, b3, b4⟩ := ih n (pLn tx N E A).2.2 (pLn tx N E A).2.1 u (by omega) (by omega) ⟨a3, a4, a5, a6 c⟩ g1
        exact ⟨w, b1, a2.tr b2, b3, b4⟩
      · rw [if_neg c, if_neg c]
        refine ⟨u, ?_, a2, a4, fun q => Bool.noConfusion q⟩
        rw [a5.2.1]
        rfl
theorem fault_m {tx : Nat → Int32} {N : Nat} {s : St} (ht : TxM tx N s) : ∃ u, f_X11_fault s = some (ansR N (rdR tx N), u) ∧ Km s u ∧ ((rdR tx N).1 = true → DM (rdR tx N).2.2 u) := by
  have hN := ht.1
  have k1 : Km s (wI (wI (wI (wI (wI s 74 6 0) 74 9 0) 74 13 0) 74 16 0) 74 2 0) := ((((Km_74 (by decide) _).tr (Km_74 (by decide) _)).tr (Km_74 (by decide) _)).tr (Km_74 (by decide) _)).tr (Km_74 (by decide) _)
  have t1 : TxM tx N (wI (wI (wI (wI (wI s 74 6 0) 74 9 0) 74 13 0) 74 16 0) 74 2 0) := ⟨hN, by rw [k1.2 1 (by decide)]; exact ht.2.1, fun j hj => by rw [Kp_rI k1.1 (by decide)]; exact ht.2.2 j hj⟩
  have d1 : DM E0 (wI (wI (wI (wI (wI s 74 6 0) 74 9 0) 74 13 0) 74 16 0) 74 2 0) := ⟨fun q hq => by
    simp only [scaF, List.mem_cons, List.not_mem_nil, or_false] at hq
    rcases hq with rfl | rfl | rfl | rfl
    · rw [rI_nj (by decide), rI_nj (by decide), rI_nj (by decide), rI_nj (by decide), rI_same]; rfl
    · rw [rI_nj (by decide), rI_nj (by decide), rI_nj (by decide), rI_same]; rfl
    · rw [rI_nj (by decide), rI_nj (by decide), rI_same]; rfl
    · rw [rI_nj (by decide), rI_same]; rfl, fun q hq i hi => absurd hi (Nat.not_lt_zero i), fun i hi => absurd hi (Nat.not_lt_zero i), fun i hi => absurd hi (Nat.not_lt_zero i)⟩
  obtain ⟨u, a1, a2, a3⟩ := next_from (tx := tx) (N := N) (b := 0) (by omega) t1 (rI_same _ _ _ _)
  have hS : SM tx N (rnQ (qB tx) N 0) E0 u := ⟨by have := (rnQ_spec (qB tx) N 0).2.1; omega, t1.nk a2, a3, d1.nk a2⟩
  obtain ⟨w, b1, b2, b3, b4⟩ := fault29_l (tx := tx) (N := N) N FU E0 (rnQ (qB tx) N 0) u (by omega) (FU_lt (by omega)) hS BE_E0
  refine ⟨w, ?_, k1.tr ((Km_nk a2).tr b2), b4⟩
  unfold f_X11_fault
  show bd (f_X11_next (wI (wI (wI (wI (wI s 74 6 0) 74 9 0) 74 13 0) 74 16 0) 74 2 0)) _ = _
  rw [a1, bd_ok]
  exact b1
theorem RM.km {D : Dt} {tx : Nat → Int32} {s t : St} (h : RM D tx s) (hk : Km s t) : RM D tx t := h.keep (fun k hm => hk.1 k (by
  simp only [List.mem_cons, List.not_mem_nil, or_false] at hm ⊢
  omega)) (fun j hj => hk.2 j (by
  simp only [List.mem_cons, List.not_mem_nil, or_false] at hj ⊢
  omega))
theorem TxC_of {D : Dt} {tx : Nat → Int32} {s : St} (hB : Bd D) (h : RC D tx s) : TxC tx (D.1 7) s := ⟨hB.1.2.2.2.2.2.2.2, h.1 (1, 1, 7) (by decide), h.2.2.2.2⟩
theorem TxM_of {D : Dt} {tx : Nat → Int32} {s : St} (hB : Bd D) (h : RM D tx s) : TxM tx (D.1 7) s := ⟨hB.1.2.2.2.2.2.2.2, h.1 (74, 1, 7) (by decide), h.2.2.2⟩
theorem Km_ge {s t : St} (h : Km s t) : Kp [74, 76, 77, 78, 79, 80, 81, 82, 83, 96] s t := h.1
theorem call_fault {D : Dt} {tx : Nat → Int32} {s : St} (h : Rel D tx s) : Ok f_X10_fault f_X11_fault s := by
  obtain ⟨hB, hR, hS⟩ := h
  obtain ⟨u, a1, a2, _, a3⟩ := read_c (TxC_of hB hR)
  have hR1 : RC D tx u := hR.kp a2 (by decide)
  have hS1 : RM D tx u := RM_kpC hS a2 (by decide)
  obtain ⟨v, b1, b2, b3⟩ := fault_m (TxM_of hB hS1)
  refine ⟨_, u, v, D, tx, ?_, b1, hB, RC_kpM hR1 (Km_ge b2) (by decide), hS1.km b2⟩
  unfold f_X10_fault
  rw [a1, bd_ok]
