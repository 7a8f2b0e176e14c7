/-! ===== the reader: the draft, names, what is taken ===== -/
def NmC (tx : Nat → Int32) (N x : Nat) (ra rb : Int32) : Prop := ∃ a b, a < b ∧ b ≤ N ∧ b - a ≤ 8 ∧ (∀ j, j < b - a → qL tx (a + j) = true) ∧ ra = nI a ∧ rb = nI b ∧ pkN (fun k => ltN tx (a + k)) (b - a) = x
def arrE : List (Nat × Nat × Nat) := [(19, 0, 0), (20, 1, 1), (21, 2, 1), (22, 3, 1), (23, 4, 2), (24, 5, 2), (25, 6, 3), (26, 7, 3)]
def arrF : List (Nat × Nat × Nat) := [(77, 0, 0), (78, 1, 1), (79, 2, 1), (80, 3, 1), (81, 4, 2), (82, 5, 2)]
def scaF : List (Nat × Nat) := [(6, 0), (9, 1), (13, 2), (16, 3)]
def DC (tx : Nat → Int32) (N : Nat) (E : Dt) (s : St) : Prop := (∀ k, k < 4 → rI s 18 k = nI (E.1 k)) ∧ (∀ q ∈ arrE, ∀ i, i < E.1 q.2.2 → rI s q.1 i = nI (E.2 q.2.1 i)) ∧ (∀ i, i < E.1 3 → rI s 27 i = nI (E.2 8 i) - 1) ∧ ∀ p, p < E.1 0 → NmC tx N (E.2 20 p) (rI s 4 p) (rI s 5 p)
def DM (E : Dt) (s : St) : Prop := (∀ q ∈ scaF, rI s 74 q.1 = nI (E.1 q.2)) ∧ (∀ q ∈ arrF, ∀ i, i < E.1 q.2.2 → rI s q.1 i = nI (E.2 q.2.1 i)) ∧ (∀ i, i < E.1 3 → rI s 83 (3 * i) = nI (E.2 6 i) ∧ rI s 83 (3 * i + 1) = nI (E.2 7 i) ∧ rI s 83 (3 * i + 2) = nI (E.2 8 i) - 1) ∧ ∀ p, p < E.1 0 → rL s 76 p = lN (E.2 20 p)
def BE (E : Dt) : Prop := (E.1 0 ≤ 12 ∧ E.1 1 ≤ 24 ∧ E.1 2 ≤ 12 ∧ E.1 3 ≤ 8) ∧ (∀ p, p < E.1 0 → E.2 0 p ≤ 1 ∧ nmP (E.2 20 p) ∧ E.2 20 p < 2 ^ 63) ∧ (∀ a, a < E.1 1 → E.2 1 a < E.1 0 ∧ E.2 2 a < E.1 0 ∧ E.2 3 a ≤ 60) ∧ (∀ w, w < E.1 2 → E.2 4 w < E.1 0 ∧ E.2 5 w ≤ 60) ∧ ∀ r, r < E.1 3 → E.2 6 r < E.1 2 ∧ E.2 7 r < E.1 2 ∧ E.2 8 r ≤ E.1 2
theorem DC.kp {tx : Nat → Int32} {N : Nat} {E : Dt} {s t : St} (h : DC tx N E s) {ks : List Nat} (hk : Kp ks s t) (hd : ∀ k, k ∈ [4, 5, 18, 19, 20, 21, 22, 23, 24, 25, 26, 27] → k ∉ ks) : DC tx N E t := by
  obtain ⟨h1, h2, h3, h4⟩ := h
  refine ⟨fun k hk4 => by rw [Kp_rI hk (hd 18 (by decide))]; exact h1 k hk4, fun q hq i hi => ?_, fun i hi => by rw [Kp_rI hk (hd 27 (by decide))]; exact h3 i hi, fun p hp => by rw [Kp_rI hk (hd 4 (by decide)), Kp_rI hk (hd 5 (by decide))]; exact h4 p hp⟩
  rw [Kp_rI hk (hd q.1 (by
    simp only [arrE, List.mem_cons, List.not_mem_nil, or_false] at hq
    rcases hq with rfl | rfl | rfl | rfl | rfl | rfl | rfl | rfl <;> decide))]
  exact h2 q hq i hi
theorem DM.nk {E : Dt} {s t : St} (h : DM E s) (hk : Nk s t) : DM E t := by
  obtain ⟨h1, h2, h3, h4⟩ := h
  refine ⟨fun q hq => ?_, fun q hq i hi => ?_, fun i hi => by rw [Kp_rI hk.1 (by decide), Kp_rI hk.1 (by decide), Kp_rI hk.1 (by decide)]; exact h3 i hi, fun p hp => by rw [hk.2.2]; exact h4 p hp⟩
  · rw [← h1 q hq]
    simp only [scaF, List.mem_cons, List.not_mem_nil, or_false] at hq
    rcases hq with rfl | rfl | rfl | rfl <;> exact hk.2.1 _ (by decide) (by decide) (by decide)
  · rw [← h2 q hq i hi]
    simp only [arrF, List.mem_cons, List.not_mem_nil, or_false] at hq
    rcases hq with rfl | rfl | rfl | rfl | rfl | rfl <;> exact Kp_rI hk.1 (by decide) _
def SC (tx : Nat → Int32) (N A : Nat) (E : Dt) (s : St) : Prop := A ≤ N ∧ TxC tx N s ∧ TkC tx N A s ∧ DC tx N E s
def SM (tx : Nat → Int32) (N A : Nat) (E : Dt) (s : St) : Prop := A ≤ N ∧ TxM tx N s ∧ TkM tx N A s ∧ DM E s
theorem adv_S {tx : Nat → Int32} {N A : Nat} {E : Dt} {s : St} (h : SC tx N A E s) : ∃ u, f_X9_advance s = some ((), u) ∧ Kp [7] s u ∧ SC tx N (nxA tx N A) E u := by
  obtain ⟨hA, ht, hk, hd⟩ := h
  obtain ⟨u, a1, a2, a3⟩ := adv_c hA ht hk
  exact ⟨u, a1, a2, (nxA_in tx hA).1, ht.kp a2 (by decide) (by decide), a3, hd.kp a2 (by decide)⟩
theorem next_S {tx : Nat → Int32} {N A : Nat} {E : Dt} {s : St} (h : SM tx N A E s) : ∃ u, f_X11_next s = some ((), u) ∧ Nk s u ∧ SM tx N (nxA tx N A) E u := by
  obtain ⟨hA, ht, hk, hd⟩ := h
  obtain ⟨u, a1, a2, a3⟩ := next_m hA ht hk
  exact ⟨u, a1, a2, (nxA_in tx hA).1, ht.nk a2, a3, hd.nk a2⟩
theorem SC.kp {tx : Nat → Int32} {N A : Nat} {E : Dt} {s t : St} (h : SC tx N A E s) {ks : List Nat} (hk : Kp ks s t) (hd : ∀ k, k ∈ [1, 2, 4, 5, 7, 18, 19, 20, 21, 22, 23, 24, 25, 26, 27] → k ∉ ks) : SC tx N A E t :=
  ⟨h.1, h.2.1.kp hk (hd 1 (by decide)) (hd 2 (by decide)), h.2.2.1.kp hk (hd 7 (by decide)), h.2.2.2.kp hk (fun k hm => hd k (by
    simp only [List.mem_cons, List.not_mem_nil, or_false] at hm ⊢
    omega))⟩
/-! names -/
def fpN (E : Dt) (x : Nat) : Nat := fa_first (fun p => decide (E.2 20 p = x)) (E.1 0)
abbrev hsP (tx : Nat → Int32) (N : Nat) (E : Dt) (A : Nat) : Prop := kdA tx N A = 0 ∧ fpN E (wdA tx N A) < E.1 0
theorem named37_l {tx : Nat → Int32} {N A : Nat} (hA : A ≤ N) (h0 : kdA tx N A = 0) {s : St} (ht : TxC tx N s) (h2 : rI s 7 2 = nI A) {p a b : Nat} (hp : p < 12) (hab : a < b) (hb : b ≤ N) (h8 : b - a ≤ 8) (hq : ∀ j, j < b - a → qL tx (a + j) = true) (h4 : rI s 4 p = nI a) (hl : enA tx N A - A = b - a) : ∀ (d i n : Nat), i + d = b - a → d < n → (∀ j, j < i → ltN tx (A + j) = ltN tx (a + j)) → l_X4_isNamed_37 n (nI p) (nI (b - a)) (nI i) s = some (if wdA tx N A = pkN (fun k => ltN tx (a + k)) (b - a) then 1 else 0, s) := by
  obtain ⟨w1, w2, w3⟩ := wordL hA h0
  have hN := ht.1
  have he : wdA tx N A = pkN (fun k => ltN tx (a + k)) (b - a) ↔ enA tx N A - A = b - a ∧ ∀ j, j < b - a → ltN tx (A + j) = ltN tx (a + j) := wd_eq hA h0 (by omega) h8 (fun j hj => by have := qL_lt (hq j hj); omega)
  intro d
  induction d with
  | zero =>
    intro i n hi hn hno
    obtain ⟨n, rfl⟩ : ∃ m, n = m + 1 := ⟨n - 1, by omega⟩
    show b_X4_isNamed_37 (l_X4_isNamed_37 n) _ _ (nI i) s = _
    unfold b_X4_isNamed_37
    rw [if_pos (nI_le (a := b - a) (b := i) (by omega) (by omega)), if_pos (he.mpr ⟨hl, fun j hj => hno j (by omega)⟩)]
  | succ d ih =>
    intro i n hi hn hno
    obtain ⟨n, rfl⟩ : ∃ m, n = m + 1 := ⟨n - 1, by omega⟩
    have hlt : i < b - a := by omega
    have q1 := qL_lt (w3 i (by omega))
    have q2 := qL_lt (hq i hlt)
    show b_X4_isNamed_37 (l_X4_isNamed_37 n) _ _ (nI i) s = _
    unfold b_X4_isNamed_37
    rw [if_neg (nI_ge (a := i) (b := b - a) hlt (by omega)), gi_nI (j := p) (n := 12) hp (by decide), cl_nI (n := p) (by omega), h4, nI_add, signAt_c ht (j := a + i) (by omega), bd_ok, h2, nI_add, signAt_c ht (j := A + i) (by omega), bd_ok, q1.2.2, q2.2.2]
    by_cases c : ltN tx (A + i) = ltN tx (a + i)
    · rw [if_pos (by rw [c]), nI_1]
      refine ih (i + 1) n (by omega) (by omega) (fun j hj => ?_)
      by_cases e : j = i
      · rw [e]; exact c
      · exact hno j (by omega)
    · rw [if_neg (fun q => c ((nI_eq (by omega) (by omega)).mp q).symm), if_neg (fun q => c ((he.mp q).2 i hlt))]
theorem isNamed_c {tx : Nat → Int32} {N A : Nat} {E : Dt} {s : St} (h : SC tx N A E s) (hB : BE E) (h0 : kdA tx N A = 0) {p : Nat} (hp : p < E.1 0) : f_X4_isNamed (nI p) s = some (if E.2 20 p = wdA tx N A then 1 else 0, s) := by
  obtain ⟨hA, ht, hk, hd⟩ := h
  have hP := hB.1.1
  have hN := ht.1
  obtain ⟨w1, w2, w3⟩ := wordL hA h0
  obtain ⟨a, b, hab, hb, h8, hq, h4, h5, hx⟩ := hd.2.2.2 p hp
  unfold f_X4_isNamed
  rw [gi_nI (j := p) (n := 12) (by omega) (by decide), gi_nI (j := p) (n := 12) (by omega) (by decide), cl_nI (n := p) (by omega), h4, h5, pk_sub (by omega), hk.2.1, hk.2.2.1, pk_sub (by omega)]
  by_cases l : enA tx N A - A = b - a
  · have := named37_l hA h0 ht hk.2.1 (p := p) (by omega) hab hb h8 hq h4 l (b - a) 0 FU (by omega) (FU_lt (by omega)) (fun j hj => absurd hj (Nat.not_lt_zero j))
    rw [if_pos (by rw [l])]
    show l_X4_isNamed_37 FU (nI p) (nI (b - a)) (nI 0) s = _
    rw [this, hx]
    by_cases e : wdA tx N A = E.2 20 p
    · rw [if_pos e, if_pos e.symm]
    · rw [if_neg e, if_neg (fun q => e q.symm)]
  · rw [if_neg (fun q => l ((nI_eq (by omega) (by omega)).mp q)), if_neg]
    intro q
    rw [← hx] at q
    exact l ((wd_eq hA h0 (by omega) h8 (fun j hj => by have := qL_lt (hq j hj); omega)).mp q.symm).1
theorem first_at {q : Nat → Bool} {n i : Nat} (hi : i < n) (h : q i = true) (hno : ∀ j, j < i → q j = false) : fa_first q n = i := by
  have h1 := fa_first_no q n
  have h2 := fa_first_yes q n
  have h3 := fa_first_le q n
  by_cases c : fa_first q n < i
  · have := hno _ c
    rw [h2 (by omega)] at this
    cases this
  · by_cases c2 : i < fa_first q n
    · have := h1 i c2
      rw [h] at this
      cases this
    · omega
theorem first_none {q : Nat → Bool} {n : Nat} (hno : ∀ j, j < n → q j = false) : fa_first q n = n := by
  have h2 := fa_first_yes q n
  have h3 := fa_first_le q n
  by_cases c : fa_first q n < n
  · have := hno _ c
    rw [h2 c] at this
    cases this
  · omega
theorem findPoint_l {tx : Nat → Int32} {N A : Nat} {E : Dt} {s : St} (h : SC tx N A E s) (hB : BE E) : ∀ (d i n : Nat), i + d = E.1 0 → d < n → (kdA tx N A = 0 → ∀ j, j < i → E.2 20 j ≠ wdA tx N A) → l_X4_findPoint_2 n (nI (E.1 0)) (nI i) s = some (if hsP tx N E A then nI (fpN E (wdA tx N A)) else -1, s) := by
  have hP := hB.1.1
  intro d
  induction d with
  | zero =>
    intro i n hi hn hno
    obtain ⟨n, rfl⟩ : ∃ m, n = m + 1 := ⟨n - 1, by omega⟩
    show b_X4_findPoint_2 (l_X4_findPoint_2 n) _ (nI i) s = _
    unfold b_X4_findPoint_2
    rw [if_pos (nI_le (a := E.1 0) (b := i) (by omega) (by omega)), if_neg]
    intro q
    have e : fpN E (wdA tx N A) = E.1 0 := first_none (fun j hj => decide_eq_false (hno q.1 j (by omega)))
    have := q.2
    omega
  | succ d ih =>
    intro i n hi hn hno
    obtain ⟨n, rfl⟩ : ∃ m, n = m + 1 := ⟨n - 1, by omega⟩
    have hlt : i < E.1 0 := by omega
    show b_X4_findPoint_2 (l_X4_findPoint_2 n) _ (nI i) s = _
    unfold b_X4_findPoint_2
    rw [if_neg (nI_ge (a := i) (b := E.1 0) hlt (by omega))]
    by_cases c : kdA tx N A = 0
    · rw [if_pos ((kC0 h.2.2.1).mpr c), isNamed_c h hB c hlt, bd_ok, one0]
      by_cases e : E.2 20 i = wdA tx N A
      · have ef : fpN E (wdA tx N A) = i := first_at hlt (decide_eq_true e) (fun j hj => decide_eq_false (hno c j hj))
        rw [if_pos e, if_pos ⟨c, by omega⟩, ef]
      · rw [if_neg e, nI_1]
        refine ih (i + 1) n (by omega) (by omega) (fun _ j hj => ?_)
        by_cases ej : j = i
        · rw [ej]; exact e
        · exact hno c j (by omega)
    · rw [if_neg (fun q => c ((kC0 h.2.2.1).mp q)), nI_1]
      exact ih (i + 1) n (by omega) (by omega) (fun q => absurd q c)
theorem findPoint_c {tx : Nat → Int32} {N A : Nat} {E : Dt} {s : St} (h : SC tx N A E s) (hB : BE E) : f_X4_findPoint (nI (E.1 0)) s = some (if hsP tx N E A then nI (fpN E (wdA tx N A)) else -1, s) := by
  have hP := hB.1.1
  exact findPoint_l h hB (E.1 0) 0 FU (by omega) (FU_lt (by omega)) (fun _ j hj => absurd hj (Nat.not_lt_zero j))
theorem named_l {tx : Nat → Int32} {N A : Nat} {E : Dt} {s : St} (h : SM tx N A E s) (hB : BE E) : ∀ (d i n : Nat), i + d = E.1 0 → d < n → (kdA tx N A = 0 → ∀ j, j < i → E.2 20 j ≠ wdA tx N A) → l_X11_named_2 n (nI i) s = some (if hsP tx N E A then nI (fpN E (wdA tx N A)) else -1, s) := by
  have hP := hB.1.1
  obtain ⟨hA, ht, hk, hd⟩ := id h
  obtain ⟨n1, n2⟩ := isName_m hA hk
  intro d
  induction d with
  | zero =>
    intro i n hi hn hno
    obtain ⟨n, rfl⟩ : ∃ m, n = m + 1 := ⟨n - 1, by omega⟩
    show b_X11_named_2 (l_X11_named_2 n) (nI i) s = _
    unfold b_X11_named_2
    rw [hd.1 (6, 0) (by decide), if_pos (nI_le (a := E.1 0) (b := i) (by omega) (by omega)), if_neg]
    intro q
    have e : fpN E (wdA tx N A) = E.1 0 := first_none (fun j hj => decide_eq_false (hno q.1 j (by omega)))
    have := q.2
    omega
  | succ d ih =>
    intro i n hi hn hno
    obtain ⟨n, rfl⟩ : ∃ m, n = m + 1 := ⟨n - 1, by omega⟩
    have hlt : i < E.1 0 := by omega
    have hbi := hB.2.1 i hlt
    show b_X11_named_2 (l_X11_named_2 n) (nI i) s = _
    unfold b_X11_named_2
    rw [hd.1 (6, 0) (by decide), if_neg (nI_ge (a := i) (b := E.1 0) hlt (by omega))]
    by_cases c : kdA tx N A = 0 ∧ nmP (wdA tx N A)
    · rw [n1 c, bd_ok, if_neg (by decide), gi_nI (j := i) (n := 12) (by omega) (by decide), cl_nI (n := i) (by omega), hd.2.2.2 i hlt, hk.2.2.2.2 c.1]
      by_cases e : E.2 20 i = wdA tx N A
      · have ef : fpN E (wdA tx N A) = i := first_at hlt (decide_eq_true e) (fun j hj => decide_eq_false (hno c.1 j hj))
        rw [if_pos ((lg_cmp_eq _ _).mpr (by rw [e])), if_pos ⟨c.1, by omega⟩, ef]
      · rw [if_neg (fun q => e ((pk_lEQ hbi.2.2 (wd_lt hA c.1).1).mp ((lg_cmp_eq _ _).mp q))), nI_1]
        refine ih (i + 1) n (by omega) (by omega) (fun _ j hj => ?_)
        by_cases ej : j = i
        · rw [ej]; exact e
        · exact hno c.1 j (by omega)
    · rw [n2 c, bd_ok, if_pos rfl, if_neg]
      intro q
      have hy := fa_first_yes (fun p => decide (E.2 20 p = wdA tx N A)) (E.1 0) q.2
      have hy2 : E.2 20 (fpN E (wdA tx N A)) = wdA tx N A := of_decide_eq_true hy
      have := (hB.2.1 _ q.2).2.1
      rw [hy2] at this
      exact c ⟨q.1, this⟩
theorem named_m {tx : Nat → Int32} {N A : Nat} {E : Dt} {s : St} (h : SM tx N A E s) (hB : BE E) : f_X11_named s = some (if hsP tx N E A then nI (fpN E (wdA tx N A)) else -1, s) := by
  have hP := hB.1.1
  exact named_l h hB (E.1 0) 0 FU (by omega) (FU_lt (by omega)) (fun _ j hj => absurd hj (Nat.not_lt_zero j))
/-! what the class takes -/
abbrev nmb (tx : Nat → Int32) (N l h A : Nat) : Prop := kdA tx N A = 1 ∧ l ≤ vlA tx N A ∧ vlA tx N A < h
abbrev wrd (tx : Nat → Int32) (N k A : Nat) : Prop := kdA tx N A = 0 ∧ wdA tx N A = kw k
theorem takeNumber_y {tx : Nat → Int32} {N A : Nat} {E : Dt} {s : St} (h : SC tx N A E s) {l g : Nat} (hg : g ≤ 999) (hc : nmb tx N l g A) {x1 x2 : Int32} (e1 : x1 = nI l) (e2 : x2 = nI g - 1) : ∃ u, f_X4_takeNumber x1 x2 s = some (1, u) ∧ Kp [3, 7] s u ∧ rI u 3 5 = nI (vlA tx N A) ∧ SC tx N (nxA tx N A) E u := by
  obtain ⟨hA, ht, hk, hd⟩ := id h
  obtain ⟨cv, v1, v2, v3⟩ := hk.2.2.2 hc.1
  have ev : cv = vlA tx N A := by have := hc.2.2; omega
  subst ev
  have k1 : Kp [3] s (wI s 3 5 (nI (vlA tx N A))) := Kp_wI Kp.rf (by decide) _ _
  obtain ⟨u, a1, a2, a3⟩ := adv_S (h.kp k1 (by decide))
  refine ⟨u, ?_, (k1.mono (by decide)).tr (a2.mono (by decide)), by rw [Kp_rI a2 (by decide), rI_same], a3⟩
  have hle : nI (vlA tx N A) ≤ nI g - 1 := by
    rw [fa_le, nI_toInt (by omega), nI_pred_toInt (by omega)]
    have := hc.2.2
    omega
  unfold f_X4_takeNumber
  rw [if_pos ((kC1 hk).mpr hc.1), v2, e1, e2, if_neg (nI_nlt hc.2.1 (by omega)), if_pos hle]
  show bd (f_X9_advance (wI s 3 5 (nI (vlA tx N A)))) _ = _
  rw [a1, bd_ok]
theorem takeNumber_n {tx : Nat → Int32} {N A : Nat} {E : Dt} {s : St} (h : SC tx N A E s) {l g : Nat} (hl : l ≤ 999) (hg : g ≤ 999) (hc : ¬ nmb tx N l g A) {x1 x2 : Int32} (e1 : x1 = nI l) (e2 : x2 = nI g - 1) : f_X4_takeNumber x1 x2 s = some (0, s) := by
  obtain ⟨hA, ht, hk, hd⟩ := id h
  unfold f_X4_takeNumber
  by_cases c : kdA tx N A = 1
  · obtain ⟨cv, v1, v2, v3⟩ := hk.2.2.2 c
    rw [if_pos ((kC1 hk).mpr c), v2, e1, e2]
    by_cases c1 : cv < l
    · rw [if_pos (nI_lt c1 (by omega))]
    · rw [if_neg (nI_nlt (a := cv) (by omega) (by omega)), if_neg]
      intro q
      rw [fa_le, nI_toInt (by omega), nI_pred_toInt (by omega)] at q
      exact hc ⟨c, by omega, by omega⟩
  · rw [if_neg (fun q => c ((kC1 hk).mp q))]
theorem takeWord_y {tx : Nat → Int32} {N A : Nat} {E : Dt} {s : St} (h : SC tx N A E s) {k : Nat} (hk : k < 11) (hc : wrd tx N k A) : ∃ u, f_X4_takeWord k s = some (1, u) ∧ Kp [7] s u ∧ SC tx N (nxA tx N A) E u := by
  obtain ⟨u, a1, a2, a3⟩ := adv_S h
  refine ⟨u, ?_, a2, a3⟩
  unfold f_X4_takeWord
  rw [isWord_c h.1 h.2.1 h.2.2.1 hk, bd_ok, if_pos hc, if_neg (by decide), a1, bd_ok]
theorem takeWord_n {tx : Nat → Int32} {N A : Nat} {E : Dt} {s : St} (h : SC tx N A E s) {k : Nat} (hk : k < 11) (hc : ¬ wrd tx N k A) : f_X4_takeWord k s = some (0, s) := by
  unfold f_X4_takeWord
  rw [isWord_c h.1 h.2.1 h.2.2.1 hk, bd_ok, if_neg hc, if_pos rfl]
theorem takeSemi_y {tx : Nat → Int32} {N A : Nat} {E : Dt} {s : St} (h : SC tx N A E s) (hc : kdA tx N A = 2) : ∃ u, f_X4_takeSemicolon s = some (1, u) ∧ Kp [7] s u ∧ SC tx N (nxA tx N A) E u := by
  obtain ⟨u, a1, a2, a3⟩ := adv_S h
  refine ⟨u, ?_, a2, a3⟩
  unfold f_X4_takeSemicolon
  rw [if_pos ((kC2 h.2.2.1).mpr hc), a1, bd_ok]
theorem takeSemi_n {tx : Nat → Int32} {N A : Nat} {E : Dt} {s : St} (h : SC tx N A E s) (hc : ¬ kdA tx N A = 2) : f_X4_takeSemicolon s = some (0, s) := by
  unfold f_X4_takeSemicolon
  rw [if_neg (fun q => hc ((kC2 h.2.2.1).mp q))]
theorem takePoint_y {tx : Nat → Int32} {N A : Nat} {E : Dt} {s : St} (h : SC tx N A E s) (hB : BE E) (hc : hsP tx N E A) : ∃ u, f_X4_takePoint (rI s 18 0) s = some (1, u) ∧ Kp [3, 7] s u ∧ rI u 3 5 = nI (fpN E (wdA tx N A)) ∧ SC tx N (nxA tx N A) E u := by
  have hP := hB.1.1
  have hf := hc.2
  have k1 : Kp [3] s (wI s 3 5 (nI (fpN E (wdA tx N A)))) := Kp_wI Kp.rf (by decide) _ _
  obtain ⟨u, a1, a2, a3⟩ := adv_S (h.kp k1 (by decide))
  refine ⟨u, ?_, (k1.mono (by decide)).tr (a2.mono (by decide)), by rw [Kp_rI a2 (by decide), rI_same], a3⟩
  unfold f_X4_takePoint
  rw [h.2.2.2.1 0 (by decide), findPoint_c h hB, bd_ok, if_pos hc, if_neg (ne_m1 (by omega))]
  show bd (f_X9_advance (wI s 3 5 (nI (fpN E (wdA tx N A))))) _ = _
  rw [a1, bd_ok]
theorem takePoint_n {tx : Nat → Int32} {N A : Nat} {E : Dt} {s : St} (h : SC tx N A E s) (hB : BE E) (hc : ¬ hsP tx N E A) : f_X4_takePoint (rI s 18 0) s = some (0, s) := by
  unfold f_X4_takePoint
  rw [h.2.2.2.1 0 (by decide), findPoint_c h hB, bd_ok, if_neg hc, if_pos rfl]
theorem isNumber_c {tx : Nat → Int32} {N A : Nat} {E : Dt} {s : St} (h : SC tx N A E s) {x : Nat} (hx : x ≤ 999) : f_X4_isNumber (nI x) s = some (if kdA tx N A = 1 ∧ vlA tx N A = x then 1 else 0, s) := by
  obtain ⟨hA, ht, hk, hd⟩ := id h
  unfold f_X4_isNumber
  by_cases c : kdA tx N A = 1
  · obtain ⟨cv, v1, v2, v3⟩ := hk.2.2.2 c
    rw [if_pos ((kC1 hk).mpr c), v2]
    by_cases e : cv = x
    · rw [if_pos (by rw [e]), if_pos ⟨c, by omega⟩]
    · rw [if_neg (fun q => e ((nI_eq (by omega) (by omega)).mp q)), if_neg]
      intro q
      have := q.2
      omega
  · rw [if_neg (fun q => c ((kC1 hk).mp q)), if_neg (fun q => c q.1)]
/-! what the reference takes -/
theorem isNumber_m {tx : Nat → Int32} {N A : Nat} {E : Dt} {s : St} (h : SM tx N A E s) {l g : Nat} (hl : l ≤ 999) (hg : g ≤ 999) {x1 x2 : Int32} (e1 : x1 = nI l) (e2 : x2 = nI g - 1) : f_X11_isNumber x1 x2 s = some (if nmb tx N l g A then 1 else 0, s) := by
  obtain ⟨hA, ht, hk, hd⟩ := id h
  unfold f_X11_isNumber
  by_cases c : kdA tx N A = 1
  · obtain ⟨mv, v1, v2, v3⟩ := hk.2.2.2.1 c
    have ng : ∀ y : Int32, (0 < lg_cmp (lN mv) y.toInt64 ↔ y.toInt < mv) := fun y => by
      rw [lg_cmp_gt, fa_lt64, Int32.toInt_toInt64, pk_lT (by omega)]
    have nl : ∀ y : Int32, (lg_cmp (lN mv) y.toInt64 < 0 ↔ (mv : Int) < y.toInt) := fun y => by
      rw [lg_cmp_lt, fa_lt64, Int32.toInt_toInt64, pk_lT (by omega)]
    rw [if_pos ((kM1 hk).mpr c), v2, e1, e2]
    by_cases c1 : mv < l
    · rw [if_pos ((nl _).mpr (by rw [nI_toInt (by omega)]; omega)), if_neg (fun q => by have := q.2.1; omega)]
    · rw [if_neg (fun q => by have := (nl _).mp q; rw [nI_toInt (by omega)] at this; omega)]
      by_cases c2 : mv < g
      · rw [if_neg (fun q => by have := (ng _).mp q; rw [nI_pred_toInt (by omega)] at this; omega), if_pos ⟨c, by omega, by omega⟩]
      · rw [if_pos ((ng _).mpr (by rw [nI_pred_toInt (by omega)]; omega)), if_neg (fun q => by have := q.2.2; omega)]
  · rw [if_neg (fun q => c ((kM1 hk).mp q)), if_neg (fun q => c q.1)]
theorem val_m {tx : Nat → Int32} {N A : Nat} {E : Dt} {s : St} (h : SM tx N A E s) {l g : Nat} (hg : g ≤ 999) (hc : nmb tx N l g A) : rL s 74 5 = lN (vlA tx N A) := by
  obtain ⟨mv, v1, v2, v3⟩ := h.2.2.1.2.2.2.1 hc.1
  have := hc.2.2
  rw [v2]
  congr 1
  omega
theorem word_y {tx : Nat → Int32} {N A : Nat} {E : Dt} {s : St} (h : SM tx N A E s) {k : Nat} (hk : k < 11) (hc : wrd tx N k A) : ∃ u, f_X11_word k s = some (1, u) ∧ Nk s u ∧ SM tx N (nxA tx N A) E u := by
  obtain ⟨u, a1, a2, a3⟩ := next_S h
  refine ⟨u, ?_, a2, a3⟩
  unfold f_X11_word
  rw [isWord_m h.1 h.2.2.1 hk, bd_ok, if_pos hc, if_neg (by decide), a1, bd_ok]
theorem word_n {tx : Nat → Int32} {N A : Nat} {E : Dt} {s : St} (h : SM tx N A E s) {k : Nat} (hk : k < 11) (hc : ¬ wrd tx N k A) : f_X11_word k s = some (0, s) := by
  unfold f_X11_word
  rw [isWord_m h.1 h.2.2.1 hk, bd_ok, if_neg hc, if_pos rfl]
theorem closes_y {tx : Nat → Int32} {N A : Nat} {E : Dt} {s : St} (h : SM tx N A E s) (hc : kdA tx N A = 2) : ∃ u, f_X11_closes s = some (1, u) ∧ Nk s u ∧ SM tx N (nxA tx N A) E u := by
  obtain ⟨u, a1, a2, a3⟩ := next_S h
  refine ⟨u, ?_, a2, a3⟩
  unfold f_X11_closes
  rw [if_pos ((kM2 h.2.2.1).mpr hc), a1, bd_ok]
theorem closes_n {tx : Nat → Int32} {N A : Nat} {E : Dt} {s : St} (h : SM tx N A E s) (hc : ¬ kdA tx N A = 2) : f_X11_closes s = some (0, s) := by
  unfold f_X11_closes
  rw [if_neg (fun q => hc ((kM2 h.2.2.1).mp q))]
