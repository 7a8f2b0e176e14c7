/-! ===== the law's loop ===== -/
def D0 : Dt := (fun k => if k = 6 then 300 else 0, fun _ _ => 0)
theorem st0_at (k j : Nat) : rI st0 k j = if (k = 74 ∧ j = 36) ∨ (k = 42 ∧ j = 4) then 300 else 0 := by
  unfold st0
  rw [rI_wI, rI_wI]
  by_cases c1 : k = 74 ∧ j = 36
  · rw [if_pos c1, if_pos (Or.inl c1)]
  · rw [if_neg c1]
    by_cases c2 : k = 42 ∧ j = 4
    · rw [if_pos c2, if_pos (Or.inr c2)]
    · rw [if_neg c2, if_neg (fun q => q.elim c1 c2)]
      rfl
theorem Rel_0 (tx : Nat → Int32) : Rel D0 tx st0 := by
  refine ⟨⟨by decide, fun p hp => absurd hp (Nat.not_lt_zero p), fun p hp => absurd hp (Nat.not_lt_zero p), fun p hp => absurd hp (Nat.not_lt_zero p), fun p hp => absurd hp (Nat.not_lt_zero p), fun p hp => absurd hp (Nat.not_lt_zero p)⟩, ⟨fun q hq => ?_, fun q hq i hi => ?_, fun i hi => absurd hi (Nat.not_lt_zero i), ?_, fun i hi => absurd hi (Nat.not_lt_zero i)⟩, fun q hq => ?_, fun q hq i hi => ?_, fun i hi => absurd hi (Nat.not_lt_zero i), fun i hi => absurd hi (Nat.not_lt_zero i)⟩
  · rw [st0_at]
    simp only [scalC, List.mem_cons, List.not_mem_nil, or_false] at hq
    rcases hq with rfl | rfl | rfl | rfl | rfl | rfl | rfl | rfl <;> decide
  · simp only [arrC, List.mem_cons, List.not_mem_nil, or_false] at hq
    rcases hq with rfl | rfl | rfl | rfl | rfl | rfl | rfl | rfl | rfl | rfl | rfl | rfl <;> exact absurd hi (Nat.not_lt_zero i)
  · rw [st0_at]; rfl
  · rw [st0_at]
    simp only [scalM, List.mem_cons, List.not_mem_nil, or_false] at hq
    rcases hq with rfl | rfl | rfl | rfl | rfl | rfl | rfl | rfl <;> decide
  · simp only [arrM, List.mem_cons, List.not_mem_nil, or_false] at hq
    rcases hq with rfl | rfl | rfl | rfl | rfl | rfl | rfl | rfl | rfl | rfl | rfl <;> exact absurd hi (Nat.not_lt_zero i)
theorem gi_k {α : Type} {i k L : Nat} {x : Int32} {y : Option α} (hx : x = nI k) (h : i + k < L) (hL : L ≤ 3072) : gi (nI i + x) L y = y := by
  rw [hx, nI_add]
  exact gi_nI h (by omega)
theorem done_i {i L : Nat} (hL : L ≤ 3072) (hi : i ≤ 10000) : nI L - 6 < nI i ↔ L < i + 6 := by
  have e6 : (6 : Int32).toInt = 6 := by decide
  rw [fa_lt, fb_subI (by rw [nI_toInt (by omega), e6]; omega) (by rw [nI_toInt (by omega), e6]; omega), nI_toInt (by omega), nI_toInt (by omega), e6]
  omega
theorem law_l (xs : Nat → Int32) {L : Nat} (hL : L ≤ 3072) : ∀ (d i n : Nat) (s : St) (D : Dt) (tx : Nat → Int32), L < i + 6 * d + 6 → i ≤ L + 6 → d < n → Rel D tx s → ∃ fin, l_L_law_18 xs L n (nI i) s = some (1, fin) := by
  intro d
  induction d with
  | zero =>
    intro i n s D tx hd hi hn h
    obtain ⟨n, rfl⟩ : ∃ m, n = m + 1 := ⟨n - 1, by omega⟩
    refine ⟨s, ?_⟩
    show b_L_law_18 xs L (l_L_law_18 xs L n) (nI i) s = _
    unfold b_L_law_18
    rw [if_pos ((done_i hL (by omega)).mpr (by omega))]
  | succ d ih =>
    intro i n s D tx hd hi hn h
    obtain ⟨n, rfl⟩ : ∃ m, n = m + 1 := ⟨n - 1, by omega⟩
    show ∃ fin, b_L_law_18 xs L (l_L_law_18 xs L n) (nI i) s = some (1, fin)
    unfold b_L_law_18
    by_cases c : L < i + 6
    · exact ⟨s, by rw [if_pos ((done_i hL (by omega)).mpr c)]⟩
    · rw [if_neg (fun q => c ((done_i hL (by omega)).mp q)), gi_nI (j := i) (n := L) (by omega) (by omega)]
      have g1 : ∀ (y : Option (Int32 × St)), gi (nI i + 1) L y = y := fun y => gi_k (k := 1) rfl (by omega) hL
      have g2 : ∀ (y : Option (Int32 × St)), gi (nI i + 2) L y = y := fun y => gi_k (k := 2) rfl (by omega) hL
      have g3 : ∀ (y : Option (Int32 × St)), gi (nI i + 3) L y = y := fun y => gi_k (k := 3) rfl (by omega) hL
      have g4 : ∀ (y : Option (Int32 × St)), gi (nI i + 4) L y = y := fun y => gi_k (k := 4) rfl (by omega) hL
      have g5 : ∀ (y : Option (Int32 × St)), gi (nI i + 5) L y = y := fun y => gi_k (k := 5) rfl (by omega) hL
      have go : ∀ (s2 : St) (D2 : Dt) (tx2 : Nat → Int32), Rel D2 tx2 s2 → ∃ fin, l_L_law_18 xs L n (nI i + 6) s2 = some (1, fin) := fun s2 D2 tx2 h2 => by
        rw [show nI i + 6 = nI (i + 6) from nI_add i 6]
        exact ih (i + 6) n s2 D2 tx2 (by omega) (by omega) (by omega) h2
      by_cases c0 : xs (nI i).toNatClampNeg &&& 31 = 0
      · obtain ⟨r, s1, s2, D2, tx2, e1, e2, h2⟩ := call_feed h (xs (nI i + 1).toNatClampNeg) (xs (nI i + 2).toNatClampNeg) (xs (nI i + 3).toNatClampNeg) (xs (nI i + 4).toNatClampNeg) (xs (nI i + 5).toNatClampNeg)
        rw [if_pos c0, g1, g2, g3, g4, g5, e1, bd_ok, g1, g2, g3, g4, g5, e2, bd_ok, if_pos rfl]
        exact go s2 D2 tx2 h2
      rw [if_neg c0]
      by_cases c1 : xs (nI i).toNatClampNeg &&& 31 = 1
      · obtain ⟨r, s1, s2, D2, tx2, e1, e2, h2⟩ := call_end h (xs (nI i + 1).toNatClampNeg)
        rw [if_pos c1, g1, e1, bd_ok, g1, e2, bd_ok, if_pos rfl]
        exact go s2 D2 tx2 h2
      rw [if_neg c1]
      by_cases c2 : xs (nI i).toNatClampNeg &&& 31 = 2
      · obtain ⟨r, s1, s2, D2, tx2, e1, e2, h2⟩ := call_fault h
        rw [if_pos c2, e1, bd_ok, e2, bd_ok, if_pos rfl]
        exact go s2 D2 tx2 h2
      rw [if_neg c2]
      by_cases c3 : xs (nI i).toNatClampNeg &&& 31 = 3
      · obtain ⟨r, s1, s2, D2, tx2, e1, e2, h2⟩ := call_plant h
        rw [if_pos c3, e1, bd_ok, e2, bd_ok, if_pos rfl]
        exact go s2 D2 tx2 h2
      rw [if_neg c3]
      by_cases c4 : xs (nI i).toNatClampNeg &&& 31 = 4
      · obtain ⟨r, s1, s2, D2, tx2, e1, e2, h2⟩ := call_stick h (xs (nI i + 1).toNatClampNeg) (xs (nI i + 2).toNatClampNeg)
        rw [if_pos c4, g1, g2, e1, bd_ok, g1, g2, e2, bd_ok, if_pos rfl]
        exact go s2 D2 tx2 h2
      rw [if_neg c4]
      by_cases c5 : xs (nI i).toNatClampNeg &&& 31 = 5
      · obtain ⟨r, s1, s2, D2, tx2, e1, e2, h2⟩ := call_window h (xs (nI i + 1).toNatClampNeg) (xs (nI i + 2).toNatClampNeg)
        rw [if_pos c5, g1, g2, e1, bd_ok, g1, g2, e2, bd_ok, if_pos rfl]
        exact go s2 D2 tx2 h2
      rw [if_neg c5]
      by_cases c6 : xs (nI i).toNatClampNeg &&& 31 = 6
      · obtain ⟨r, s1, s2, D2, tx2, e1, e2, h2⟩ := call_fails h (xs (nI i + 1).toNatClampNeg) (xs (nI i + 2).toNatClampNeg)
        rw [if_pos c6, g1, g2, e1, bd_ok, g1, g2, e2, bd_ok, if_pos rfl]
        exact go s2 D2 tx2 h2
      rw [if_neg c6]
      by_cases c7 : xs (nI i).toNatClampNeg &&& 31 = 7
      · obtain ⟨r, s1, s2, D2, tx2, e1, e2, h2⟩ := call_lit h (xs (nI i + 1).toNatClampNeg) (xs (nI i + 2).toNatClampNeg)
        rw [if_pos c7, g1, g2, e1, bd_ok, g1, g2, e2, bd_ok, if_pos rfl]
        exact go s2 D2 tx2 h2
      rw [if_neg c7]
      by_cases c8 : xs (nI i).toNatClampNeg &&& 31 = 8
      · obtain ⟨r, s1, s2, D2, tx2, e1, e2, h2⟩ := call_first h (xs (nI i + 1).toNatClampNeg) (xs (nI i + 2).toNatClampNeg)
        rw [if_pos c8, g1, g2, e1, bd_ok, g1, g2, e2, bd_ok, if_pos rfl]
        exact go s2 D2 tx2 h2
      rw [if_neg c8]
      by_cases c9 : xs (nI i).toNatClampNeg &&& 31 = 9
      · obtain ⟨r, s1, s2, D2, tx2, e1, e2, h2⟩ := call_horns h (xs (nI i + 1).toNatClampNeg) (xs (nI i + 2).toNatClampNeg)
        rw [if_pos c9, g1, g2, e1, bd_ok, g1, g2, e2, bd_ok, if_pos rfl]
        exact go s2 D2 tx2 h2
      rw [if_neg c9]
      by_cases c10 : xs (nI i).toNatClampNeg &&& 31 = 10
      · obtain ⟨r, s1, s2, D2, tx2, e1, e2, h2⟩ := call_log h (xs (nI i + 1).toNatClampNeg) (xs (nI i + 2).toNatClampNeg)
        rw [if_pos c10, g1, g2, e1, bd_ok, g1, g2, e2, bd_ok, if_pos rfl]
        exact go s2 D2 tx2 h2
      rw [if_neg c10]
      by_cases c11 : xs (nI i).toNatClampNeg &&& 31 = 11
      · obtain ⟨r, s1, s2, D2, tx2, e1, e2, h2⟩ := call_erase h
        rw [if_pos c11, e1, bd_ok, e2, bd_ok, if_pos rfl]
        exact go s2 D2 tx2 h2
      rw [if_neg c11]
      by_cases c12 : xs (nI i).toNatClampNeg &&& 31 = 12
      · obtain ⟨r, s1, s2, D2, tx2, e1, e2, h2⟩ := call_joined h (xs (nI i + 1).toNatClampNeg)
        rw [if_pos c12, g1, e1, bd_ok, g1, e2, bd_ok, if_pos rfl]
        exact go s2 D2 tx2 h2
      rw [if_neg c12]
      by_cases c13 : xs (nI i).toNatClampNeg &&& 31 = 13
      · obtain ⟨r, s1, s2, D2, tx2, e1, e2, h2⟩ := call_off h (xs (nI i + 1).toNatClampNeg)
        rw [if_pos c13, g1, e1, bd_ok, g1, e2, bd_ok, if_pos rfl]
        exact go s2 D2 tx2 h2
      rw [if_neg c13]
      by_cases c14 : xs (nI i).toNatClampNeg &&& 31 = 14
      · obtain ⟨r, s1, s2, D2, tx2, e1, e2, h2⟩ := call_explain h (xs (nI i + 1).toNatClampNeg)
        rw [if_pos c14, g1, e1, bd_ok, g1, e2, bd_ok, if_pos rfl]
        exact go s2 D2 tx2 h2
      rw [if_neg c14]
      by_cases c15 : xs (nI i).toNatClampNeg &&& 31 = 15
      · obtain ⟨r, s1, s2, D2, tx2, e1, e2, h2⟩ := call_altered h (xs (nI i + 1).toNatClampNeg) (xs (nI i + 2).toNatClampNeg)
        rw [if_pos c15, g1, g2, e1, bd_ok, g1, g2, e2, bd_ok, if_pos rfl]
        exact go s2 D2 tx2 h2
      rw [if_neg c15]
      by_cases c16 : xs (nI i).toNatClampNeg &&& 31 = 16
      · rw [if_pos c16, g1, g2]
        by_cases z : xs (nI i + 2).toNatClampNeg = 0
        · obtain ⟨r, s1, s2, D2, tx2, e1, e2, h2⟩ := call_rest h (xs (nI i + 1).toNatClampNeg) 0 (Or.inl rfl)
          rw [if_pos z]
          unfold j_L_law_621
          rw [e1, bd_ok, g1, g2, if_pos z, e2, bd_ok, if_pos rfl]
          exact go s2 D2 tx2 h2
        · obtain ⟨r, s1, s2, D2, tx2, e1, e2, h2⟩ := call_rest h (xs (nI i + 1).toNatClampNeg) 1 (Or.inr rfl)
          rw [if_neg z]
          unfold j_L_law_621
          rw [e1, bd_ok, g1, g2, if_neg z, e2, bd_ok, if_pos rfl]
          exact go s2 D2 tx2 h2
      rw [if_neg c16]
      by_cases c17 : xs (nI i).toNatClampNeg &&& 31 = 17
      · obtain ⟨r, s1, s2, D2, tx2, e1, e2, h2⟩ := call_till h (xs (nI i + 1).toNatClampNeg)
        rw [if_pos c17, g1, e1, bd_ok, g1, e2, bd_ok, if_pos rfl]
        exact go s2 D2 tx2 h2
      rw [if_neg c17]
      by_cases c18 : xs (nI i).toNatClampNeg &&& 31 = 18
      · obtain ⟨r, s1, s2, D2, tx2, e1, e2, h2⟩ := call_board h (xs (nI i + 1).toNatClampNeg) (xs (nI i + 2).toNatClampNeg) (xs (nI i + 3).toNatClampNeg)
        rw [if_pos c18, g1, g2, g3, e1, bd_ok, g1, g2, g3, e2, bd_ok, if_pos rfl]
        exact go s2 D2 tx2 h2
      rw [if_neg c18]
      by_cases c19 : xs (nI i).toNatClampNeg &&& 31 = 19
      · obtain ⟨r, s1, s2, D2, tx2, e1, e2, h2⟩ := call_harm h (xs (nI i + 1).toNatClampNeg)
        rw [if_pos c19, g1, e1, bd_ok, g1, e2, bd_ok, if_pos rfl]
        exact go s2 D2 tx2 h2
      rw [if_neg c19]
      by_cases c20 : xs (nI i).toNatClampNeg &&& 31 = 20
      · obtain ⟨r, s1, s2, D2, tx2, e1, e2, h2⟩ := call_change h (xs (nI i + 1).toNatClampNeg) (xs (nI i + 2).toNatClampNeg)
        rw [if_pos c20, g1, g2, e1, bd_ok, g1, g2, e2, bd_ok, if_pos rfl]
        exact go s2 D2 tx2 h2
      rw [if_neg c20]
      by_cases c21 : xs (nI i).toNatClampNeg &&& 31 = 21
      · obtain ⟨r, s1, s2, D2, tx2, e1, e2, h2⟩ := call_told h (xs (nI i + 1).toNatClampNeg) (xs (nI i + 2).toNatClampNeg)
        rw [if_pos c21, g1, g2, e1, bd_ok, g1, g2, e2, bd_ok, if_pos rfl]
        exact go s2 D2 tx2 h2
      rw [if_neg c21]
      by_cases c22 : xs (nI i).toNatClampNeg &&& 31 = 22
      · obtain ⟨r, s1, s2, D2, tx2, e1, e2, h2⟩ := call_wall h (xs (nI i + 1).toNatClampNeg) (xs (nI i + 2).toNatClampNeg)
        rw [if_pos c22, g1, g2, e1, bd_ok, g1, g2, e2, bd_ok, if_pos rfl]
        exact go s2 D2 tx2 h2
      rw [if_neg c22]
      by_cases c23 : xs (nI i).toNatClampNeg &&& 31 = 23
      · obtain ⟨r, s1, s2, D2, tx2, e1, e2, h2⟩ := call_count h (xs (nI i + 1).toNatClampNeg)
        rw [if_pos c23, g1, e1, bd_ok, g1, e2, bd_ok, if_pos rfl]
        exact go s2 D2 tx2 h2
      rw [if_neg c23]
      exact go s D tx h
theorem law_pure (xs : Nat → Int32) (L : Nat) (hL : L ≤ 3072) : ∃ fin, lawF xs L st0 = some (1, fin) := law_l xs hL 512 0 FU st0 D0 (fun _ => 0) (by omega) (by omega) (FU_lt (by omega)) (Rel_0 _)
