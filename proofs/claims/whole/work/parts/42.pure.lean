/-! ===== told: who may it be ===== -/
def skB (D : Dt) : Int32 := bitsI (fun w => decide (D.2 9 w = 1)) (D.1 2)
theorem stuckLit_l {D : Dt} {tx : Nat → Int32} {s : St} (hR : RC D tx s) (hb : Bw D) : ∀ (d i n : Nat), i + d = D.1 2 → d < n → l_X2_stuckLit_4 n (bitsI (fun w => decide (D.2 9 w = 1)) i) (nI i) s = some (skB D, s) := by
  have hW := hb.1.2.2.1
  intro d
  induction d with
  | zero =>
    intro i n hi hn
    obtain ⟨n, rfl⟩ : ∃ m, n = m + 1 := ⟨n - 1, by omega⟩
    have e : i = D.1 2 := by omega
    subst e
    show b_X2_stuckLit_4 (l_X2_stuckLit_4 n) _ (nI (D.1 2)) s = _
    unfold b_X2_stuckLit_4
    rw [hR.1 (8, 2, 2) (by decide), if_pos (nI_le (Nat.le_refl (D.1 2)) (by omega))]
    rfl
  | succ d ih =>
    intro i n hi hn
    obtain ⟨n, rfl⟩ : ∃ m, n = m + 1 := ⟨n - 1, by omega⟩
    have hlt : i < D.1 2 := by omega
    have hnext := ih (i + 1) n (by omega) (by omega)
    have h9 := (hb.2.2.2.1 i hlt).2.2.1
    have hsu : bitsI (fun w => decide (D.2 9 w = 1)) (i + 1) = if decide (D.2 9 i = 1) then bitsI (fun w => decide (D.2 9 w = 1)) i ||| ((1 : Int32) <<< (nI i &&& 31)) else bitsI (fun w => decide (D.2 9 w = 1)) i := rfl
    show b_X2_stuckLit_4 (l_X2_stuckLit_4 n) _ (nI i) s = _
    unfold b_X2_stuckLit_4
    rw [hR.1 (8, 2, 2) (by decide), if_neg (nI_ge (a := i) (b := D.1 2) hlt (by omega)), gi_nI (lt_n hlt hW) (by decide), cl_nI (n := i) (by omega), gArr hR (c := 33) (a := 9) (n := 2) (by decide) hlt, nI_1]
    by_cases c : D.2 9 i = 1
    · rw [if_pos (by rw [c]; rfl), ← hnext, hsu, if_pos (by simp [c])]
    · rw [if_neg (show ¬ nI (D.2 9 i) = (1 : Int32) from fun q => c ((nI_eq (a := D.2 9 i) (b := 1) (by omega) (by omega)).mp q)), ← hnext, hsu, if_neg (by simp [c])]
theorem stuckLit_c {D : Dt} {tx : Nat → Int32} {s : St} (hR : RC D tx s) (hb : Bw D) : f_X2_stuckLit s = some (skB D, s) := by
  have hW := hb.1.2.2.1
  exact stuckLit_l hR hb (D.1 2) 0 FU (by omega) (FU_lt (by omega))
/-- how many points may it be, for the windows x -/
def mbN (D : Dt) (x : Int32) : Nat → Nat := fb_ct (fun p => decide (x &&& (wh D p ^^^ -1) = 0))
theorem mayBe_cl {D : Dt} {tx : Nat → Int32} {s : St} (hR : RC D tx s) (hb : Bw D) (h43 : ∀ p, p < D.1 0 → rI s 43 p = wh D p) (x : Int32) : ∀ (d i n : Nat), i + d = D.1 0 → d < n → l_X0_countMayBe_4 n x (nI (mbN D x i)) (nI i) s = some (nI (mbN D x (D.1 0)), s) := by
  have hP := hb.1.1
  intro d
  induction d with
  | zero =>
    intro i n hi hn
    obtain ⟨n, rfl⟩ : ∃ m, n = m + 1 := ⟨n - 1, by omega⟩
    have e : i = D.1 0 := by omega
    subst e
    show b_X0_countMayBe_4 (l_X0_countMayBe_4 n) _ _ (nI (D.1 0)) s = _
    unfold b_X0_countMayBe_4
    rw [hR.1 (8, 0, 0) (by decide), if_pos (nI_le (Nat.le_refl (D.1 0)) (by omega))]
  | succ d ih =>
    intro i n hi hn
    obtain ⟨n, rfl⟩ : ∃ m, n = m + 1 := ⟨n - 1, by omega⟩
    have hlt : i < D.1 0 := by omega
    have hnext := ih (i + 1) n (by omega) (by omega)
    have hsu : mbN D x (i + 1) = mbN D x i + (if decide (x &&& (wh D i ^^^ -1) = 0) then 1 else 0) := rfl
    show b_X0_countMayBe_4 (l_X0_countMayBe_4 n) _ _ (nI i) s = _
    unfold b_X0_countMayBe_4
    rw [hR.1 (8, 0, 0) (by decide), if_neg (nI_ge (a := i) (b := D.1 0) hlt (by omega)), gi_nI (lt_n hlt hP) (by decide), cl_nI (n := i) (by omega), h43 i hlt]
    by_cases c : x &&& (wh D i ^^^ -1) = 0
    · rw [if_pos c, nI_1, nI_1, ← hnext, hsu, if_pos (decide_eq_true c)]
    · rw [if_neg c, nI_1, ← hnext, hsu, if_neg (fun q => c (of_decide_eq_true q))]
      rfl
theorem mayBe_c {D : Dt} {tx : Nat → Int32} {s : St} (hR : RC D tx s) (hb : Bw D) (h43 : ∀ p, p < D.1 0 → rI s 43 p = wh D p) (x : Int32) : f_X0_countMayBe x s = some (nI (mbN D x (D.1 0)), s) := by
  have hP := hb.1.1
  exact mayBe_cl hR hb h43 x (D.1 0) 0 FU (by omega) (FU_lt (by omega))
theorem in_iff (y x : Int32) : y &&& x = x ↔ x &&& (y ^^^ -1) = 0 := by
  constructor
  · intro h
    apply b_ext
    intro i hi
    have := congrArg (fun z => bt z i) h
    simp only [b_and] at this
    rw [b_and, b_xor, b_m1 i hi, b_0]
    revert this
    cases bt x i <;> cases bt y i <;> simp
  · intro h
    apply b_ext
    intro i hi
    have := congrArg (fun z => bt z i) h
    simp only [b_and, b_xor, b_m1 i hi, b_0] at this
    rw [b_and]
    revert this
    cases bt x i <;> cases bt y i <;> simp
theorem mayBe41_l {D : Dt} {tx : Nat → Int32} {s : St} (hS : RM D tx s) (hb : Bw D) (h99 : ∀ p, p < D.1 0 → rI s 99 p = wh D p) (x : Int32) : ∀ (d i n : Nat), i + d = D.1 0 → d < n → l_X11_mayBe_41 n x (nI (mbN D x i)) (nI i) s = some (nI (mbN D x (D.1 0)), s) := by
  have hP := hb.1.1
  intro d
  induction d with
  | zero =>
    intro i n hi hn
    obtain ⟨n, rfl⟩ : ∃ m, n = m + 1 := ⟨n - 1, by omega⟩
    have e : i = D.1 0 := by omega
    subst e
    show b_X11_mayBe_41 (l_X11_mayBe_41 n) _ _ (nI (D.1 0)) s = _
    unfold b_X11_mayBe_41
    rw [hS.1 (74, 18, 0) (by decide), if_pos (nI_le (Nat.le_refl (D.1 0)) (by omega))]
  | succ d ih =>
    intro i n hi hn
    obtain ⟨n, rfl⟩ : ∃ m, n = m + 1 := ⟨n - 1, by omega⟩
    have hlt : i < D.1 0 := by omega
    have hnext := ih (i + 1) n (by omega) (by omega)
    have hsu : mbN D x (i + 1) = mbN D x i + (if decide (x &&& (wh D i ^^^ -1) = 0) then 1 else 0) := rfl
    show b_X11_mayBe_41 (l_X11_mayBe_41 n) _ _ (nI i) s = _
    unfold b_X11_mayBe_41
    rw [hS.1 (74, 18, 0) (by decide), if_neg (nI_ge (a := i) (b := D.1 0) hlt (by omega)), gi_nI (lt_n hlt hP) (by decide), cl_nI (n := i) (by omega), h99 i hlt]
    by_cases c : x &&& (wh D i ^^^ -1) = 0
    · rw [if_pos ((in_iff _ _).mpr c), nI_1, nI_1, ← hnext, hsu, if_pos (decide_eq_true c)]
    · rw [if_neg (fun q => c ((in_iff _ _).mp q)), add_0, nI_1, ← hnext, hsu, if_neg (fun q => c (of_decide_eq_true q))]
      rfl
theorem mayBe4_l {D : Dt} {tx : Nat → Int32} {s : St} (hS : RM D tx s) (hb : Bw D) (h99 : ∀ p, p < D.1 0 → rI s 99 p = wh D p) (x : Int32) : ∀ (d i n : Nat), i + d = D.1 2 → d < n → l_X11_mayBe_4 n (x &&& (bitsI (fun w => decide (D.2 9 w = 1)) i ^^^ -1)) (nI i) s = some (nI (mbN D (x &&& (skB D ^^^ -1)) (D.1 0)), s) := by
  have hW := hb.1.2.2.1
  have hP := hb.1.1
  intro d
  induction d with
  | zero =>
    intro i n hi hn
    obtain ⟨n, rfl⟩ : ∃ m, n = m + 1 := ⟨n - 1, by omega⟩
    have e : i = D.1 2 := by omega
    subst e
    show b_X11_mayBe_4 (l_X11_mayBe_4 n) _ (nI (D.1 2)) s = _
    unfold b_X11_mayBe_4
    rw [hS.1 (74, 24, 2) (by decide), if_pos (nI_le (Nat.le_refl (D.1 2)) (by omega))]
    exact mayBe41_l hS hb h99 _ (D.1 0) 0 FU (by omega) (FU_lt (by omega))
  | succ d ih =>
    intro i n hi hn
    obtain ⟨n, rfl⟩ : ∃ m, n = m + 1 := ⟨n - 1, by omega⟩
    have hlt : i < D.1 2 := by omega
    have hnext := ih (i + 1) n (by omega) (by omega)
    have h9 := (hb.2.2.2.1 i hlt).2.2.1
    have hsu : bitsI (fun w => decide (D.2 9 w = 1)) (i + 1) = if decide (D.2 9 i = 1) then bitsI (fun w => decide (D.2 9 w = 1)) i ||| ((1 : Int32) <<< (nI i &&& 31)) else bitsI (fun w => decide (D.2 9 w = 1)) i := rfl
    show b_X11_mayBe_4 (l_X11_mayBe_4 n) _ (nI i) s = _
    unfold b_X11_mayBe_4
    rw [hS.1 (74, 24, 2) (by decide), if_neg (nI_ge (a := i) (b := D.1 2) hlt (by omega)), gi_nI (lt_n hlt hW) (by decide), cl_nI (n := i) (by omega), gArrM hS (c := 90) (a := 9) (n := 2) (by decide) hlt, nI_1]
    by_cases c : D.2 9 i = 1
    · rw [if_pos (by rw [c]; rfl), ← hnext, hsu, if_pos (by simp [c])]
      have : x &&& (bitsI (fun w => decide (D.2 9 w = 1)) i ^^^ -1) &&& (((1 : Int32) <<< (nI i &&& 31)) ^^^ -1) = x &&& ((bitsI (fun w => decide (D.2 9 w = 1)) i ||| ((1 : Int32) <<< (nI i &&& 31))) ^^^ -1) := by
        apply b_ext
        intro j hj
        simp only [b_and, b_xor, b_or, b_m1 j hj]
        cases bt x j <;> cases bt (bitsI (fun w => decide (D.2 9 w = 1)) i) j <;> cases bt ((1 : Int32) <<< (nI i &&& 31)) j <;> rfl
      rw [this]
    · rw [if_neg (show ¬ nI (D.2 9 i) = (1 : Int32) from fun q => c ((nI_eq (a := D.2 9 i) (b := 1) (by omega) (by omega)).mp q)), ← hnext, hsu, if_neg (by simp [c])]
theorem mayBe_m {D : Dt} {tx : Nat → Int32} {s : St} (hS : RM D tx s) (hb : Bw D) (h99 : ∀ p, p < D.1 0 → rI s 99 p = wh D p) (x : Int32) : f_X11_mayBe x s = some (nI (mbN D (x &&& (skB D ^^^ -1)) (D.1 0)), s) := by
  have hW := hb.1.2.2.1
  have e : x &&& ((0 : Int32) ^^^ -1) = x := by
    apply b_ext
    intro j hj
    simp [b_and, b_xor, b_m1 j hj, b_0]
  have := mayBe4_l hS hb h99 x (D.1 2) 0 FU (by omega) (FU_lt (by omega))
  rw [show bitsI (fun w => decide (D.2 9 w = 1)) 0 = 0 from rfl, e] at this
  exact this
