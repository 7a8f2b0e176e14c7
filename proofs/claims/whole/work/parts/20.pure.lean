/-! ===== pure: reading and writing the state ===== -/
theorem rI_same (s : St) (k j : Nat) (v : Int32) : rI (wI s k j v) k j = v := by simp [rI, wI, va_up, upd]
theorem rI_nk {s : St} {k j k1 j1 : Nat} {v : Int32} (h : k1 ≠ k) : rI (wI s k j v) k1 j1 = rI s k1 j1 := by simp [rI, wI, va_up, h]
theorem rI_nj {s : St} {k j k1 j1 : Nat} {v : Int32} (h : j1 ≠ j) : rI (wI s k j v) k1 j1 = rI s k1 j1 := by
  by_cases hk : k1 = k
  · subst hk; simp [rI, wI, va_up, upd, h]
  · exact rI_nk hk
theorem rI_wI (s : St) (k j k1 j1 : Nat) (v : Int32) : rI (wI s k j v) k1 j1 = if k1 = k ∧ j1 = j then v else rI s k1 j1 := by
  by_cases h : k1 = k
  · subst h
    by_cases h2 : j1 = j
    · subst h2; simp [rI_same]
    · rw [rI_nj h2]; simp [h2]
  · rw [rI_nk h]; simp [h]
theorem rI_wL (s : St) (k j k1 j1 : Nat) (v : Int64) : rI (wL s k j v) k1 j1 = rI s k1 j1 := rfl
theorem rL_wI (s : St) (k j k1 j1 : Nat) (v : Int32) : rL (wI s k j v) k1 j1 = rL s k1 j1 := rfl
theorem rL_same (s : St) (k j : Nat) (v : Int64) : rL (wL s k j v) k j = v := by simp [rL, wL, va_up, vp_updL]
theorem rL_nk {s : St} {k j k1 j1 : Nat} {v : Int64} (h : k1 ≠ k) : rL (wL s k j v) k1 j1 = rL s k1 j1 := by simp [rL, wL, va_up, h]
theorem rL_nj {s : St} {k j k1 j1 : Nat} {v : Int64} (h : j1 ≠ j) : rL (wL s k j v) k1 j1 = rL s k1 j1 := by
  by_cases hk : k1 = k
  · subst hk; simp [rL, wL, va_up, vp_updL, h]
  · exact rL_nk hk
/-- only the cells ks may have changed -/
def Kp (ks : List Nat) (s t : St) : Prop := ∀ k, k ∉ ks → t.1 k = s.1 k
theorem Kp.rf {ks : List Nat} {s : St} : Kp ks s s := fun _ _ => rfl
theorem Kp.tr {ks : List Nat} {s t u : St} (h1 : Kp ks s t) (h2 : Kp ks t u) : Kp ks s u := fun k hk => (h2 k hk).trans (h1 k hk)
theorem Kp.mono {a b : List Nat} {s t : St} (h : Kp a s t) (hab : ∀ k ∈ a, k ∈ b) : Kp b s t := fun k hk => h k (fun q => hk (hab k q))
theorem Kp_wI {ks : List Nat} {s t : St} (h : Kp ks s t) {k : Nat} (hk : k ∈ ks) (j : Nat) (v : Int32) : Kp ks s (wI t k j v) := fun k1 h1 => by
  have hne : k1 ≠ k := fun e => h1 (by rw [e]; exact hk)
  show (va_up t.1 k _) k1 = s.1 k1
  simp only [va_up, if_neg hne]
  exact h k1 h1
theorem Kp_wL {ks : List Nat} {s t : St} (h : Kp ks s t) (k j : Nat) (v : Int64) : Kp ks s (wL t k j v) := h
theorem Kp_rI {ks : List Nat} {s t : St} (h : Kp ks s t) {k : Nat} (hk : k ∉ ks) (j : Nat) : rI t k j = rI s k j := by
  show t.1 k j = s.1 k j
  rw [h k hk]
theorem bd_ok {α β : Type} (a : α) (s : St) (k : α → St → Option β) : bd (some (a, s)) k = k a s := rfl
theorem gi_in {α : Type} {i : Int32} {n : Nat} {k : Option α} (h : vp_in i n) : gi i n k = k := if_neg h
theorem gi_nI {α : Type} {j n : Nat} {k : Option α} (h : j < n) (hn : n < 2 ^ 31) : gi (nI j) n k = k := gi_in (vp_in_nI h hn)
theorem gb_0 {α : Type} {k : Option α} : gb 0 k = k := if_pos (Or.inl rfl)
theorem gb_1 {α : Type} {k : Option α} : gb 1 k = k := if_pos (Or.inr rfl)
theorem cl_nI {n : Nat} (h : n < 2 ^ 31) : (nI n).toNatClampNeg = n := nI_clamp h
/-! ===== bits ===== -/
theorem b_1 : ∀ i, i < 32 → bt 1 i = decide (i = 0) := by decide
theorem b_low (y : Int32) : (y &&& 1) = 0 ↔ bt y 0 = false := by
  constructor
  · intro h
    have h1 : bt (y &&& 1) 0 = bt 0 0 := by rw [h]
    rw [b_and, b_1 0 (by decide), b_0] at h1
    simpa using h1
  · intro h
    apply b_ext
    intro i hi
    rw [b_and, b_1 i hi, b_0]
    by_cases h0 : i = 0
    · subst h0; simp [h]
    · simp [h0]
theorem b_low1 (y : Int32) : (y &&& 1) = 1 ↔ bt y 0 = true := by
  constructor
  · intro h
    have h1 : bt (y &&& 1) 0 = bt 1 0 := by rw [h]
    rw [b_and, b_1 0 (by decide)] at h1
    simpa using h1
  · intro h
    apply b_ext
    intro i hi
    rw [b_and, b_1 i hi]
    by_cases h0 : i = 0
    · subst h0; simp [h]
    · simp [h0]
theorem b_at (x : Int32) {j : Nat} (hj : j < 32) : ((x >>> (nI j &&& 31)) &&& 1) = 0 ↔ bt x j = false := by
  rw [b_low, b_sshr j hj x (by decide), if_pos (by omega)]
  simp
theorem b_at1 (x : Int32) {j : Nat} (hj : j < 32) : ((x >>> (nI j &&& 31)) &&& 1) = 1 ↔ bt x j = true := by
  rw [b_low1, b_sshr j hj x (by decide), if_pos (by omega)]
  simp
theorem b_one {n i : Nat} (hn : n < 32) (hi : i < 32) : bt ((1 : Int32) <<< (nI n &&& 31)) i = decide (i = n) := by
  rw [b_shl n hn 1 hi, b_1 (i - n) (by omega)]
  by_cases h : n ≤ i
  · by_cases h2 : i = n
    · subst h2; simp
    · have : ¬ i - n = 0 := by omega
      simp [h, h2, this]
  · have : ¬ i = n := by omega
    simp [h, this]
/-- the bits of those places below n at which p holds -/
def bitsI (p : Nat → Bool) : Nat → Int32
  | 0 => 0
  | n + 1 => if p n then bitsI p n ||| ((1 : Int32) <<< (nI n &&& 31)) else bitsI p n
theorem b_bitsI (p : Nat → Bool) : ∀ {n : Nat}, n ≤ 32 → ∀ i, i < 32 → bt (bitsI p n) i = (decide (i < n) && p i)
  | 0, _, i, _ => by simp [bitsI, b_0]
  | n + 1, hn, i, hi => by
    have ih := b_bitsI p (n := n) (by omega) i hi
    unfold bitsI
    by_cases hp : p n = true
    · rw [if_pos hp, b_or, ih, b_one (by omega) hi]
      by_cases h1 : i < n
      · have : i < n + 1 := by omega
        have h2 : ¬ i = n := by omega
        simp [h1, this, h2]
      · by_cases h2 : i = n
        · subst h2; simp [hp]
        · have : ¬ i < n + 1 := by omega
          simp [h1, h2, this]
    · rw [if_neg hp, ih]
      have hp0 : p n = false := by simpa using hp
      by_cases h2 : i = n
      · subst h2; simp [hp0]
      · by_cases h1 : i < n
        · have : i < n + 1 := by omega
          simp [h1, this]
        · have : ¬ i < n + 1 := by omega
          simp [h1, this]
theorem bitsI_cong {p q : Nat → Bool} : ∀ {n : Nat}, (∀ i, i < n → p i = q i) → bitsI p n = bitsI q n
  | 0, _ => rfl
  | n + 1, h => by
    unfold bitsI
    rw [bitsI_cong (n := n) (fun i hi => h i (by omega)), h n (by omega)]
/-! ===== what both sides hold: the data D (numbers, rows), the text tx ===== -/
abbrev Dt : Type := (Nat → Nat) × (Nat → Nat → Nat)
def dS (D : Dt) (k v : Nat) : Dt := (va_up D.1 k v, D.2)
def dA (D : Dt) (a j v : Nat) : Dt := (D.1, va_up D.2 a (va_up (D.2 a) j v))
def scalC : List (Nat × Nat × Nat) := [(8, 0, 0), (8, 1, 1), (8, 2, 2), (8, 3, 3), (35, 2, 4), (38, 6, 5), (42, 4, 6), (1, 1, 7)]
def arrC : List (Nat × Nat × Nat) := [(9, 0, 0), (10, 1, 1), (11, 2, 1), (12, 3, 1), (13, 4, 2), (14, 5, 2), (15, 6, 3), (16, 7, 3), (33, 9, 2), (46, 11, 2), (36, 13, 4), (37, 14, 4)]
def scalM : List (Nat × Nat × Nat) := [(74, 18, 0), (74, 20, 1), (74, 24, 2), (74, 29, 3), (74, 32, 4), (74, 35, 5), (74, 36, 6), (74, 1, 7)]
def arrM : List (Nat × Nat × Nat) := [(84, 0, 0), (85, 1, 1), (86, 2, 1), (87, 3, 1), (88, 4, 2), (89, 5, 2), (90, 9, 2), (91, 12, 2), (94, 13, 4), (95, 14, 4), (93, 10, 3)]
def RC (D : Dt) (tx : Nat → Int32) (s : St) : Prop := (∀ q ∈ scalC, rI s q.1 q.2.1 = nI (D.1 q.2.2)) ∧ (∀ q ∈ arrC, ∀ i, i < D.1 q.2.2 → rI s q.1 i = nI (D.2 q.2.1 i)) ∧ (∀ i, i < D.1 3 → rI s 17 i = nI (D.2 8 i) - 1) ∧ rI s 32 4 = bitsI (fun r => decide (D.2 10 r = 1)) (D.1 3) ∧ ∀ i, i < D.1 7 → rI s 2 i = tx i
def RM (D : Dt) (tx : Nat → Int32) (s : St) : Prop := (∀ q ∈ scalM, rI s q.1 q.2.1 = nI (D.1 q.2.2)) ∧ (∀ q ∈ arrM, ∀ i, i < D.1 q.2.2 → rI s q.1 i = nI (D.2 q.2.1 i)) ∧ (∀ i, i < D.1 3 → rI s 92 (3 * i) = nI (D.2 6 i) ∧ rI s 92 (3 * i + 1) = nI (D.2 7 i) ∧ rI s 92 (3 * i + 2) = nI (D.2 8 i) - 1) ∧ ∀ i, i < D.1 7 → rI s 75 i = tx i
/-- the numbers' bounds -/
def Bd (D : Dt) : Prop := (D.1 0 ≤ 12 ∧ D.1 1 ≤ 24 ∧ D.1 2 ≤ 12 ∧ D.1 3 ≤ 8 ∧ D.1 4 ≤ 60 ∧ D.1 5 ≤ 20 ∧ (1 ≤ D.1 6 ∧ D.1 6 ≤ 600) ∧ D.1 7 ≤ 600) ∧ (∀ p, p < D.1 0 → D.2 0 p ≤ 1) ∧ (∀ a, a < D.1 1 → D.2 1 a < D.1 0 ∧ D.2 2 a < D.1 0 ∧ D.2 3 a ≤ 60) ∧ (∀ w, w < D.1 2 → D.2 4 w < D.1 0 ∧ D.2 5 w ≤ 60 ∧ D.2 9 w ≤ 2 ∧ (D.2 11 w < D.1 2 ∧ D.2 12 (D.2 11 w) = w) ∧ (D.2 12 w < D.1 2 ∧ D.2 11 (D.2 12 w) = w)) ∧ (∀ r, r < D.1 3 → D.2 6 r < D.1 2 ∧ D.2 7 r < D.1 2 ∧ D.2 8 r ≤ D.1 2 ∧ D.2 10 r ≤ 1) ∧ ∀ i, i < D.1 4 → D.2 13 i < D.1 2 ∧ D.2 14 i ≤ 999 ∧ ∀ j, j < i → D.2 14 j ≤ D.2 14 i
def Rel (D : Dt) (tx : Nat → Int32) (s : St) : Prop := Bd D ∧ RC D tx s ∧ RM D tx s
theorem RC.keep {D : Dt} {tx : Nat → Int32} {s t : St} (h : RC D tx s) (hk : ∀ k, k ∈ [1, 2, 8, 9, 10, 11, 12, 13, 14, 15, 16, 17, 33, 35, 36, 37, 46] → t.1 k = s.1 k) (h1 : rI t 32 4 = rI s 32 4) (h2 : rI t 38 6 = rI s 38 6) (h3 : rI t 42 4 = rI s 42 4) : RC D tx t := by
  have e : ∀ k, k ∈ [1, 2, 8, 9, 10, 11, 12, 13, 14, 15, 16, 17, 33, 35, 36, 37, 46] → ∀ j, rI t k j = rI s k j := fun k hm j => by show t.1 k j = s.1 k j; rw [hk k hm]
  obtain ⟨a, b, c, d, f⟩ := h
  refine ⟨fun q hq => ?_, fun q hq i hi => ?_, fun i hi => by rw [e 17 (by decide)]; exact c i hi, by rw [h1]; exact d, fun i hi => by rw [e 2 (by decide)]; exact f i hi⟩
  · have hh := a q hq
    rw [← hh]
    simp only [scalC, List.mem_cons, List.not_mem_nil, or_false] at hq
    rcases hq with rfl | rfl | rfl | rfl | rfl | rfl | rfl | rfl <;> first | exact e _ (by decide) _ | exact h2 | exact h3
  · rw [← b q hq i hi]
    simp only [arrC, List.mem_cons, List.not_mem_nil, or_false] at hq
    rcases hq with rfl | rfl | rfl | rfl | rfl | rfl | rfl | rfl | rfl | rfl | rfl | rfl <;> exact e _ (by decide) _
/-- the class's scratch may change -/
theorem RC.kp {D : Dt} {tx : Nat → Int32} {s t : St} (h : RC D tx s) {ks : List Nat} (hk : Kp ks s t) (hd : ∀ k, k ∈ [1, 2, 8, 9, 10, 11, 12, 13, 14, 15, 16, 17, 32, 33, 35, 36, 37, 38, 42, 46] → k ∉ ks) : RC D tx t :=
  h.keep (fun k hm => hk k (hd k (by
    simp only [List.mem_cons, List.not_mem_nil, or_false] at hm ⊢
    omega))) (Kp_rI hk (hd 32 (by decide)) 4) (Kp_rI hk (hd 38 (by decide)) 6) (Kp_rI hk (hd 42 (by decide)) 4)
theorem RM.keep {D : Dt} {tx : Nat → Int32} {s t : St} (h : RM D tx s) (hk : ∀ k, k ∈ [75, 84, 85, 86, 87, 88, 89, 90, 91, 92, 93, 94, 95] → t.1 k = s.1 k) (h1 : ∀ j, j ∈ [1, 18, 20, 24, 29, 32, 35, 36] → rI t 74 j = rI s 74 j) : RM D tx t := by
  have e : ∀ k, k ∈ [75, 84, 85, 86, 87, 88, 89, 90, 91, 92, 93, 94, 95] → ∀ j, rI t k j = rI s k j := fun k hm j => by show t.1 k j = s.1 k j; rw [hk k hm]
  obtain ⟨a, b, c, f⟩ := h
  refine ⟨fun q hq => ?_, fun q hq i hi => ?_, fun i hi => by rw [e 92 (by decide), e 92 (by decide), e 92 (by decide)]; exact c i hi, fun i hi => by rw [e 75 (by decide)]; exact f i hi⟩
  · rw [← a q hq]
    simp only [scalM, List.mem_cons, List.not_mem_nil, or_false] at hq
    rcases hq with rfl | rfl | rfl | rfl | rfl | rfl | rfl | rfl <;> exact h1 _ (by decide)
  · rw [← b q hq i hi]
    simp only [arrM, List.mem_cons, List.not_mem_nil, or_false] at hq
    rcases hq with rfl | rfl | rfl | rfl | rfl | rfl | rfl | rfl | rfl | rfl | rfl <;> exact e _ (by decide) _
theorem RM.kp {D : Dt} {tx : Nat → Int32} {s t : St} (h : RM D tx s) {ks : List Nat} (hk : Kp ks s t) (hd : ∀ k, k ∈ [74, 75, 84, 85, 86, 87, 88, 89, 90, 91, 92, 93, 94, 95] → k ∉ ks) : RM D tx t :=
  h.keep (fun k hm => hk k (hd k (by
    simp only [List.mem_cons, List.not_mem_nil, or_false] at hm ⊢
    omega))) (fun j _ => Kp_rI hk (hd 74 (by decide)) j)
/-- a single number changes -/
theorem RC_dS {D : Dt} {tx : Nat → Int32} {s : St} (h : RC D tx s) {c j k v : Nat} (hq : (c, j, k) ∈ scalC) (hk : k = 4 ∨ k = 5 ∨ k = 6) (hs : ∀ i, D.1 k ≤ i → i < v → ∀ q ∈ arrC, q.2.2 = k → rI s q.1 i = nI (D.2 q.2.1 i)) : RC (dS D k v) tx (wI s c j (nI v)) := by
  obtain ⟨a, b, c1, d, f⟩ := h
  have hc : (c = 35 ∧ j = 2 ∧ k = 4) ∨ (c = 38 ∧ j = 6 ∧ k = 5) ∨ (c = 42 ∧ j = 4 ∧ k = 6) := by
    simp only [scalC, List.mem_cons, List.not_mem_nil, or_false, Prod.mk.injEq] at hq
    omega
  have e1 : ∀ k1, k1 ≠ k → (dS D k v).1 k1 = D.1 k1 := fun k1 h1 => by show va_up D.1 k v k1 = _; simp [va_up, h1]
  have e2 : (dS D k v).1 k = v := by show va_up D.1 k v k = _; simp [va_up]
  refine ⟨fun q hq => ?_, fun q hq i hi => ?_, fun i hi => ?_, ?_, fun i hi => ?_⟩
  · by_cases hk1 : q.2.2 = k
    · have : q = (c, j, k) := by
        simp only [scalC, List.mem_cons, List.not_mem_nil, or_false] at hq
        rcases hq with rfl | rfl | rfl | rfl | rfl | rfl | rfl | rfl <;> simp only [Prod.mk.injEq] <;> simp only [] at hk1 <;> omega
      subst this
      rw [rI_same, e2]
    · rw [e1 _ hk1, ← a q hq]
      apply rI_nk
      simp only [scalC, List.mem_cons, List.not_mem_nil, or_false] at hq
      rcases hq with rfl | rfl | rfl | rfl | rfl | rfl | rfl | rfl <;> simp only [] at hk1 ⊢ <;> omega
  · have hne : q.1 ≠ c := by
      simp only [arrC, List.mem_cons, List.not_mem_nil, or_false] at hq
      rcases hq with rfl | rfl | rfl | rfl | rfl | rfl | rfl | rfl | rfl | rfl | rfl | rfl <;> simp only [] <;> omega
    rw [rI_nk hne]
    by_cases hk1 : q.2.2 = k
    · rw [hk1, e2] at hi
      by_cases hlt : i < D.1 k
      · exact b q hq i (by rw [hk1]; exact hlt)
      · exact hs i (by omega) hi q hq hk1
    · rw [e1 _ hk1] at hi
      exact b q hq i hi
  · rw [rI_nk (by omega)]
    exact c1 i (by rw [e1 3 (by omega)] at hi; exact hi)
  · rw [e1 3 (by omega)]
    show rI (wI s c j (nI v)) 32 4 = bitsI (fun r => decide (D.2 10 r = 1)) (D.1 3)
    rw [← d]
    exact rI_nk (by omega)
  · rw [rI_nk (by omega)]
    exact f i (by rw [e1 7 (by omega)] at hi; exact hi)
theorem RM_dS {D : Dt} {tx : Nat → Int32} {s : St} (h : RM D tx s) {j k v : Nat} (hq : (74, j, k) ∈ scalM) (hk : k = 4 ∨ k = 5 ∨ k = 6) (hs : ∀ i, D.1 k ≤ i → i < v → ∀ q ∈ arrM, q.2.2 = k → rI s q.1 i = nI (D.2 q.2.1 i)) : RM (dS D k v) tx (wI s 74 j (nI v)) := by
  obtain ⟨a, b, c1, f⟩ := h
  have hc : (j = 32 ∧ k = 4) ∨ (j = 35 ∧ k = 5) ∨ (j = 36 ∧ k = 6) := by
    simp only [scalM, List.mem_cons, List.not_mem_nil, or_false, Prod.mk.injEq] at hq
    omega
  have e1 : ∀ k1, k1 ≠ k → (dS D k v).1 k1 = D.1 k1 := fun k1 h1 => by show va_up D.1 k v k1 = _; simp [va_up, h1]
  have e2 : (dS D k v).1 k = v := by show va_up D.1 k v k = _; simp [va_up]
  refine ⟨fun q hq => ?_, fun q hq i hi => ?_, fun i hi => ?_, fun i hi => ?_⟩
  · by_cases hk1 : q.2.2 = k
    · have : q = (74, j, k) := by
        simp only [scalM, List.mem_cons, List.not_mem_nil, or_false] at hq
        rcases hq with rfl | rfl | rfl | rfl | rfl | rfl | rfl | rfl <;> simp only [Prod.mk.injEq, true_and] <;> simp only [] at hk1 <;> omega
      subst this
      rw [rI_same, e2]
    · rw [e1 _ hk1, ← a q hq]
      apply rI_nj
      simp only [scalM, List.mem_cons, List.not_mem_nil, or_false] at hq
      rcases hq with rfl | rfl | rfl | rfl | rfl | rfl | rfl | rfl <;> simp only [] at hk1 ⊢ <;> omega
  · have hne : q.1 ≠ 74 := by
      simp only [arrM, List.mem_cons, List.not_mem_nil, or_false] at hq
      rcases hq with rfl | rfl | rfl | rfl | rfl | rfl | rfl | rfl | rfl | rfl | rfl <;> simp only [] <;> omega
    rw [rI_nk hne]
    by_cases hk1 : q.2.2 = k
    · rw [hk1, e2] at hi
      by_cases hlt : i < D.1 k
      · exact b q hq i (by rw [hk1]; exact hlt)
      · exact hs i (by omega) hi q hq hk1
    · rw [e1 _ hk1] at hi
      exact b q hq i hi
  · rw [rI_nk (by omega), rI_nk (by omega), rI_nk (by omega)]
    exact c1 i (by rw [e1 3 (by omega)] at hi; exact hi)
  · rw [rI_nk (by omega)]
    exact f i (by rw [e1 7 (by omega)] at hi; exact hi)
theorem dA_ne {D : Dt} {a j v a1 i : Nat} (h : a1 ≠ a) : (dA D a j v).2 a1 i = D.2 a1 i := by show va_up D.2 a _ a1 i = _; simp [va_up, h]
theorem dA_nj {D : Dt} {a j v i : Nat} (h : i ≠ j) : (dA D a j v).2 a i = D.2 a i := by show va_up D.2 a _ a i = _; simp [va_up, h]
theorem dA_eq {D : Dt} {a j v : Nat} : (dA D a j v).2 a j = v := by show va_up D.2 a _ a j = _; simp [va_up]
theorem dS_eq {D : Dt} {k v : Nat} : (dS D k v).1 k = v := by show va_up D.1 k v k = _; simp [va_up]
theorem dS_ne {D : Dt} {k v k1 : Nat} (h : k1 ≠ k) : (dS D k v).1 k1 = D.1 k1 := by show va_up D.1 k v k1 = _; simp [va_up, h]
/-- a place of a row changes -/
theorem RC_dA {D : Dt} {tx : Nat → Int32} {s : St} (h : RC D tx s) {c a n j v : Nat} (hq : (c, a, n) ∈ arrC) : RC (dA D a j v) tx (wI s c j (nI v)) := by
  obtain ⟨h1, h2, h3, h4, h5⟩ := h
  have hc : (c, a) ∈ arrC.map (fun q => (q.1, q.2.1)) := List.mem_map.mpr ⟨_, hq, rfl⟩
  have ha : a ≠ 8 ∧ a ≠ 10 := by
    simp only [arrC, List.map_cons, List.map_nil, List.mem_cons, List.not_mem_nil, or_false, Prod.mk.injEq] at hc
    omega
  have hcc : c ≠ 17 ∧ c ≠ 32 ∧ c ≠ 2 ∧ ∀ q ∈ scalC, q.1 ≠ c := by
    simp only [arrC, List.map_cons, List.map_nil, List.mem_cons, List.not_mem_nil, or_false, Prod.mk.injEq] at hc
    refine ⟨by omega, by omega, by omega, fun q hq => ?_⟩
    simp only [scalC, List.mem_cons, List.not_mem_nil, or_false] at hq
    rcases hq with rfl | rfl | rfl | rfl | rfl | rfl | rfl | rfl <;> simp only [] <;> omega
  have hu : ∀ q ∈ arrC, q.1 = c ↔ q.2.1 = a := by
    simp only [arrC, List.map_cons, List.map_nil, List.mem_cons, List.not_mem_nil, or_false, Prod.mk.injEq] at hc
    intro q hq
    simp only [arrC, List.mem_cons, List.not_mem_nil, or_false] at hq
    rcases hq with rfl | rfl | rfl | rfl | rfl | rfl | rfl | rfl | rfl | rfl | rfl | rfl <;> simp only [] <;> omega
  refine ⟨fun q hq => ?_, fun q hq i hi => ?_, fun i hi => ?_, ?_, fun i hi => ?_⟩
  · rw [rI_nk (hcc.2.2.2 q hq)]; exact h1 q hq
  · by_cases hqc : q.1 = c
    · have hqa := (hu q hq).mp hqc
      by_cases hij : i = j
      · subst hij; rw [hqc, rI_same, hqa, dA_eq]
      · rw [rI_nj hij, hqa, dA_nj hij, ← hqa]; exact h2 q hq i hi
    · rw [rI_nk hqc, dA_ne (fun e => hqc ((hu q hq).mpr e))]; exact h2 q hq i hi
  · rw [rI_nk (Ne.symm hcc.1), dA_ne (Ne.symm ha.1)]; exact h3 i hi
  · rw [rI_nk (Ne.symm hcc.2.1)]
    refine h4.trans (bitsI_cong (fun i _ => ?_))
    rw [dA_ne (Ne.symm ha.2)]
  · rw [rI_nk (Ne.symm hcc.2.2.1)]; exact h5 i hi
theorem RM_dA {D : Dt} {tx : Nat → Int32} {s : St} (h : RM D tx s) {c a n j v : Nat} (hq : (c, a, n) ∈ arrM) : RM (dA D a j v) tx (wI s c j (nI v)) := by
  obtain ⟨h1, h2, h3, h5⟩ := h
  have hc : (c, a) ∈ arrM.map (fun q => (q.1, q.2.1)) := List.mem_map.mpr ⟨_, hq, rfl⟩
  have ha : a ≠ 6 ∧ a ≠ 7 ∧ a ≠ 8 := by
    simp only [arrM, List.map_cons, List.map_nil, List.mem_cons, List.not_mem_nil, or_false, Prod.mk.injEq] at hc
    omega
  have hcc : c ≠ 92 ∧ c ≠ 75 ∧ ∀ q ∈ scalM, q.1 ≠ c := by
    simp only [arrM, List.map_cons, List.map_nil, List.mem_cons, List.not_mem_nil, or_false, Prod.mk.injEq] at hc
    refine ⟨by omega, by omega, fun q hq => ?_⟩
    simp only [scalM, List.mem_cons, List.not_mem_nil, or_false] at hq
    rcases hq with rfl | rfl | rfl | rfl | rfl | rfl | rfl | rfl <;> simp only [] <;> omega
  have hu : ∀ q ∈ arrM, q.1 = c ↔ q.2.1 = a := by
    simp only [arrM, List.map_cons, List.map_nil, List.mem_cons, List.not_mem_nil, or_false, Prod.mk.injEq] at hc
    intro q hq
    simp only [arrM, List.mem_cons, List.not_mem_nil, or_false] at hq
    rcases hq with rfl | rfl | rfl | rfl | rfl | rfl | rfl | rfl | rfl | rfl | rfl <;> simp only [] <;> omega
  refine ⟨fun q hq => ?_, fun q hq i hi => ?_, fun i hi => ?_, fun i hi => ?_⟩
  · rw [rI_nk (hcc.2.2 q hq)]; exact h1 q hq
  · by_cases hqc : q.1 = c
    · have hqa := (hu q hq).mp hqc
      by_cases hij : i = j
      · subst hij; rw [hqc, rI_same, hqa, dA_eq]
      · rw [rI_nj hij, hqa, dA_nj hij, ← hqa]; exact h2 q hq i hi
    · rw [rI_nk hqc, dA_ne (fun e => hqc ((hu q hq).mpr e))]; exact h2 q hq i hi
  · rw [rI_nk (Ne.symm hcc.1), rI_nk (Ne.symm hcc.1), rI_nk (Ne.symm hcc.1), dA_ne (Ne.symm ha.1), dA_ne (Ne.symm ha.2.1), dA_ne (Ne.symm ha.2.2)]; exact h3 i hi
  · rw [rI_nk (Ne.symm hcc.2.1)]; exact h5 i hi
/-- a row that only the other side holds may change -/
theorem RC_dA_not {D : Dt} {tx : Nat → Int32} {s : St} (h : RC D tx s) {a j v : Nat} (hq : a = 12) : RC (dA D a j v) tx s := by
  obtain ⟨h1, h2, h3, h4, h5⟩ := h
  subst hq
  refine ⟨h1, fun q hq i hi => ?_, fun i hi => ?_, ?_, h5⟩
  · rw [dA_ne]
    · exact h2 q hq i hi
    · simp only [arrC, List.mem_cons, List.not_mem_nil, or_false] at hq
      rcases hq with rfl | rfl | rfl | rfl | rfl | rfl | rfl | rfl | rfl | rfl | rfl | rfl <;> simp only [] <;> omega
  · rw [dA_ne (by omega)]; exact h3 i hi
  · refine h4.trans (bitsI_cong (fun i _ => ?_))
    rw [dA_ne (by omega)]
theorem RM_dA_not {D : Dt} {tx : Nat → Int32} {s : St} (h : RM D tx s) {a j v : Nat} (hq : a = 11) : RM (dA D a j v) tx s := by
  obtain ⟨h1, h2, h3, h5⟩ := h
  subst hq
  refine ⟨h1, fun q hq i hi => ?_, fun i hi => ?_, h5⟩
  · rw [dA_ne]
    · exact h2 q hq i hi
    · simp only [arrM, List.mem_cons, List.not_mem_nil, or_false] at hq
      rcases hq with rfl | rfl | rfl | rfl | rfl | rfl | rfl | rfl | rfl | rfl | rfl <;> simp only [] <;> omega
  · rw [dA_ne (by omega), dA_ne (by omega), dA_ne (by omega)]; exact h3 i hi
/-- a call: the class answers, then the reference answers alike, and the two stay related -/
def Ok (fc fm : St → Option (Int32 × St)) (s : St) : Prop := ∃ (r : Int32) (s1 s2 : St) (D : Dt) (tx : Nat → Int32), fc s = some (r, s1) ∧ fm s1 = some (r, s2) ∧ Rel D tx s2
theorem cWin0 {D : Dt} {tx : Nat → Int32} {s : St} (h : RC D tx s) {x : Int32} (hx : x < 0 ∨ nI (D.1 2) ≤ x) : f_X10_isWindow x s = some (0, s) := by
  unfold f_X10_isWindow
  rw [show rI s 8 2 = nI (D.1 2) from h.1 (8, 2, 2) (by decide)]
  by_cases h0 : x < 0
  · rw [if_pos h0]
  · rw [if_neg h0, if_pos (hx.resolve_left h0)]
theorem cWin1 {D : Dt} {tx : Nat → Int32} {s : St} (h : RC D tx s) (hb : Bd D) {j : Nat} (hj : j < D.1 2) : f_X10_isWindow (nI j) s = some (1, s) := by
  have := hb.1.2.2.1
  unfold f_X10_isWindow
  rw [show rI s 8 2 = nI (D.1 2) from h.1 (8, 2, 2) (by decide), if_neg (nI_pos (by omega)), if_neg (nI_ge hj (by omega))]
theorem inM0 {x lo hi : Int32} {s : St} (h : x < lo ∨ hi < x) : f_X11_in x lo hi s = some (0, s) := by
  unfold f_X11_in
  by_cases h0 : x < lo
  · rw [if_pos h0]
  · rw [if_neg h0, if_pos (h.resolve_left h0)]
theorem inM1 {x lo hi : Int32} {s : St} (h1 : ¬ x < lo) (h2 : ¬ hi < x) : f_X11_in x lo hi s = some (1, s) := by
  unfold f_X11_in
  rw [if_neg h1, if_neg h2]
theorem nI_pred_toInt {n : Nat} (h : n < 2 ^ 31) : (nI n - 1).toInt = (n : Int) - 1 := by
  have h1 : (1 : Int32).toInt = 1 := by decide
  rw [fb_subI (by rw [nI_toInt h, h1]; omega) (by rw [nI_toInt h, h1]; omega), nI_toInt h, h1]
theorem pred_lt {n : Nat} (hn : n < 2 ^ 31) {x : Int32} (hx : nI n ≤ x) : nI n - 1 < x := by
  rw [fa_le, nI_toInt hn] at hx
  rw [fa_lt, nI_pred_toInt hn]
  omega
theorem pred_nlt {n j : Nat} (hn : n < 2 ^ 31) (hj : j < n) : ¬ nI n - 1 < nI j := by
  rw [fa_lt, nI_pred_toInt hn, nI_toInt (by omega)]
  omega
theorem mWin0 {D : Dt} {tx : Nat → Int32} {s : St} (h : RM D tx s) (hb : Bd D) {x : Int32} (hx : x < 0 ∨ nI (D.1 2) ≤ x) : f_X11_isWindow x s = some (0, s) := by
  have := hb.1.2.2.1
  unfold f_X11_isWindow
  rw [show rI s 74 24 = nI (D.1 2) from h.1 (74, 24, 2) (by decide), inM0 (hx.imp id (pred_lt (by omega))), bd_ok, gb_0]
theorem mWin1 {D : Dt} {tx : Nat → Int32} {s : St} (h : RM D tx s) (hb : Bd D) {j : Nat} (hj : j < D.1 2) : f_X11_isWindow (nI j) s = some (1, s) := by
  have := hb.1.2.2.1
  unfold f_X11_isWindow
  rw [show rI s 74 24 = nI (D.1 2) from h.1 (74, 24, 2) (by decide), inM1 (nI_pos (by omega)) (pred_nlt (by omega) hj), bd_ok, gb_1]
theorem three (x : Int32) {n : Nat} (hn : n < 2 ^ 31) : (x < 0 ∨ nI n ≤ x) ∨ ∃ j : Nat, j < n ∧ x = nI j := by
  rcases pk_ix x hn with h | h | h
  · exact Or.inl (Or.inl h)
  · exact Or.inl (Or.inr h)
  · exact Or.inr h
