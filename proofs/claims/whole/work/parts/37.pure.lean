/-! ===== explain: all heaps, the class ===== -/
def L1 : Nat → Nat → List (Nat × Nat)
  | 0, _ => []
  | d + 1, i => (2 ^ i, 1) :: L1 d (i + 1)
def L2i (i : Nat) : Nat → Nat → List (Nat × Nat)
  | 0, _ => []
  | d + 1, j => (2 ^ i ||| 2 ^ j, 2) :: L2i i d (j + 1)
def L2 : Nat → Nat → List (Nat × Nat)
  | 0, _ => []
  | d + 1, i => L2i i i 0 ++ L2 d (i + 1)
def L3i (i j : Nat) : Nat → Nat → List (Nat × Nat)
  | 0, _ => []
  | d + 1, k => (2 ^ i ||| 2 ^ j ||| 2 ^ k, 3) :: L3i i j d (k + 1)
def L3m (i : Nat) : Nat → Nat → List (Nat × Nat)
  | 0, _ => []
  | d + 1, j => L3i i j j 0 ++ L3m i d (j + 1)
def L3 : Nat → Nat → List (Nat × Nat)
  | 0, _ => []
  | d + 1, i => L3m i i 0 ++ L3 d (i + 1)
def CL (P : Nat) : List (Nat × Nat) := L1 P 0 ++ (L2 P 0 ++ L3 P 0)
def ML (k : Nat) : Nat → Nat → List (Nat × Nat)
  | 0, _ => []
  | d + 1, c => if onN c = k then (c, k) :: ML k d (c + 1) else ML k d (c + 1)
def MA (P : Nat) : List (Nat × Nat) := ML 0 (2 ^ P) 0 ++ (ML 1 (2 ^ P) 0 ++ (ML 2 (2 ^ P) 0 ++ ML 3 (2 ^ P) 0))
theorem lists_tab : (List.range 13).all (fun P => decide ((0, 0) :: CL P = MA P)) = true := by decide +kernel
theorem lists {P : Nat} (h : P ≤ 12) : (0, 0) :: CL P = MA P := by
  have := List.all_eq_true.mp lists_tab P (List.mem_range.mpr (by omega))
  simpa using this
/-- what holds between two heaps in the class -/
def IvC (D : Dt) (tx : Nat → Int32) (ra : Nat → Nat) (A : Ax) (s : St) : Prop := RC D tx s ∧ rI s 38 7 = nI (La D ra (D.1 4)) ∧ (∀ w, w < D.1 2 → rI s 39 w = nI (fsU D ra (D.1 4) w) - 1) ∧ ClA A s
theorem tryHeap_i {D : Dt} {tx : Nat → Int32} (hb : Bw D) {ra : Nat → Nat} (hle : ∀ i, i < D.1 4 → ra i ≤ 999) {A : Ax} {s : St} (h : IvC D tx ra A s) (c : Nat) {k : Nat} (hk : k ≤ 3) : ∃ u, f_X1_tryHeap (nI c) (nI k) s = some ((), u) ∧ Kx s u ∧ IvC D tx ra (stp D ra A (c, k)) u := by
  obtain ⟨u, a1, a2, a3, a4, a5⟩ := tryHeap_c h.1 hb hle h.2.2.2 h.2.1 h.2.2.1 c hk
  exact ⟨u, a1, a2, RC_x h.1 a2, a3, a4, a5⟩
theorem s117_l {D : Dt} {tx : Nat → Int32} (hb : Bw D) {ra : Nat → Nat} (hle : ∀ i, i < D.1 4 → ra i ≤ 999) {i j : Nat} (hi : i < 12) (hj : j < i) (r94 : Int32 → St → Option (Unit × St)) (r108 : Int32 → Int32 → St → Option (Unit × St)) : ∀ (d k n : Nat) (A : Ax) (s : St), k + d = j → d < n → IvC D tx ra A s → ∃ t, l_X1_search_117 r94 r108 n (nI i) (nI j) (nI k) s = r108 (nI i) (nI (j + 1)) t ∧ Kx s t ∧ IvC D tx ra ((L3i i j d k).foldl (stp D ra) A) t := by
  intro d
  induction d with
  | zero =>
    intro k n A s hk hn h
    obtain ⟨n, rfl⟩ : ∃ m, n = m + 1 := ⟨n - 1, by omega⟩
    refine ⟨s, ?_, Kx_rf s, h⟩
    show b_X1_search_117 r94 r108 (l_X1_search_117 r94 r108 n) (nI i) (nI j) (nI k) s = _
    unfold b_X1_search_117
    rw [if_pos (nI_le (a := j) (b := k) (by omega) (by omega)), nI_1]
  | succ d ih =>
    intro k n A s hk hn h
    obtain ⟨n, rfl⟩ : ∃ m, n = m + 1 := ⟨n - 1, by omega⟩
    obtain ⟨u, a1, a2, a3⟩ := tryHeap_i hb hle h (2 ^ i ||| 2 ^ j ||| 2 ^ k) (k := 3) (by omega)
    obtain ⟨t, b1, b2, b3⟩ := ih (k + 1) n _ u (by omega) (by omega) a3
    refine ⟨t, ?_, Kx_tr a2 b2, b3⟩
    show b_X1_search_117 r94 r108 (l_X1_search_117 r94 r108 n) (nI i) (nI j) (nI k) s = _
    unfold b_X1_search_117
    rw [if_neg (nI_ge (a := k) (b := j) (by omega) (by omega)), shl_P i (by omega), shl_P j (by omega), shl_P k (by omega), fa_or, fa_or, show f_X1_tryHeap (nI (2 ^ i ||| 2 ^ j ||| 2 ^ k)) 3 s = _ from a1, bd_ok, nI_1]
    exact b1
theorem s108_l {D : Dt} {tx : Nat → Int32} (hb : Bw D) {ra : Nat → Nat} (hle : ∀ i, i < D.1 4 → ra i ≤ 999) {i : Nat} (hi : i < 12) (r94 : Int32 → St → Option (Unit × St)) : ∀ (d j n : Nat) (A : Ax) (s : St), j + d = i → d < n → IvC D tx ra A s → ∃ t, l_X1_search_108 r94 n (nI i) (nI j) s = r94 (nI (i + 1)) t ∧ Kx s t ∧ IvC D tx ra ((L3m i d j).foldl (stp D ra) A) t := by
  intro d
  induction d with
  | zero =>
    intro j n A s hj hn h
    obtain ⟨n, rfl⟩ : ∃ m, n = m + 1 := ⟨n - 1, by omega⟩
    refine ⟨s, ?_, Kx_rf s, h⟩
    show b_X1_search_108 r94 (l_X1_search_108 r94 n) (nI i) (nI j) s = _
    unfold b_X1_search_108
    rw [if_pos (nI_le (a := i) (b := j) (by omega) (by omega)), nI_1]
  | succ d ih =>
    intro j n A s hj hn h
    obtain ⟨n, rfl⟩ : ∃ m, n = m + 1 := ⟨n - 1, by omega⟩
    obtain ⟨u, a1, a2, a3⟩ := s117_l (tx := tx) hb hle hi (j := j) (by omega) r94 (l_X1_search_108 r94 n) j 0 FU A s (by omega) (FU_lt (by omega)) h
    obtain ⟨t, b1, b2, b3⟩ := ih (j + 1) n _ u (by omega) (by omega) a3
    refine ⟨t, ?_, Kx_tr a2 b2, ?_⟩
    · show b_X1_search_108 r94 (l_X1_search_108 r94 n) (nI i) (nI j) s = _
      unfold b_X1_search_108
      rw [if_neg (nI_ge (a := j) (b := i) (by omega) (by omega))]
      exact Eq.trans a1 b1
    · rw [show L3m i (d + 1) j = L3i i j j 0 ++ L3m i d (j + 1) from rfl, List.foldl_append]
      exact b3
theorem s94_l {D : Dt} {tx : Nat → Int32} (hb : Bw D) {ra : Nat → Nat} (hle : ∀ i, i < D.1 4 → ra i ≤ 999) : ∀ (d i n : Nat) (A : Ax) (s : St), i + d = D.1 0 → d < n → IvC D tx ra A s → ∃ t, l_X1_search_94 n (nI i) s = some ((), t) ∧ Kx s t ∧ IvC D tx ra ((L3 d i).foldl (stp D ra) A) t := by
  have hP := hb.1.1
  intro d
  induction d with
  | zero =>
    intro i n A s hi hn h
    obtain ⟨n, rfl⟩ : ∃ m, n = m + 1 := ⟨n - 1, by omega⟩
    refine ⟨s, ?_, Kx_rf s, h⟩
    show b_X1_search_94 (l_X1_search_94 n) (nI i) s = _
    unfold b_X1_search_94
    rw [h.1.1 (8, 0, 0) (by decide), if_pos (nI_le (a := D.1 0) (b := i) (by omega) (by omega))]
  | succ d ih =>
    intro i n A s hi hn h
    obtain ⟨n, rfl⟩ : ∃ m, n = m + 1 := ⟨n - 1, by omega⟩
    obtain ⟨u, a1, a2, a3⟩ := s108_l (tx := tx) hb hle (i := i) (by omega) (l_X1_search_94 n) i 0 FU A s (by omega) (FU_lt (by omega)) h
    obtain ⟨t, b1, b2, b3⟩ := ih (i + 1) n _ u (by omega) (by omega) a3
    refine ⟨t, ?_, Kx_tr a2 b2, ?_⟩
    · show b_X1_search_94 (l_X1_search_94 n) (nI i) s = _
      unfold b_X1_search_94
      rw [h.1.1 (8, 0, 0) (by decide), if_neg (nI_ge (a := i) (b := D.1 0) (by omega) (by omega))]
      exact Eq.trans a1 b1
    · rw [show L3 (d + 1) i = L3m i i 0 ++ L3 d (i + 1) from rfl, List.foldl_append]
      exact b3
theorem s61_l {D : Dt} {tx : Nat → Int32} (hb : Bw D) {ra : Nat → Nat} (hle : ∀ i, i < D.1 4 → ra i ≤ 999) {i : Nat} (hi : i < 12) (r47 : Int32 → St → Option (Unit × St)) : ∀ (d j n : Nat) (A : Ax) (s : St), j + d = i → d < n → IvC D tx ra A s → ∃ t, l_X1_search_61 r47 n (nI i) (nI j) s = r47 (nI (i + 1)) t ∧ Kx s t ∧ IvC D tx ra ((L2i i d j).foldl (stp D ra) A) t := by
  intro d
  induction d with
  | zero =>
    intro j n A s hj hn h
    obtain ⟨n, rfl⟩ : ∃ m, n = m + 1 := ⟨n - 1, by omega⟩
    refine ⟨s, ?_, Kx_rf s, h⟩
    show b_X1_search_61 r47 (l_X1_search_61 r47 n) (nI i) (nI j) s = _
    unfold b_X1_search_61
    rw [if_pos (nI_le (a := i) (b := j) (by omega) (by omega)), nI_1]
  | succ d ih =>
    intro j n A s hj hn h
    obtain ⟨n, rfl⟩ : ∃ m, n = m + 1 := ⟨n - 1, by omega⟩
    obtain ⟨u, a1, a2, a3⟩ := tryHeap_i hb hle h (2 ^ i ||| 2 ^ j) (k := 2) (by omega)
    obtain ⟨t, b1, b2, b3⟩ := ih (j + 1) n _ u (by omega) (by omega) a3
    refine ⟨t, ?_, Kx_tr a2 b2, b3⟩
    show b_X1_search_61 r47 (l_X1_search_61 r47 n) (nI i) (nI j) s = _
    unfold b_X1_search_61
    rw [if_neg (nI_ge (a := j) (b := i) (by omega) (by omega)), shl_P i (by omega), shl_P j (by omega), fa_or, show f_X1_tryHeap (nI (2 ^ i ||| 2 ^ j)) 2 s = _ from a1, bd_ok, nI_1]
    exact b1
theorem s47_l {D : Dt} {tx : Nat → Int32} (hb : Bw D) {ra : Nat → Nat} (hle : ∀ i, i < D.1 4 → ra i ≤ 999) : ∀ (d i n : Nat) (A : Ax) (s : St), i + d = D.1 0 → d < n → IvC D tx ra A s → ∃ t, l_X1_search_47 n (nI i) s = some ((), t) ∧ Kx s t ∧ IvC D tx ra ((L2 d i ++ L3 (D.1 0) 0).foldl (stp D ra) A) t := by
  have hP := hb.1.1
  intro d
  induction d with
  | zero =>
    intro i n A s hi hn h
    obtain ⟨n, rfl⟩ : ∃ m, n = m + 1 := ⟨n - 1, by omega⟩
    obtain ⟨t, b1, b2, b3⟩ := s94_l (tx := tx) hb hle (D.1 0) 0 FU A s (by omega) (FU_lt (by omega)) h
    refine ⟨t, ?_, b2, b3⟩
    show b_X1_search_47 (l_X1_search_47 n) (nI i) s = _
    unfold b_X1_search_47
    rw [h.1.1 (8, 0, 0) (by decide), if_pos (nI_le (a := D.1 0) (b := i) (by omega) (by omega))]
    exact b1
  | succ d ih =>
    intro i n A s hi hn h
    obtain ⟨n, rfl⟩ : ∃ m, n = m + 1 := ⟨n - 1, by omega⟩
    obtain ⟨u, a1, a2, a3⟩ := s61_l (tx := tx) hb hle (i := i) (by omega) (l_X1_search_47 n) i 0 FU A s (by omega) (FU_lt (by omega)) h
    obtain ⟨t, b1, b2, b3⟩ := ih (i + 1) n _ u (by omega) (by omega) a3
    refine ⟨t, ?_, Kx_tr a2 b2, ?_⟩
    · show b_X1_search_47 (l_X1_search_47 n) (nI i) s = _
      unfold b_X1_search_47
      rw [h.1.1 (8, 0, 0) (by decide), if_neg (nI_ge (a := i) (b := D.1 0) (by omega) (by omega))]
      exact Eq.trans a1 b1
    · rw [show L2 (d + 1) i = L2i i i 0 ++ L2 d (i + 1) from rfl, List.append_assoc, List.foldl_append]
      exact b3
theorem s20_l {D : Dt} {tx : Nat → Int32} (hb : Bw D) {ra : Nat → Nat} (hle : ∀ i, i < D.1 4 → ra i ≤ 999) : ∀ (d i n : Nat) (A : Ax) (s : St), i + d = D.1 0 → d < n → IvC D tx ra A s → ∃ t, l_X1_search_20 n (nI i) s = some ((), t) ∧ Kx s t ∧ IvC D tx ra ((L1 d i ++ (L2 (D.1 0) 0 ++ L3 (D.1 0) 0)).foldl (stp D ra) A) t := by
  have hP := hb.1.1
  intro d
  induction d with
  | zero =>
    intro i n A s hi hn h
    obtain ⟨n, rfl⟩ : ∃ m, n = m + 1 := ⟨n - 1, by omega⟩
    obtain ⟨t, b1, b2, b3⟩ := s47_l (tx := tx) hb hle (D.1 0) 0 FU A s (by omega) (FU_lt (by omega)) h
    refine ⟨t, ?_, b2, b3⟩
    show b_X1_search_20 (l_X1_search_20 n) (nI i) s = _
    unfold b_X1_search_20
    rw [h.1.1 (8, 0, 0) (by decide), if_pos (nI_le (a := D.1 0) (b := i) (by omega) (by omega))]
    exact b1
  | succ d ih =>
    intro i n A s hi hn h
    obtain ⟨n, rfl⟩ : ∃ m, n = m + 1 := ⟨n - 1, by omega⟩
    obtain ⟨u, a1, a2, a3⟩ := tryHeap_i hb hle h (2 ^ i) (k := 1) (by omega)
    obtain ⟨t, b1, b2, b3⟩ := ih (i + 1) n _ u (by omega) (by omega) a3
    refine ⟨t, ?_, Kx_tr a2 b2, b3⟩
    show b_X1_search_20 (l_X1_search_20 n) (nI i) s = _
    unfold b_X1_search_20
    rw [h.1.1 (8, 0, 0) (by decide), if_neg (nI_ge (a := i) (b := D.1 0) (by omega) (by omega)), shl_P i (by omega), show f_X1_tryHeap (nI (2 ^ i)) 1 s = _ from a1, bd_ok, nI_1]
    exact b1
/-- what both come to -/
def xp (D : Dt) (ra : Nat → Nat) : Ax := (MA (D.1 0)).foldl (stp D ra) (1000000, fun _ => 0)
theorem stp0 {D : Dt} (hb : Bw D) {ra : Nat → Nat} (f g : Nat → Int32) : stp D ra (1000000, f) (0, 0) = stp D ra (1000000, g) (0, 0) := by
  have hW := hb.1.2.2.1
  have hcn := cn_le (D := D) (ra := ra) (h := nI 0) (b := bgn D ra 0)
  have c : cst D ra 0 0 < 1000000 := by unfold cst; omega
  unfold stp
  rw [if_pos c, if_pos c]
theorem xp_any {D : Dt} (hb : Bw D) {ra : Nat → Nat} (f : Nat → Int32) : (MA (D.1 0)).foldl (stp D ra) (1000000, f) = xp D ra := by
  unfold xp
  rw [← lists hb.1.1]
  show (CL (D.1 0)).foldl (stp D ra) (stp D ra (1000000, f) (0, 0)) = (CL (D.1 0)).foldl (stp D ra) (stp D ra (1000000, fun _ => 0) (0, 0))
  rw [stp0 hb f (fun _ => 0)]
theorem search_c {D : Dt} {tx : Nat → Int32} {s : St} (hR : RC D tx s) (hb : Bw D) (hw : ∀ i, i < D.1 4 → D.2 13 i < D.1 2) {ra : Nat → Nat} {x1 x2 : Int32} (hra : ∀ i, i < D.1 4 → (if nI i = x1 then x2 else nI (D.2 14 i)) = nI (ra i)) (hle : ∀ i, i < D.1 4 → ra i ≤ 999) : ∃ u, f_X1_search x1 x2 s = some ((), u) ∧ Kx s u ∧ ClA (xp D ra) u := by
  have hP := hb.1.1
  obtain ⟨s1, a1, a2, a3, a4⟩ := loadRows_c hR hb hw hra hle
  have k1 : Kp [38] s1 (wI s1 38 10 1000000) := Kp_wI Kp.rf (by decide) _ _
  have x1k : Kx s1 (wI s1 38 10 1000000) := Kx_38 k1 (rI_nj (by decide))
  have i0 : IvC D tx ra (1000000, fun j => rI (wI s1 38 10 1000000) 38 (10 + j)) (wI s1 38 10 1000000) := ⟨RC_x hR (Kx_tr a2 x1k), by rw [rI_nj (by decide)]; exact a3, fun w hww => by rw [rI_nk (by decide)]; exact a4 w hww, rI_same _ _ _ _, Nat.le_refl _, fun j _ _ => rfl⟩
  obtain ⟨s2, b1, b2, b3⟩ := tryHeap_i hb hle i0 0 (k := 0) (by omega)
  obtain ⟨u, c1, c2, c3⟩ := s20_l (tx := tx) hb hle (D.1 0) 0 FU _ s2 (by omega) (FU_lt (by omega)) b3
  refine ⟨u, ?_, Kx_tr a2 (Kx_tr x1k (Kx_tr b2 c2)), ?_⟩
  · unfold f_X1_search
    rw [a1, bd_ok]
    show bd (f_X1_tryHeap 0 0 (wI s1 38 10 1000000)) (fun _ t => l_X1_search_20 FU 0 t) = _
    rw [show f_X1_tryHeap 0 0 (wI s1 38 10 1000000) = _ from b1, bd_ok]
    exact c1
  · have := xp_any hb (ra := ra) (fun j => rI (wI s1 38 10 1000000) 38 (10 + j))
    rw [← lists hP] at this
    rw [← this]
    exact c3.2.2.2
