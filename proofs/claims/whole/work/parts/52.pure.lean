/-! ===== the reader: words ===== -/
def kbN (k j : Nat) : Nat := ((bytS.getD k []).getD j 0).toNatClampNeg
def kwL (k : Nat) : Nat := lenS.getD k 0
def kw (k : Nat) : Nat := pkN (kbN k) (kwL k)
theorem kb_all : ∀ k, k < 11 → ∀ j, j < 8 → (bytS.getD k []).getD j 0 = nI (kbN k j) ∧ kbN k j ≤ 122 := by decide +kernel
theorem kb_pos : ∀ k, k < 11 → ∀ j, j < 8 → j < kwL k → 97 ≤ kbN k j := by decide +kernel
theorem kwL_in : ∀ k, k < 11 → 1 ≤ kwL k ∧ kwL k ≤ 6 := by decide +kernel
theorem kw_pos : ∀ k, k < 11 → 0 < kw k ∧ kw k < 2 ^ 63 := by decide +kernel
theorem strLen_k {k : Nat} (hk : k < 11) (s : St) : strLen k s = some (nI (kwL k), s) := if_pos hk
theorem strAt_k {k j : Nat} (hk : k < 11) (hj : j < kwL k) (s : St) : strAt k (nI j) s = some (nI (kbN k j), s) := by
  have h6 := kwL_in k hk
  unfold strAt
  rw [if_pos (show k < nS from hk), gi_nI (j := j) (n := lenS.getD k 0) hj (show kwL k < 2 ^ 31 by omega), cl_nI (by omega), (kb_all k hk j (by omega)).1]
/-- a word's letters -/
theorem wordL {tx : Nat → Int32} {N A : Nat} (hA : A ≤ N) (hk : kdA tx N A = 0) : A < enA tx N A ∧ enA tx N A ≤ N ∧ ∀ j, j < enA tx N A - A → qL tx (A + j) = true := by
  have h4 : A ≠ N := fun e => by rw [(kdA_4 tx N A).mpr e] at hk; exact absurd hk (by decide)
  obtain ⟨h1, h2⟩ := enA_in tx hA
  refine ⟨h2 (by omega), h1, fun j hj => ?_⟩
  have c : qL tx A = true := by
    unfold kdA at hk
    rw [if_neg h4] at hk
    by_cases c : qL tx A = true
    · exact c
    · rw [if_neg c] at hk
      split at hk
      · omega
      · split at hk <;> omega
  have ee : enA tx N A = rnQ (qL tx) (N - A) A := by unfold enA; rw [if_neg h4, if_pos c]
  obtain ⟨r1, r2, r3, r4⟩ := rnQ_spec (qL tx) (N - A) A
  exact r3 (A + j) (by omega) (by omega)
/-- the letters from a on, b of them, against those of the word at A -/
theorem wd_eq {tx : Nat → Int32} {N A : Nat} (hA : A ≤ N) (hk : kdA tx N A = 0) {f : Nat → Nat} {n : Nat} (h1 : 1 ≤ n) (h8 : n ≤ 8) (hf : ∀ j, j < n → 0 < f j ∧ f j < 256) : wdA tx N A = pkN f n ↔ enA tx N A - A = n ∧ ∀ j, j < n → ltN tx (A + j) = f j := by
  obtain ⟨w1, w2, w3⟩ := wordL hA hk
  have hpos : 0 < pkN f n := by
    obtain ⟨m, rfl⟩ : ∃ m, n = m + 1 := ⟨n - 1, by omega⟩
    have := hf m (by omega)
    show 0 < pkN f m * 256 + f m
    omega
  unfold wdA
  by_cases l : enA tx N A - A ≤ 8
  · rw [if_pos l, pkN_inj (enA tx N A - A) n (fun j hj => by have := qL_lt (w3 j hj); omega) hf]
    constructor
    · intro ⟨e1, e2⟩
      exact ⟨e1, fun j hj => e2 j (by omega)⟩
    · intro ⟨e1, e2⟩
      exact ⟨e1, fun j hj => e2 j (by omega)⟩
  · rw [if_neg l]
    constructor
    · intro e; omega
    · intro e; omega
theorem wd_lt {tx : Nat → Int32} {N A : Nat} (hA : A ≤ N) (hk : kdA tx N A = 0) : wdA tx N A < 2 ^ 63 ∧ (wdA tx N A = 0 ↔ 8 < enA tx N A - A) := by
  obtain ⟨w1, w2, w3⟩ := wordL hA hk
  unfold wdA
  by_cases l : enA tx N A - A ≤ 8
  · rw [if_pos l]
    refine ⟨pkN_lt63 l (fun j hj => by have := qL_lt (w3 j hj); omega), fun e => ?_, fun e => by omega⟩
    obtain ⟨m, hm⟩ : ∃ m, enA tx N A - A = m + 1 := ⟨enA tx N A - A - 1, by omega⟩
    have := qL_lt (w3 m (by omega))
    rw [hm] at e
    have e2 : pkN (fun k => ltN tx (A + k)) m * 256 + ltN tx (A + m) = 0 := e
    omega
  · rw [if_neg l]
    exact ⟨by decide, fun _ => by omega, fun _ => rfl⟩
/-! the class -/
theorem isWord27_l {tx : Nat → Int32} {N A : Nat} (hA : A ≤ N) (hk : kdA tx N A = 0) {s : St} (ht : TxC tx N s) (h2 : rI s 7 2 = nI A) {k : Nat} (hk11 : k < 11) (hl : enA tx N A - A = kwL k) : ∀ (d i n : Nat), i + d = kwL k → d < n → (∀ j, j < i → ltN tx (A + j) = kbN k j) → l_X9_isWord_27 n k (nI i) s = some (if wdA tx N A = kw k then 1 else 0, s) := by
  obtain ⟨w1, w2, w3⟩ := wordL hA hk
  have hN := ht.1
  have h6 := kwL_in k hk11
  have he : wdA tx N A = kw k ↔ enA tx N A - A = kwL k ∧ ∀ j, j < kwL k → ltN tx (A + j) = kbN k j := wd_eq hA hk h6.1 (by omega) (fun j hj => by have := kb_pos k hk11 j (by omega) hj; have := (kb_all k hk11 j (by omega)).2; omega)
  intro d
  induction d with
  | zero =>
    intro i n hi hn hno
    obtain ⟨n, rfl⟩ : ∃ m, n = m + 1 := ⟨n - 1, by omega⟩
    show b_X9_isWord_27 (l_X9_isWord_27 n) k (nI i) s = _
    unfold b_X9_isWord_27
    rw [strLen_k hk11, bd_ok, if_pos (nI_le (a := kwL k) (b := i) (by omega) (by omega)), if_pos (he.mpr ⟨hl, fun j hj => hno j (by omega)⟩)]
  | succ d ih =>
    intro i n hi hn hno
    obtain ⟨n, rfl⟩ : ∃ m, n = m + 1 := ⟨n - 1, by omega⟩
    have hlt : i < kwL k := by omega
    have hq := qL_lt (w3 i (by omega))
    have hkb := (kb_all k hk11 i (by omega)).2
    show b_X9_isWord_27 (l_X9_isWord_27 n) k (nI i) s = _
    unfold b_X9_isWord_27
    rw [strLen_k hk11, bd_ok, if_neg (nI_ge (a := i) (b := kwL k) hlt (by omega)), h2, nI_add, signAt_c ht (j := A + i) (by omega), bd_ok, strAt_k hk11 hlt, bd_ok, hq.2.2]
    by_cases c : ltN tx (A + i) = kbN k i
    · rw [if_pos (by rw [c]), nI_1]
      refine ih (i + 1) n (by omega) (by omega) (fun j hj => ?_)
      by_cases e : j = i
      · rw [e]; exact c
      · exact hno j (by omega)
    · rw [if_neg (fun q => c ((nI_eq (by omega) (by omega)).mp q)), if_neg (fun q => c ((he.mp q).2 i hlt))]
theorem isWord_c {tx : Nat → Int32} {N A : Nat} (hA : A ≤ N) {s : St} (ht : TxC tx N s) (hk : TkC tx N A s) {k : Nat} (hk11 : k < 11) : f_X9_isWord k s = some (if kdA tx N A = 0 ∧ wdA tx N A = kw k then 1 else 0, s) := by
  have hN := ht.1
  have h4 := kdA_le tx N A
  have h6 := kwL_in k hk11
  obtain ⟨e1, e2⟩ := enA_in tx hA
  unfold f_X9_isWord
  rw [hk.1]
  by_cases c : kdA tx N A = 0
  · obtain ⟨w1, w2, w3⟩ := wordL hA c
    rw [if_pos (by rw [c]; rfl), strLen_k hk11, bd_ok, hk.2.1, hk.2.2.1, pk_sub (by omega)]
    by_cases l : enA tx N A - A = kwL k
    · rw [if_pos (by rw [l])]
      show l_X9_isWord_27 FU k (nI 0) s = _
      rw [isWord27_l hA c ht hk.2.1 hk11 l (kwL k) 0 FU (by omega) (FU_lt (by omega)) (fun j hj => absurd hj (Nat.not_lt_zero j))]
      simp only [c, true_and]
    · rw [if_neg (fun q => l ((nI_eq (by omega) (by omega)).mp q)), if_neg]
      intro q
      exact l ((wd_eq hA c h6.1 (by omega) (fun j hj => by have := kb_pos k hk11 j (by omega) hj; have := (kb_all k hk11 j (by omega)).2; omega)).mp q.2).1
  · rw [if_neg (show ¬ nI (kdA tx N A) = (0 : Int32) from fun q => c ((nI_eq (a := kdA tx N A) (b := 0) (by omega) (by omega)).mp q)), if_neg (fun q => c q.1)]
/-! the reference -/
theorem packed_l {k : Nat} (hk11 : k < 11) (s : St) : ∀ (d i n : Nat), i + d = kwL k → d < n → l_X11_packed_4 n k (lN (pkN (kbN k) i)) (nI i) s = some (lN (kw k), s) := by
  have h6 := kwL_in k hk11
  intro d
  induction d with
  | zero =>
    intro i n hi hn
    obtain ⟨n, rfl⟩ : ∃ m, n = m + 1 := ⟨n - 1, by omega⟩
    have e : i = kwL k := by omega
    subst e
    show b_X11_packed_4 (l_X11_packed_4 n) k _ (nI (kwL k)) s = _
    unfold b_X11_packed_4
    rw [strLen_k hk11, bd_ok, if_pos (nI_le (Nat.le_refl (kwL k)) (by omega))]
    rfl
  | succ d ih =>
    intro i n hi hn
    obtain ⟨n, rfl⟩ : ∃ m, n = m + 1 := ⟨n - 1, by omega⟩
    have hlt : i < kwL k := by omega
    have hkb := (kb_all k hk11 i (by omega)).2
    have hp : pkN (kbN k) i < 256 ^ 7 := by
      have := pkN_lt (f := kbN k) i (fun j hj => by have := (kb_all k hk11 j (by omega)).2; omega)
      have h3 : 256 ^ i ≤ 256 ^ 7 := Nat.pow_le_pow_right (by decide) (by omega)
      omega
    have h56 : (256 : Nat) ^ 7 = 2 ^ 56 := by decide
    show b_X11_packed_4 (l_X11_packed_4 n) k _ (nI i) s = _
    unfold b_X11_packed_4
    rw [strLen_k hk11, bd_ok, if_neg (nI_ge (a := i) (b := kwL k) hlt (by omega)), strAt_k hk11 hlt, bd_ok, nI_l (by omega), show (8 : Int32) = nI 8 from rfl, wb_shl _ (by decide), show (2 ^ 8 : Nat) = 256 from rfl, g_or (k := 8) (p := 256) (by decide) (by omega) (by omega), nI_1]
    exact ih (i + 1) n (by omega) (by omega)
theorem packed_m {k : Nat} (hk11 : k < 11) (s : St) : f_X11_packed k s = some (lN (kw k), s) := by
  have h6 := kwL_in k hk11
  exact packed_l hk11 s (kwL k) 0 FU (by omega) (FU_lt (by omega))
theorem isWord_m {tx : Nat → Int32} {N A : Nat} (hA : A ≤ N) {s : St} (hk : TkM tx N A s) {k : Nat} (hk11 : k < 11) : f_X11_isWord k s = some (if kdA tx N A = 0 ∧ wdA tx N A = kw k then 1 else 0, s) := by
  have h4 := kdA_le tx N A
  unfold f_X11_isWord
  rw [hk.1]
  by_cases c : kdA tx N A = 0
  · rw [if_pos (by rw [c]; rfl), packed_m hk11, bd_ok, hk.2.2.2.2 c]
    by_cases l : wdA tx N A = kw k
    · rw [if_pos ((lg_cmp_eq _ _).mpr (by rw [l])), if_pos ⟨c, l⟩]
    · rw [if_neg (fun q => l ((pk_lEQ (wd_lt hA c).1 (kw_pos k hk11).2).mp ((lg_cmp_eq _ _).mp q))), if_neg (fun q => l q.2)]
  · rw [if_neg (show ¬ nI ((kdA tx N A + 1) % 5) = (1 : Int32) from fun q => by
      have := (nI_eq (a := (kdA tx N A + 1) % 5) (b := 1) (by omega) (by omega)).mp q
      omega), if_neg (fun q => c q.1)]
/-! names -/
def isk (x : Nat) : Prop := ∃ k, k < 11 ∧ x = kw k
def nmP (x : Nat) : Prop := x ≠ 0 ∧ ¬ isk x
theorem kindM {tx : Nat → Int32} {N A : Nat} {s : St} (hk : TkM tx N A s) {c : Nat} (hc : c ≤ 4) : rI s 74 3 = nI ((c + 1) % 5) ↔ kdA tx N A = c := by
  have h4 := kdA_le tx N A
  rw [hk.1, nI_eq (by omega) (by omega)]
  omega
theorem kindC {tx : Nat → Int32} {N A : Nat} {s : St} (hk : TkC tx N A s) {c : Nat} (hc : c ≤ 4) : rI s 7 1 = nI c ↔ kdA tx N A = c := by
  have h4 := kdA_le tx N A
  rw [hk.1, nI_eq (by omega) (by omega)]
theorem kC0 {tx : Nat → Int32} {N A : Nat} {s : St} (hk : TkC tx N A s) : rI s 7 1 = (0 : Int32) ↔ kdA tx N A = 0 := kindC hk (c := 0) (by decide)
theorem kC1 {tx : Nat → Int32} {N A : Nat} {s : St} (hk : TkC tx N A s) : rI s 7 1 = (1 : Int32) ↔ kdA tx N A = 1 := kindC hk (c := 1) (by decide)
theorem kC2 {tx : Nat → Int32} {N A : Nat} {s : St} (hk : TkC tx N A s) : rI s 7 1 = (2 : Int32) ↔ kdA tx N A = 2 := kindC hk (c := 2) (by decide)
theorem kC4 {tx : Nat → Int32} {N A : Nat} {s : St} (hk : TkC tx N A s) : rI s 7 1 = (4 : Int32) ↔ kdA tx N A = 4 := kindC hk (c := 4) (by decide)
theorem kM0 {tx : Nat → Int32} {N A : Nat} {s : St} (hk : TkM tx N A s) : rI s 74 3 = (1 : Int32) ↔ kdA tx N A = 0 := kindM hk (c := 0) (by decide)
theorem kM1 {tx : Nat → Int32} {N A : Nat} {s : St} (hk : TkM tx N A s) : rI s 74 3 = (2 : Int32) ↔ kdA tx N A = 1 := kindM hk (c := 1) (by decide)
theorem kM2 {tx : Nat → Int32} {N A : Nat} {s : St} (hk : TkM tx N A s) : rI s 74 3 = (3 : Int32) ↔ kdA tx N A = 2 := kindM hk (c := 2) (by decide)
theorem kM4 {tx : Nat → Int32} {N A : Nat} {s : St} (hk : TkM tx N A s) : rI s 74 3 = (0 : Int32) ↔ kdA tx N A = 4 := kindM hk (c := 4) (by decide)
theorem one0 {P : Prop} [Decidable P] {α : Type} (a b : α) : (if (if P then (1 : Int32) else 0) = 0 then a else b) = if P then b else a := by
  by_cases c : P
  · simp [c]
  · simp [c]

theorem isKept_c {tx : Nat → Int32} {N A : Nat} (hA : A ≤ N) {s : St} (ht : TxC tx N s) (hk : TkC tx N A s) (h0 : kdA tx N A = 0) : (isk (wdA tx N A) → f_X9_isKept s = some (1, s)) ∧ (¬ isk (wdA tx N A) → f_X9_isKept s = some (0, s)) := by
  have e : ∀ k, k < 11 → f_X9_isWord k s = some (if wdA tx N A = kw k then 1 else 0, s) := fun k hk11 => by
    rw [isWord_c hA ht hk hk11]
    simp only [h0, true_and]
  unfold f_X9_isKept
  rw [e 0 (by decide), bd_ok, one0]
  refine ⟨fun hi => ?_, fun hi => ?_⟩
  · obtain ⟨k, hk11, hx⟩ := hi
    by_cases c0 : wdA tx N A = kw 0
    · rw [if_pos c0]
    rw [if_neg c0]
    rw [e 1 (by decide), bd_ok, one0]
    by_cases c1 : wdA tx N A = kw 1
    · rw [if_pos c1]
    rw [if_neg c1]
    rw [e 2 (by decide), bd_ok, one0]
    by_cases c2 : wdA tx N A = kw 2
    · rw [if_pos c2]
    rw [if_neg c2]
    rw [e 3 (by decide), bd_ok, one0]
    by_cases c3 : wdA tx N A = kw 3
    · rw [if_pos c3]
    rw [if_neg c3]
    rw [e 4 (by decide), bd_ok, one0]
    by_cases c4 : wdA tx N A = kw 4
    · rw [if_pos c4]
    rw [if_neg c4]
    rw [e 5 (by decide), bd_ok, one0]
    by_cases c5 : wdA tx N A = kw 5
    · rw [if_pos c5]
    rw [if_neg c5]
    rw [e 6 (by decide), bd_ok, one0]
    by_cases c6 : wdA tx N A = kw 6
    · rw [if_pos c6]
    rw [if_neg c6]
    rw [e 7 (by decide), bd_ok, one0]
    by_cases c7 : wdA tx N A = kw 7
    · rw [if_pos c7]
    rw [if_neg c7]
    rw [e 8 (by decide), bd_ok, one0]
    by_cases c8 : wdA tx N A = kw 8
    · rw [if_pos c8]
    rw [if_neg c8]
    rw [e 9 (by decide), bd_ok, one0]
    by_cases c9 : wdA tx N A = kw 9
    · rw [if_pos c9]
    rw [if_neg c9]
    rw [e 10 (by decide), bd_ok, one0]
    by_cases c10 : wdA tx N A = kw 10
    · rw [if_pos c10]
    rw [if_neg c10]
    exfalso
    have hkk : k = 0 ∨ k = 1 ∨ k = 2 ∨ k = 3 ∨ k = 4 ∨ k = 5 ∨ k = 6 ∨ k = 7 ∨ k = 8 ∨ k = 9 ∨ k = 10 := by omega
    rcases hkk with rfl | rfl | rfl | rfl | rfl | rfl | rfl | rfl | rfl | rfl | rfl
    · exact c0 hx
    · exact c1 hx
    · exact c2 hx
    · exact c3 hx
    · exact c4 hx
    · exact c5 hx
    · exact c6 hx
    · exact c7 hx
    · exact c8 hx
    · exact c9 hx
    · exact c10 hx
  · have n : ∀ k, k < 11 → ¬ wdA tx N A = kw k := fun k hk11 q => hi ⟨k, hk11, q⟩
    rw [if_neg (n 0 (by decide))]
    rw [e 1 (by decide), bd_ok, one0]
    rw [if_neg (n 1 (by decide))]
    rw [e 2 (by decide), bd_ok, one0]
    rw [if_neg (n 2 (by decide))]
    rw [e 3 (by decide), bd_ok, one0]
    rw [if_neg (n 3 (by decide))]
    rw [e 4 (by decide), bd_ok, one0]
    rw [if_neg (n 4 (by decide))]
    rw [e 5 (by decide), bd_ok, one0]
    rw [if_neg (n 5 (by decide))]
    rw [e 6 (by decide), bd_ok, one0]
    rw [if_neg (n 6 (by decide))]
    rw [e 7 (by decide), bd_ok, one0]
    rw [if_neg (n 7 (by decide))]
    rw [e 8 (by decide), bd_ok, one0]
    rw [if_neg (n 8 (by decide))]
    rw [e 9 (by decide), bd_ok, one0]
    rw [if_neg (n 9 (by decide))]
    rw [e 10 (by decide), bd_ok, one0]
    rw [if_neg (n 10 (by decide))]
theorem isName_c {tx : Nat → Int32} {N A : Nat} (hA : A ≤ N) {s : St} (ht : TxC tx N s) (hk : TkC tx N A s) : (kdA tx N A = 0 ∧ nmP (wdA tx N A) → f_X9_isName s = some (1, s)) ∧ (¬ (kdA tx N A = 0 ∧ nmP (wdA tx N A)) → f_X9_isName s = some (0, s)) := by
  have hN := ht.1
  obtain ⟨e1, e2⟩ := enA_in tx hA
  unfold f_X9_isName
  by_cases c : kdA tx N A = 0
  · obtain ⟨w1, w2, w3⟩ := wordL hA c
    obtain ⟨l1, l2⟩ := wd_lt hA c
    obtain ⟨q1, q2⟩ := isKept_c hA ht hk c
    rw [if_pos ((kC0 hk).mpr c), hk.2.1, hk.2.2.1, pk_sub (by omega)]
    by_cases l : 8 < enA tx N A - A
    · rw [if_pos (show (8 : Int32) < nI (enA tx N A - A) from nI_lt (a := 8) l (by omega))]
      exact ⟨fun q => absurd (l2.mpr l) q.2.1, fun _ => rfl⟩
    · rw [if_neg (show ¬ (8 : Int32) < nI (enA tx N A - A) from nI_nlt (a := 8) (by omega) (by omega))]
      by_cases i : isk (wdA tx N A)
      · rw [q1 i, bd_ok, if_neg (by decide)]
        exact ⟨fun q => absurd i q.2.2, fun _ => rfl⟩
      · rw [q2 i, bd_ok, if_pos rfl]
        exact ⟨fun _ => rfl, fun q => absurd ⟨c, fun z => l (l2.mp z), i⟩ q⟩
  · rw [if_neg (fun q => c ((kC0 hk).mp q))]
    exact ⟨fun q => absurd q.1 c, fun _ => rfl⟩
theorem isName59_m {tx : Nat → Int32} {N A : Nat} (hA : A ≤ N) {s : St} (hk : TkM tx N A s) : (kdA tx N A = 0 ∧ nmP (wdA tx N A) → j_X11_isName_59 0 s = some (1, s)) ∧ (¬ (kdA tx N A = 0 ∧ wdA tx N A ≠ 0 ∧ ∀ k, 6 ≤ k → k < 11 → wdA tx N A ≠ kw k) → j_X11_isName_59 0 s = some (0, s)) ∧ j_X11_isName_59 1 s = some (0, s) := by
  unfold j_X11_isName_59
  by_cases c : kdA tx N A = 0
  · have e : ∀ k, k < 11 → f_X11_isWord k s = some (if wdA tx N A = kw k then 1 else 0, s) := fun k hk11 => by
      rw [isWord_m hA hk hk11]
      simp only [c, true_and]
    rw [if_pos ((kM0 hk).mpr c), if_pos ((kM0 hk).mpr c), hk.2.2.2.2 c]
    by_cases z : wdA tx N A = 0
    · rw [if_pos ((lg_cmp_eq _ _).mpr (by rw [z]; rfl)), if_pos ((lg_cmp_eq _ _).mpr (by rw [z]; rfl))]
      exact ⟨fun q => absurd z q.2.1, fun _ => rfl, rfl⟩
    · have nz : ¬ lg_cmp (lN (wdA tx N A)) 0 = 0 := fun q => z ((pk_lEQ (a := wdA tx N A) (b := 0) (wd_lt hA c).1 (by decide)).mp ((lg_cmp_eq _ _).mp q))
      rw [if_neg nz, if_neg nz, if_pos rfl, if_neg (by decide)]
      refine ⟨fun hi => ?_, fun hi => ?_, rfl⟩
      · have n : ∀ k, k < 11 → ¬ wdA tx N A = kw k := fun k hk11 q => hi.2.2 ⟨k, hk11, q⟩
        rw [e 6 (by decide), bd_ok, one0]
        rw [if_neg (n 6 (by decide))]
        rw [e 7 (by decide), bd_ok, one0]
        rw [if_neg (n 7 (by decide))]
        rw [e 8 (by decide), bd_ok, one0]
        rw [if_neg (n 8 (by decide))]
        rw [e 9 (by decide), bd_ok, one0]
        rw [if_neg (n 9 (by decide))]
        rw [e 10 (by decide), bd_ok, one0]
        rw [if_neg (n 10 (by decide))]
      · rw [e 6 (by decide), bd_ok, one0]
        by_cases c6 : wdA tx N A = kw 6
        · rw [if_pos c6]
        rw [if_neg c6]
        rw [e 7 (by decide), bd_ok, one0]
        by_cases c7 : wdA tx N A = kw 7
        · rw [if_pos c7]
        rw [if_neg c7]
        rw [e 8 (by decide), bd_ok, one0]
        by_cases c8 : wdA tx N A = kw 8
        · rw [if_pos c8]
        rw [if_neg c8]
        rw [e 9 (by decide), bd_ok, one0]
        by_cases c9 : wdA tx N A = kw 9
        · rw [if_pos c9]
        rw [if_neg c9]
        rw [e 10 (by decide), bd_ok, one0]
        by_cases c10 : wdA tx N A = kw 10
        · rw [if_pos c10]
        rw [if_neg c10]
        exfalso
        refine hi ⟨c, z, fun k k1 k2 => ?_⟩
        have hkk : k = 6 ∨ k = 7 ∨ k = 8 ∨ k = 9 ∨ k = 10 := by omega
        rcases hkk with rfl | rfl | rfl | rfl | rfl
        · exact c6
        · exact c7
        · exact c8
        · exact c9
        · exact c10
  · rw [if_neg (fun q => c ((kM0 hk).mp q)), if_neg (fun q => c ((kM0 hk).mp q))]
    exact ⟨fun q => absurd q.1 c, fun _ => rfl, rfl⟩
theorem isName_m {tx : Nat → Int32} {N A : Nat} (hA : A ≤ N) {s : St} (hk : TkM tx N A s) : (kdA tx N A = 0 ∧ nmP (wdA tx N A) → f_X11_isName s = some (1, s)) ∧ (¬ (kdA tx N A = 0 ∧ nmP (wdA tx N A)) → f_X11_isName s = some (0, s)) := by
  obtain ⟨g1, g2, g3⟩ := isName59_m hA hk
  have e : ∀ k, k < 11 → f_X11_isWord k s = some (if kdA tx N A = 0 ∧ wdA tx N A = kw k then 1 else 0, s) := fun k hk11 => isWord_m hA hk hk11
  unfold f_X11_isName
  refine ⟨fun hi => ?_, fun hi => ?_⟩
  · have n : ∀ k, k < 11 → ¬ (kdA tx N A = 0 ∧ wdA tx N A = kw k) := fun k hk11 q => hi.2.2 ⟨k, hk11, q.2⟩
    rw [e 0 (by decide), bd_ok, one0, if_neg (n 0 (by decide))]
    rw [e 1 (by decide), bd_ok, one0, if_neg (n 1 (by decide))]
    rw [e 2 (by decide), bd_ok, one0, if_neg (n 2 (by decide))]
    rw [e 3 (by decide), bd_ok, one0, if_neg (n 3 (by decide))]
    rw [e 4 (by decide), bd_ok, one0, if_neg (n 4 (by decide))]
    rw [e 5 (by decide), bd_ok, one0, if_neg (n 5 (by decide))]
    exact g1 hi
  · rw [e 0 (by decide), bd_ok, one0]
    by_cases c0 : kdA tx N A = 0 ∧ wdA tx N A = kw 0
    · rw [if_pos c0]; exact g3
    rw [if_neg c0]
    rw [e 1 (by decide), bd_ok, one0]
    by_cases c1 : kdA tx N A = 0 ∧ wdA tx N A = kw 1
    · rw [if_pos c1]; exact g3
    rw [if_neg c1]
    rw [e 2 (by decide), bd_ok, one0]
    by_cases c2 : kdA tx N A = 0 ∧ wdA tx N A = kw 2
    · rw [if_pos c2]; exact g3
    rw [if_neg c2]
    rw [e 3 (by decide), bd_ok, one0]
    by_cases c3 : kdA tx N A = 0 ∧ wdA tx N A = kw 3
    · rw [if_pos c3]; exact g3
    rw [if_neg c3]
    rw [e 4 (by decide), bd_ok, one0]
    by_cases c4 : kdA tx N A = 0 ∧ wdA tx N A = kw 4
    · rw [if_pos c4]; exact g3
    rw [if_neg c4]
    rw [e 5 (by decide), bd_ok, one0]
    by_cases c5 : kdA tx N A = 0 ∧ wdA tx N A = kw 5
    · rw [if_pos c5]; exact g3
    rw [if_neg c5]
    refine g2 (fun q => hi ⟨q.1, q.2.1, fun i => ?_⟩)
    obtain ⟨k, hk11, hx⟩ := i
    by_cases hk6 : 6 ≤ k
    · exact q.2.2 k hk6 hk11 hx
    have hkk : k = 0 ∨ k = 1 ∨ k = 2 ∨ k = 3 ∨ k = 4 ∨ k = 5 := by omega
    rcases hkk with rfl | rfl | rfl | rfl | rfl | rfl
    · exact c0 ⟨q.1, hx⟩
    · exact c1 ⟨q.1, hx⟩
    · exact c2 ⟨q.1, hx⟩
    · exact c3 ⟨q.1, hx⟩
    · exact c4 ⟨q.1, hx⟩
    · exact c5 ⟨q.1, hx⟩
