/-! ===== the reader: tokens ===== -/
def isLb (x : Int32) : Bool := decide (¬ x < 97 ∧ ¬ 122 < x)
def isDb (x : Int32) : Bool := decide (¬ x < 48 ∧ ¬ 57 < x)
def isBb (x : Int32) : Bool := decide (x = 32 ∨ x = 10)
theorem isL_c (x : Int32) (s : St) : f_X9_isLetter x s = some (if isLb x then 1 else 0, s) := by
  unfold f_X9_isLetter isLb
  by_cases a : x < 97
  · simp [a]
  · by_cases b : 122 < x
    · simp [a, b]
    · simp [a, b]
theorem isL_m (x : Int32) (s : St) : f_X11_isLetter x s = some (if isLb x then 1 else 0, s) := by
  unfold f_X11_isLetter isLb
  by_cases a : x < 97
  · simp [a]
  · by_cases b : 122 < x
    · simp [a, b]
    · simp [a, b]
theorem isD_c (x : Int32) (s : St) : f_X9_isDigit x s = some (if isDb x then 1 else 0, s) := by
  unfold f_X9_isDigit isDb
  by_cases a : x < 48
  · simp [a]
  · by_cases b : 57 < x
    · simp [a, b]
    · simp [a, b]
theorem isD_m (x : Int32) (s : St) : f_X11_isDigit x s = some (if isDb x then 1 else 0, s) := by
  unfold f_X11_isDigit isDb
  by_cases a : x < 48
  · simp [a]
  · by_cases b : 57 < x
    · simp [a, b]
    · simp [a, b]
theorem isB_c (x : Int32) (s : St) : f_X9_isBlank x s = some (if isBb x then 1 else 0, s) := by
  unfold f_X9_isBlank isBb
  by_cases a : x = 32
  · simp [a]
  · by_cases b : x = 10
    · simp [b]
    · simp [a, b]
/-- a letter, a digit as a number -/
theorem letter {x : Int32} (h : isLb x = true) : ∃ t : Nat, 97 ≤ t ∧ t ≤ 122 ∧ x = nI t := by
  unfold isLb at h
  obtain ⟨h1, h2⟩ := of_decide_eq_true h
  have e1 : (97 : Int32).toInt = 97 := by decide
  have e2 : (122 : Int32).toInt = 122 := by decide
  rw [fa_lt, e1] at h1
  rw [fa_lt, e2] at h2
  have e0 : (0 : Int32).toInt = 0 := by decide
  obtain ⟨j, hj, rfl⟩ := nI_of (x := x) (by rw [fa_lt, e0]; omega)
  rw [nI_toInt hj] at h1 h2
  exact ⟨j, by omega, by omega, rfl⟩
theorem digit {x : Int32} (h : isDb x = true) : ∃ t : Nat, t ≤ 9 ∧ x = nI (48 + t) := by
  unfold isDb at h
  obtain ⟨h1, h2⟩ := of_decide_eq_true h
  have e1 : (48 : Int32).toInt = 48 := by decide
  have e2 : (57 : Int32).toInt = 57 := by decide
  rw [fa_lt, e1] at h1
  rw [fa_lt, e2] at h2
  have e0 : (0 : Int32).toInt = 0 := by decide
  obtain ⟨j, hj, rfl⟩ := nI_of (x := x) (by rw [fa_lt, e0]; omega)
  rw [nI_toInt hj] at h1 h2
  exact ⟨j - 48, by omega, by rw [show 48 + (j - 48) = j by omega]⟩
/-- how far q holds, from i on, at most d steps -/
def rnQ (q : Nat → Bool) : Nat → Nat → Nat
  | 0, i => i
  | d + 1, i => if q i then rnQ q d (i + 1) else i
theorem rnQ_y {q : Nat → Bool} {d i : Nat} (h : q i = true) : rnQ q (d + 1) i = rnQ q d (i + 1) := if_pos h
theorem rnQ_n {q : Nat → Bool} {d i : Nat} (h : q i = false) : rnQ q (d + 1) i = i := if_neg (by rw [h]; decide)
theorem rnQ_spec (q : Nat → Bool) : ∀ d i, i ≤ rnQ q d i ∧ rnQ q d i ≤ i + d ∧ (∀ k, i ≤ k → k < rnQ q d i → q k = true) ∧ (rnQ q d i < i + d → q (rnQ q d i) = false)
  | 0, i => ⟨Nat.le_refl _, Nat.le_refl _, fun k h1 h2 => absurd h2 (Nat.not_lt.mpr h1), fun h => absurd h (Nat.lt_irrefl _)⟩
  | d + 1, i => by
    by_cases c : q i = true
    · obtain ⟨h1, h2, h3, h4⟩ := rnQ_spec q d (i + 1)
      rw [rnQ_y c]
      refine ⟨by omega, by omega, fun k k1 k2 => ?_, fun h => h4 (by omega)⟩
      by_cases e : k = i
      · rw [e]; exact c
      · exact h3 k (by omega) k2
    · have cf : q i = false := by simpa using c
      rw [rnQ_n cf]
      exact ⟨Nat.le_refl _, by omega, fun k h1 h2 => absurd h2 (Nat.not_lt.mpr h1), fun _ => cf⟩
def qB (tx : Nat → Int32) (k : Nat) : Bool := isBb (tx k)
def qL (tx : Nat → Int32) (k : Nat) : Bool := isLb (tx k)
def qD (tx : Nat → Int32) (k : Nat) : Bool := isDb (tx k)
/-- the kind of the token that starts at A: 0 word, 1 number, 2 semicolon, 3 bad, 4 over -/
def kdA (tx : Nat → Int32) (N A : Nat) : Nat := if A = N then 4 else if qL tx A then 0 else if qD tx A then 1 else if tx A = 59 then 2 else 3
/-- where it stops -/
def enA (tx : Nat → Int32) (N A : Nat) : Nat := if A = N then N else if qL tx A then rnQ (qL tx) (N - A) A else if qD tx A then rnQ (qD tx) (N - A) A else A + 1
/-- where the next one starts -/
def nxA (tx : Nat → Int32) (N A : Nat) : Nat := rnQ (qB tx) (N - enA tx N A) (enA tx N A)
theorem enA_in (tx : Nat → Int32) {N A : Nat} (h : A ≤ N) : enA tx N A ≤ N ∧ (A < N → A < enA tx N A) := by
  unfold enA
  by_cases e : A = N
  · rw [if_pos e]; exact ⟨Nat.le_refl _, fun q => absurd e (Nat.ne_of_lt q)⟩
  · rw [if_neg e]
    obtain ⟨d, hd⟩ : ∃ d, N - A = d + 1 := ⟨N - A - 1, by omega⟩
    by_cases c : qL tx A = true
    · have := rnQ_spec (qL tx) d (A + 1)
      rw [if_pos c, hd, rnQ_y c]
      exact ⟨by omega, fun _ => by omega⟩
    · rw [if_neg c]
      by_cases c2 : qD tx A = true
      · have := rnQ_spec (qD tx) d (A + 1)
        rw [if_pos c2, hd, rnQ_y c2]
        exact ⟨by omega, fun _ => by omega⟩
      · rw [if_neg c2]
        exact ⟨by omega, fun _ => by omega⟩
theorem nxA_in (tx : Nat → Int32) {N A : Nat} (h : A ≤ N) : nxA tx N A ≤ N ∧ (A < N → A < nxA tx N A) := by
  obtain ⟨h1, h2⟩ := enA_in tx h
  obtain ⟨g1, g2, _, _⟩ := rnQ_spec (qB tx) (N - enA tx N A) (enA tx N A)
  unfold nxA
  exact ⟨by omega, fun q => by have := h2 q; omega⟩
theorem kdA_4 (tx : Nat → Int32) (N A : Nat) : kdA tx N A = 4 ↔ A = N := by
  unfold kdA
  by_cases e : A = N
  · simp [e]
  · rw [if_neg e]
    constructor
    · intro q
      split at q
      · omega
      · split at q
        · omega
        · split at q <;> omega
    · intro q; exact absurd q e
theorem kdA_le (tx : Nat → Int32) (N A : Nat) : kdA tx N A ≤ 4 := by
  unfold kdA
  split
  · omega
  · split
    · omega
    · split
      · omega
      · split <;> omega
/-- the digits' value, as the class and as the reference reckon it -/
def dgN (tx : Nat → Int32) (k : Nat) : Nat := (tx k).toNatClampNeg - 48
def cvN (tx : Nat → Int32) (A : Nat) : Nat → Nat
  | 0 => 0
  | k + 1 => min (cvN tx A k * 10 + dgN tx (A + k)) 100000
def mvN (tx : Nat → Int32) (A : Nat) : Nat → Nat
  | 0 => 0
  | k + 1 => if 999 < mvN tx A k then mvN tx A k else 10 * mvN tx A k + dgN tx (A + k)
theorem qD_dg {tx : Nat → Int32} {k : Nat} (h : qD tx k = true) : dgN tx k ≤ 9 ∧ tx k = nI (48 + dgN tx k) := by
  obtain ⟨t, h1, h2⟩ := digit h
  have : dgN tx k = t := by
    unfold dgN
    rw [h2, cl_nI (by omega)]
    omega
  rw [this]
  exact ⟨h1, h2⟩
theorem cv_le (tx : Nat → Int32) (A : Nat) : ∀ k, cvN tx A k ≤ 100000
  | 0 => Nat.zero_le _
  | _ + 1 => Nat.min_le_right _ _
theorem cv_mv (tx : Nat → Int32) (A : Nat) : ∀ k, (∀ j, j < k → dgN tx (A + j) ≤ 9) → min (cvN tx A k) 1000 = min (mvN tx A k) 1000 ∧ mvN tx A k ≤ 9999
  | 0, _ => ⟨rfl, by show 0 ≤ 9999; omega⟩
  | k + 1, h => by
    obtain ⟨h1, h2⟩ := cv_mv tx A k (fun j hj => h j (by omega))
    have h3 := h k (by omega)
    have e1 : cvN tx A (k + 1) = min (cvN tx A k * 10 + dgN tx (A + k)) 100000 := rfl
    have e2 : mvN tx A (k + 1) = if 999 < mvN tx A k then mvN tx A k else 10 * mvN tx A k + dgN tx (A + k) := rfl
    rw [e1, e2]
    split <;> omega
/-- the number, 1000 for all beyond 999 -/
def vlA (tx : Nat → Int32) (N A : Nat) : Nat := min (cvN tx A (enA tx N A - A)) 1000
/-- letters packed -/
def ltN (tx : Nat → Int32) (k : Nat) : Nat := (tx k).toNatClampNeg
def pkN (f : Nat → Nat) : Nat → Nat
  | 0 => 0
  | k + 1 => pkN f k * 256 + f k
def wdA (tx : Nat → Int32) (N A : Nat) : Nat := if enA tx N A - A ≤ 8 then pkN (fun k => ltN tx (A + k)) (enA tx N A - A) else 0
theorem qL_lt {tx : Nat → Int32} {k : Nat} (h : qL tx k = true) : 97 ≤ ltN tx k ∧ ltN tx k ≤ 122 ∧ tx k = nI (ltN tx k) := by
  obtain ⟨t, h1, h2, h3⟩ := letter h
  have : ltN tx k = t := by
    unfold ltN
    rw [h3, cl_nI (by omega)]
  rw [this]
  exact ⟨h1, h2, h3⟩
theorem pkN_inj {f g : Nat → Nat} : ∀ n m, (∀ k, k < n → 0 < f k ∧ f k < 256) → (∀ k, k < m → 0 < g k ∧ g k < 256) → (pkN f n = pkN g m ↔ n = m ∧ ∀ k, k < n → f k = g k)
  | 0, 0, _, _ => ⟨fun _ => ⟨rfl, fun k hk => absurd hk (Nat.not_lt_zero k)⟩, fun _ => rfl⟩
  | 0, m + 1, _, hg => by
    have := hg m (by omega)
    constructor
    · intro e
      have e2 : 0 = pkN g m * 256 + g m := e
      omega
    · intro e; exact absurd e.1 (by omega)
  | n + 1, 0, hf, _ => by
    have := hf n (by omega)
    constructor
    · intro e
      have e2 : pkN f n * 256 + f n = 0 := e
      omega
    · intro e; exact absurd e.1 (by omega)
  | n + 1, m + 1, hf, hg => by
    have h1 := hf n (by omega)
    have h2 := hg m (by omega)
    have ih := pkN_inj n m (fun k hk => hf k (by omega)) (fun k hk => hg k (by omega))
    constructor
    · intro e
      have e2 : pkN f n * 256 + f n = pkN g m * 256 + g m := e
      have e3 : pkN f n = pkN g m := by omega
      have e4 : f n = g m := by omega
      obtain ⟨i1, i2⟩ := ih.mp e3
      subst i1
      refine ⟨rfl, fun k hk => ?_⟩
      by_cases q : k = n
      · rw [q]; exact e4
      · exact i2 k (by omega)
    · intro e
      obtain ⟨i1, i2⟩ := e
      have i3 : n = m := by omega
      subst i3
      have := ih.mpr ⟨rfl, fun k hk => i2 k (by omega)⟩
      show pkN f n * 256 + f n = pkN g n * 256 + g n
      rw [this, i2 n (by omega)]
theorem pkN_lt {f : Nat → Nat} : ∀ n, (∀ k, k < n → f k < 256) → pkN f n < 256 ^ n
  | 0, _ => Nat.one_pos
  | n + 1, h => by
    have ih := pkN_lt n (fun k hk => h k (by omega))
    have := h n (by omega)
    rw [Nat.pow_succ]
    show pkN f n * 256 + f n < _
    omega
theorem pkN_lt63 {f : Nat → Nat} {n : Nat} (hn : n ≤ 8) (h : ∀ k, k < n → f k < 128) : pkN f n < 2 ^ 63 := by
  cases n with
  | zero => show 0 < 2 ^ 63; decide
  | succ n =>
    have h1 := pkN_lt (f := f) n (fun k hk => by have := h k (by omega); omega)
    have h2 := h n (by omega)
    have h3 : 256 ^ n ≤ 256 ^ 7 := Nat.pow_le_pow_right (by decide) (by omega)
    have h4 : ∀ m, m < n → f m < 128 := fun m hm => h m (by omega)
    show pkN f n * 256 + f n < 2 ^ 63
    -- the highest letter is below 128
    have h5 : ∀ m, m ≤ 7 → (∀ k, k < m + 1 → f k < 128) → pkN f (m + 1) < 128 * 256 ^ m := by
      intro m
      induction m with
      | zero => intro _ hk; show 0 * 256 + f 0 < 128 * 1; have := hk 0 (by omega); omega
      | succ m ih =>
        intro hm hk
        have := ih (by omega) (fun k hk2 => hk k (by omega))
        have hx := hk (m + 1) (by omega)
        show pkN f (m + 1) * 256 + f (m + 1) < 128 * 256 ^ (m + 1)
        rw [Nat.pow_succ]
        omega
    have h6 := h5 n (by omega) (fun k hk => h k (by omega))
    have h7 : 128 * 256 ^ n ≤ 128 * 256 ^ 7 := by omega
    have h8 : 128 * 256 ^ 7 = 2 ^ 63 := by decide
    have h9 : pkN f (n + 1) = pkN f n * 256 + f n := rfl
    omega
