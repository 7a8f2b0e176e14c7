/-! ===== how failing spreads: the numbers alone ===== -/
/-- the bounds without the rows: for a row that is altered -/
def Bw (D : Dt) : Prop := (D.1 0 ≤ 12 ∧ D.1 1 ≤ 24 ∧ D.1 2 ≤ 12 ∧ D.1 3 ≤ 8 ∧ D.1 4 ≤ 60 ∧ D.1 5 ≤ 20 ∧ (1 ≤ D.1 6 ∧ D.1 6 ≤ 600) ∧ D.1 7 ≤ 600) ∧ (∀ p, p < D.1 0 → D.2 0 p ≤ 1) ∧ (∀ a, a < D.1 1 → D.2 1 a < D.1 0 ∧ D.2 2 a < D.1 0 ∧ D.2 3 a ≤ 60) ∧ (∀ w, w < D.1 2 → D.2 4 w < D.1 0 ∧ D.2 5 w ≤ 60 ∧ D.2 9 w ≤ 2 ∧ (D.2 11 w < D.1 2 ∧ D.2 12 (D.2 11 w) = w) ∧ (D.2 12 w < D.1 2 ∧ D.2 11 (D.2 12 w) = w)) ∧ (∀ r, r < D.1 3 → D.2 6 r < D.1 2 ∧ D.2 7 r < D.1 2 ∧ D.2 8 r ≤ D.1 2 ∧ D.2 10 r ≤ 1) ∧ True
theorem Bd_w {D : Dt} (h : Bd D) : Bw D := ⟨h.1, h.2.1, h.2.2.1, h.2.2.2.1, h.2.2.2.2.1, trivial⟩
def sec (D : Dt) (t : Nat → Nat) (a : Nat) : Nat := min (t (D.2 1 a) + D.2 3 a) 1000000
def so (D : Dt) (t : Nat → Nat) : Nat → Nat → Nat
  | 0, _ => 1000000
  | a + 1, p => if D.2 2 a = p then min (so D t a p) (sec D t a) else so D t a p
/-- one more than the latest; 0 without arcs -/
def la (D : Dt) (t : Nat → Nat) : Nat → Nat → Nat
  | 0, _ => 0
  | a + 1, p => if D.2 2 a = p then max (la D t a p) (sec D t a + 1) else la D t a p
def Fw (D : Dt) (t : Nat → Nat) (p : Nat) : Nat := if D.2 0 p = 1 ∧ la D t (D.1 1) p ≠ 0 then la D t (D.1 1) p - 1 else so D t (D.1 1) p
def nx (D : Dt) (t : Nat → Nat) : Nat → Nat := fun p => min (t p) (Fw D t p)
def it (D : Dt) (t : Nat → Nat) : Nat → Nat → Nat
  | 0 => t
  | k + 1 => nx D (it D t k)
theorem sec_le (D : Dt) (t : Nat → Nat) (a : Nat) : sec D t a ≤ 1000000 := Nat.min_le_right _ _
theorem so_le (D : Dt) (t : Nat → Nat) (p : Nat) : ∀ a, so D t a p ≤ 1000000
  | 0 => Nat.le_refl _
  | a + 1 => by
    have := so_le D t p a
    unfold so
    split <;> omega
theorem la_le (D : Dt) (t : Nat → Nat) (p : Nat) : ∀ a, la D t a p ≤ 1000001
  | 0 => by unfold la; omega
  | a + 1 => by
    have := la_le D t p a
    have := sec_le D t a
    unfold la
    split <;> omega
theorem Fw_le (D : Dt) (t : Nat → Nat) (p : Nat) : Fw D t p ≤ 1000000 := by
  have h1 := so_le D t p (D.1 1)
  have h2 := la_le D t p (D.1 1)
  unfold Fw
  split <;> omega
theorem la_z (D : Dt) (t t1 : Nat → Nat) (p : Nat) : ∀ a, la D t a p = 0 ↔ la D t1 a p = 0
  | 0 => Iff.rfl
  | a + 1 => by
    have := la_z D t t1 p a
    unfold la
    split <;> omega
theorem so_far (D : Dt) (t : Nat → Nat) (p : Nat) : ∀ a, la D t a p = 0 → so D t a p = 1000000
  | 0, _ => rfl
  | a + 1, h => by
    have ih := so_far D t p a
    unfold la at h
    unfold so
    by_cases e : D.2 2 a = p
    · rw [if_pos e] at h; omega
    · rw [if_neg e] at h; rw [if_neg e]; exact ih h
/-- what is less everywhere makes fail no later -/
theorem sec_mono {D : Dt} (hb : Bw D) {t t1 : Nat → Nat} (h : ∀ q, q < D.1 0 → t q ≤ t1 q) {a : Nat} (ha : a < D.1 1) : sec D t a ≤ sec D t1 a := by
  have := h _ (hb.2.2.1 a ha).1
  unfold sec
  omega
theorem so_mono {D : Dt} (hb : Bw D) {t t1 : Nat → Nat} (h : ∀ q, q < D.1 0 → t q ≤ t1 q) (p : Nat) : ∀ a, a ≤ D.1 1 → so D t a p ≤ so D t1 a p
  | 0, _ => Nat.le_refl _
  | a + 1, ha => by
    have ih := so_mono hb h p a (by omega)
    have := sec_mono hb h (a := a) (by omega)
    unfold so
    split <;> omega
theorem la_mono {D : Dt} (hb : Bw D) {t t1 : Nat → Nat} (h : ∀ q, q < D.1 0 → t q ≤ t1 q) (p : Nat) : ∀ a, a ≤ D.1 1 → la D t a p ≤ la D t1 a p
  | 0, _ => Nat.le_refl _
  | a + 1, ha => by
    have ih := la_mono hb h p a (by omega)
    have := sec_mono hb h (a := a) (by omega)
    unfold la
    split <;> omega
theorem Fw_mono {D : Dt} (hb : Bw D) {t t1 : Nat → Nat} (h : ∀ q, q < D.1 0 → t q ≤ t1 q) (p : Nat) : Fw D t p ≤ Fw D t1 p := by
  have h1 := so_mono hb h p (D.1 1) (Nat.le_refl _)
  have h2 := la_mono hb h p (D.1 1) (Nat.le_refl _)
  have h3 := la_z D t t1 p (D.1 1)
  unfold Fw
  by_cases c : D.2 0 p = 1 ∧ la D t (D.1 1) p ≠ 0
  · rw [if_pos c, if_pos ⟨c.1, fun q => c.2 (h3.mpr q)⟩]; omega
  · rw [if_neg c, if_neg (fun q => c ⟨q.1, fun z => q.2 (h3.mp z)⟩)]; exact h1
theorem Fw_cong {D : Dt} (hb : Bw D) {t t1 : Nat → Nat} (h : ∀ q, q < D.1 0 → t q = t1 q) (p : Nat) : Fw D t p = Fw D t1 p := Nat.le_antisymm (Fw_mono hb (fun q hq => Nat.le_of_eq (h q hq)) p) (Fw_mono hb (fun q hq => Nat.le_of_eq (h q hq).symm) p)
/-- what changes only at v or later leaves what is v or later there -/
theorem sec_keep {D : Dt} (hb : Bw D) {t t1 : Nat → Nat} {v : Nat} (h : ∀ q, q < D.1 0 → min (t q) v ≤ t1 q) {a : Nat} (ha : a < D.1 1) (hs : v ≤ sec D t a) : v ≤ sec D t1 a := by
  have := h _ (hb.2.2.1 a ha).1
  unfold sec at *
  omega
theorem so_keep {D : Dt} (hb : Bw D) {t t1 : Nat → Nat} {v : Nat} (h : ∀ q, q < D.1 0 → min (t q) v ≤ t1 q) (p : Nat) : ∀ a, a ≤ D.1 1 → v ≤ so D t a p → v ≤ so D t1 a p
  | 0, _, hv => hv
  | a + 1, ha, hv => by
    have ih := so_keep hb h p a (by omega)
    have hs := sec_keep hb h (a := a) (by omega)
    unfold so at hv ⊢
    by_cases e : D.2 2 a = p
    · rw [if_pos e] at hv ⊢
      have := ih (by omega)
      have := hs (by omega)
      omega
    · rw [if_neg e] at hv ⊢
      exact ih hv
theorem la_keep {D : Dt} (hb : Bw D) {t t1 : Nat → Nat} {v : Nat} (h : ∀ q, q < D.1 0 → min (t q) v ≤ t1 q) (p : Nat) : ∀ a, a ≤ D.1 1 → v + 1 ≤ la D t a p → v + 1 ≤ la D t1 a p
  | 0, _, hv => hv
  | a + 1, ha, hv => by
    have ih := la_keep hb h p a (by omega)
    have hs := sec_keep hb h (a := a) (by omega)
    unfold la at hv ⊢
    by_cases e : D.2 2 a = p
    · rw [if_pos e] at hv ⊢
      by_cases c : v + 1 ≤ la D t a p
      · have := ih c; omega
      · have := hs (by omega); omega
    · rw [if_neg e] at hv ⊢
      exact ih hv
theorem Fw_keep {D : Dt} (hb : Bw D) {t t1 : Nat → Nat} {v : Nat} (h : ∀ q, q < D.1 0 → min (t q) v ≤ t1 q) {p : Nat} (hv : v ≤ Fw D t p) : v ≤ Fw D t1 p := by
  have h1 := so_keep hb h p (D.1 1) (Nat.le_refl _)
  have h2 := la_keep hb h p (D.1 1) (Nat.le_refl _)
  have h3 := la_z D t t1 p (D.1 1)
  unfold Fw at *
  by_cases c : D.2 0 p = 1 ∧ la D t (D.1 1) p ≠ 0
  · rw [if_pos c] at hv
    rw [if_pos ⟨c.1, fun q => c.2 (h3.mpr q)⟩]
    have := h2 (by have := c.2; omega)
    omega
  · rw [if_neg c] at hv
    rw [if_neg (fun q => c ⟨q.1, fun z => q.2 (h3.mp z)⟩)]
    exact h1 hv
/-- the reference's choice: the least of those that would fail, and who (one more; 0 for none) -/
def sl (D : Dt) (t : Nat → Nat) : Nat → Nat × Nat
  | 0 => (1000000, 0)
  | p + 1 => if t p = 1000000 ∧ Fw D t p < (sl D t p).1 then (Fw D t p, p + 1) else sl D t p
def ds (D : Dt) (t : Nat → Nat) : Nat → Nat := if (sl D t (D.1 0)).2 = 0 then t else va_up t ((sl D t (D.1 0)).2 - 1) (sl D t (D.1 0)).1
def di (D : Dt) (t : Nat → Nat) : Nat → Nat → Nat
  | 0 => t
  | k + 1 => ds D (di D t k)
theorem di_in (D : Dt) (t : Nat → Nat) : ∀ k, di D (ds D t) k = ds D (di D t k)
  | 0 => rfl
  | k + 1 => by
    show ds D (di D (ds D t) k) = _
    rw [di_in D t k]
    rfl
theorem sl_none (D : Dt) (t : Nat → Nat) : ∀ p, (sl D t p).2 = 0 → (sl D t p).1 = 1000000 ∧ ∀ q, q < p → t q = 1000000 → 1000000 ≤ Fw D t q
  | 0, _ => ⟨rfl, fun q hq => absurd hq (Nat.not_lt_zero q)⟩
  | p + 1, h => by
    have ih := sl_none D t p
    unfold sl at h ⊢
    by_cases c : t p = 1000000 ∧ Fw D t p < (sl D t p).1
    · rw [if_pos c] at h; cases h
    · rw [if_neg c] at h ⊢
      obtain ⟨i1, i2⟩ := ih h
      refine ⟨i1, fun q hq ht => ?_⟩
      by_cases e : q = p
      · subst e
        rw [i1] at c
        omega
      · exact i2 q (by omega) ht
theorem sl_some (D : Dt) (t : Nat → Nat) : ∀ p, (sl D t p).2 ≠ 0 → (sl D t p).2 ≤ p ∧ t ((sl D t p).2 - 1) = 1000000 ∧ (sl D t p).1 = Fw D t ((sl D t p).2 - 1) ∧ (sl D t p).1 < 1000000 ∧ ∀ q, q < p → t q = 1000000 → (sl D t p).1 ≤ Fw D t q
  | 0, h => absurd rfl h
  | p + 1, h => by
    have ih := sl_some D t p
    have ih0 := sl_none D t p
    unfold sl at h ⊢
    by_cases c : t p = 1000000 ∧ Fw D t p < (sl D t p).1
    · rw [if_pos c] at h ⊢
      refine ⟨Nat.le_refl _, c.1, rfl, ?_, fun q hq ht => ?_⟩
      · by_cases z : (sl D t p).2 = 0
        · have := (ih0 z).1; simp only []; omega
        · have := (ih z).2.2.2.1; simp only []; omega
      · show Fw D t p ≤ Fw D t q
        by_cases e : q = p
        · rw [e]; exact Nat.le_refl _
        · by_cases z : (sl D t p).2 = 0
          · have := (ih0 z).2 q (by omega) ht; have := (ih0 z).1; omega
          · have := (ih z).2.2.2.2 q (by omega) ht; omega
    · rw [if_neg c] at h ⊢
      obtain ⟨i1, i2, i3, i4, i5⟩ := ih h
      refine ⟨by omega, i2, i3, i4, fun q hq ht => ?_⟩
      by_cases e : q = p
      · subst e; omega
      · exact i5 q (by omega) ht
/-- what holds at each state of the reference: v was the last second -/
def Dj (D : Dt) (t : Nat → Nat) (v : Nat) : Prop := v ≤ 1000000 ∧ ∀ p, p < D.1 0 → (t p ≠ 1000000 → t p ≤ Fw D t p ∧ t p ≤ v) ∧ (t p = 1000000 → v ≤ Fw D t p)
theorem Dj_step {D : Dt} (hb : Bw D) {t : Nat → Nat} {v : Nat} (h : Dj D t v) : ∃ v1, Dj D (ds D t) v1 := by
  unfold ds
  by_cases z : (sl D t (D.1 0)).2 = 0
  · rw [if_pos z]; exact ⟨v, h⟩
  · rw [if_neg z]
    obtain ⟨i1, i2, i3, i4, i5⟩ := sl_some D t (D.1 0) z
    generalize hu : (sl D t (D.1 0)).1 = u at *
    generalize hn : (sl D t (D.1 0)).2 = n at *
    have hnP : n - 1 < D.1 0 := by omega
    have hvu : v ≤ u := by rw [i3]; exact (h.2 (n - 1) hnP).2 i2
    have eq1 : va_up t (n - 1) u (n - 1) = u := by simp [va_up]
    have ne1 : ∀ q, q ≠ n - 1 → va_up t (n - 1) u q = t q := fun q hq => by simp [va_up, hq]
    refine ⟨u, by omega, fun p hp => ⟨fun hs => ?_, fun hs => ?_⟩⟩
    · by_cases e : p = n - 1
      · subst e
        rw [eq1]
        refine ⟨Fw_keep hb (t := t) (fun q hq => ?_) (by omega), Nat.le_refl _⟩
        by_cases e2 : q = n - 1
        · rw [e2, eq1]; omega
        · rw [ne1 q e2]; omega
      · rw [ne1 p e] at hs ⊢
        have hpp := (h.2 p hp).1 hs
        refine ⟨Fw_keep hb (t := t) (fun q hq => ?_) hpp.1, by omega⟩
        by_cases e2 : q = n - 1
        · rw [e2, eq1]; omega
        · rw [ne1 q e2]; omega
    · have e : p ≠ n - 1 := fun e => by rw [e, eq1] at hs; omega
      rw [ne1 p e] at hs
      refine Fw_keep hb (t := t) (fun q hq => ?_) (i5 p hp hs)
      by_cases e2 : q = n - 1
      · rw [e2, eq1]; omega
      · rw [ne1 q e2]; omega
theorem Dj_di {D : Dt} (hb : Bw D) {t : Nat → Nat} {v : Nat} (h : Dj D t v) : ∀ k, ∃ v1, Dj D (di D t k) v1
  | 0 => ⟨v, h⟩
  | k + 1 => by
    obtain ⟨v1, h1⟩ := Dj_di hb h k
    exact Dj_step hb h1
/-- how many don't fail yet -/
def uc (D : Dt) (t : Nat → Nat) : Nat := fb_ct (fun p => decide (t p = 1000000)) (D.1 0)
theorem uc_step {D : Dt} {t : Nat → Nat} (z : (sl D t (D.1 0)).2 ≠ 0) : uc D (ds D t) + 1 = uc D t := by
  obtain ⟨i1, i2, i3, i4, i5⟩ := sl_some D t (D.1 0) z
  unfold ds
  rw [if_neg z]
  generalize hu : (sl D t (D.1 0)).1 = u at *
  generalize hn : (sl D t (D.1 0)).2 = n at *
  unfold uc
  have hnP : n - 1 < D.1 0 := by omega
  have hup := fb_ct_upd (fun p => decide (t p = 1000000)) false hnP
  have e : fb_ct (fun p => decide (va_up t (n - 1) u p = 1000000)) (D.1 0) = fb_ct (fun k => if k = n - 1 then false else decide (t k = 1000000)) (D.1 0) := fb_ct_cong (fun k _ => by
    by_cases ek : k = n - 1
    · subst ek
      have : ¬ u = 1000000 := by omega
      simp [va_up, this]
    · simp [va_up, ek])
  rw [e]
  have h1 : decide (t (n - 1) = 1000000) = true := by simp [i2]
  simp only [h1] at hup
  simpa using hup
theorem ds_none {D : Dt} {t : Nat → Nat} (z : (sl D t (D.1 0)).2 = 0) : ds D t = t := by unfold ds; rw [if_pos z]
theorem di_end (D : Dt) : ∀ (u : Nat) (t : Nat → Nat), uc D t ≤ u → (sl D (di D t u) (D.1 0)).2 = 0
  | 0, t, h => by
    show (sl D t (D.1 0)).2 = 0
    by_cases z : (sl D t (D.1 0)).2 = 0
    · exact z
    · have := uc_step z; omega
  | u + 1, t, h => by
    by_cases z : (sl D t (D.1 0)).2 = 0
    · have e : ∀ k, di D t k = t := fun k => by
        induction k with
        | zero => rfl
        | succ k ih => show ds D (di D t k) = t; rw [ih, ds_none z]
      rw [e]; exact z
    · have h1 := uc_step z
      have := di_end D u (ds D t) (by omega)
      rw [di_in] at this
      exact this
theorem ds_le {D : Dt} {t : Nat → Nat} : ∀ q, ds D t q ≤ t q := by
  intro q
  unfold ds
  by_cases z : (sl D t (D.1 0)).2 = 0
  · rw [if_pos z]; exact Nat.le_refl _
  · rw [if_neg z]
    obtain ⟨i1, i2, i3, i4, i5⟩ := sl_some D t (D.1 0) z
    by_cases e : q = (sl D t (D.1 0)).2 - 1
    · rw [e, i2]; simp [va_up]; omega
    · simp [va_up, e]
theorem di_le {D : Dt} {t : Nat → Nat} : ∀ k q, di D t k q ≤ t q
  | 0, q => Nat.le_refl _
  | k + 1, q => Nat.le_trans (ds_le q) (di_le k q)
/-- the class's rounds are never behind the reference's steps -/
theorem it_le_di {D : Dt} (hb : Bw D) {t : Nat → Nat} : ∀ k p, p < D.1 0 → it D t k p ≤ di D t k p
  | 0, p, _ => Nat.le_refl _
  | k + 1, p, hp => by
    have ih := it_le_di hb (t := t) k
    show min (it D t k p) (Fw D (it D t k) p) ≤ ds D (di D t k) p
    have hm := Fw_mono hb (fun q hq => ih q hq) p
    have h0 := ih p hp
    unfold ds
    by_cases z : (sl D (di D t k) (D.1 0)).2 = 0
    · rw [if_pos z]; omega
    · rw [if_neg z]
      obtain ⟨i1, i2, i3, i4, i5⟩ := sl_some D (di D t k) (D.1 0) z
      by_cases e : p = (sl D (di D t k) (D.1 0)).2 - 1
      · have : va_up (di D t k) ((sl D (di D t k) (D.1 0)).2 - 1) (sl D (di D t k) (D.1 0)).1 p = (sl D (di D t k) (D.1 0)).1 := by rw [e]; simp [va_up]
        rw [this, i3, ← e]
        omega
      · have : va_up (di D t k) ((sl D (di D t k) (D.1 0)).2 - 1) (sl D (di D t k) (D.1 0)).1 p = di D t k p := by simp [va_up, e]
        rw [this]
        omega
theorem it_ge {D : Dt} (hb : Bw D) {t T : Nat → Nat} (h0 : ∀ p, p < D.1 0 → T p ≤ t p) (hT : ∀ p, p < D.1 0 → T p ≤ Fw D T p) : ∀ k p, p < D.1 0 → T p ≤ it D t k p
  | 0, p, hp => h0 p hp
  | k + 1, p, hp => by
    have ih := it_ge hb h0 hT k
    show T p ≤ min (it D t k p) (Fw D (it D t k) p)
    have := Fw_mono hb (fun q hq => ih q hq) p
    have := hT p hp
    have := ih p hp
    omega
/-- both come to the same seconds -/
theorem it_eq_di {D : Dt} (hb : Bw D) {t : Nat → Nat} {v : Nat} (hj : Dj D t v) (ht : ∀ p, p < D.1 0 → t p ≤ 1000000) : ∀ p, p < D.1 0 → it D t (D.1 0 + 1) p = di D t (D.1 0) p := by
  have hu : uc D t ≤ D.1 0 := fb_ct_le _ _
  have hend := di_end D (D.1 0) t hu
  obtain ⟨v1, hj1⟩ := Dj_di hb hj (D.1 0)
  have hfix : ∀ p, p < D.1 0 → di D t (D.1 0) p ≤ Fw D (di D t (D.1 0)) p := by
    intro p hp
    by_cases e : di D t (D.1 0) p = 1000000
    · have := (sl_none D _ (D.1 0) hend).2 p hp e; omega
    · exact ((hj1.2 p hp).1 e).1
  intro p hp
  have h1 := it_ge hb (t := t) (fun q _ => di_le (D.1 0) q) hfix (D.1 0 + 1) p hp
  have h2 := it_le_di hb (t := t) (D.1 0 + 1) p hp
  have h3 : di D t (D.1 0 + 1) p = di D t (D.1 0) p := by
    show ds D (di D t (D.1 0)) p = _
    rw [ds_none hend]
  omega
