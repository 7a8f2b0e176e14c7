/-! ===== the reader: one more is added to the draft ===== -/
theorem dA2 (D : Dt) (a j v a1 i : Nat) : (dA D a j v).2 a1 i = if a1 = a ∧ i = j then v else D.2 a1 i := by
  by_cases e : a1 = a
  · subst e
    by_cases e2 : i = j
    · subst e2; rw [dA_eq]; simp
    · rw [dA_nj e2]; simp [e2]
  · rw [dA_ne e]; simp [e]
theorem dA1 (D : Dt) (a j v : Nat) : (dA D a j v).1 = D.1 := rfl
theorem dS2 (D : Dt) (k v : Nat) : (dS D k v).2 = D.2 := rfl
theorem dS1 (D : Dt) (k v k1 : Nat) : (dS D k v).1 k1 = if k1 = k then v else D.1 k1 := by
  by_cases e : k1 = k
  · subst e; rw [dS_eq]; simp
  · rw [dS_ne e]; simp [e]
def addP (E : Dt) (al x : Nat) : Dt := dS (dA (dA E 0 (E.1 0) al) 20 (E.1 0) x) 0 (E.1 0 + 1)
def addA (E : Dt) (a b c : Nat) : Dt := dS (dA (dA (dA E 1 (E.1 1) a) 2 (E.1 1) b) 3 (E.1 1) c) 1 (E.1 1 + 1)
def addW (E : Dt) (p l : Nat) : Dt := dS (dA (dA E 4 (E.1 2) p) 5 (E.1 2) l) 2 (E.1 2 + 1)
def addR (E : Dt) (a b c : Nat) : Dt := dS (dA (dA (dA E 6 (E.1 3) a) 7 (E.1 3) b) 8 (E.1 3) c) 3 (E.1 3 + 1)
theorem BE_addP {E : Dt} (h : BE E) (hn : E.1 0 < 12) {al x : Nat} (ha : al ≤ 1) (hx : nmP x) (hx2 : x < 2 ^ 63) : BE (addP E al x) := by
  obtain ⟨h1, h2, h3, h4, h5⟩ := h
  unfold addP BE
  simp only [dS1, dS2, dA1, dA2]
  refine ⟨by simp; omega, fun p hp => ?_, fun a ha => ?_, fun w hw => ?_, fun r hr => ?_⟩
  · by_cases e : p = E.1 0
    · simp [e, ha, hx, hx2]
    · have := h2 p (by simp at hp; omega)
      simpa [e] using this
  · have := h3 a (by simpa using ha)
    simp
    omega
  · have := h4 w (by simpa using hw)
    simp
    omega
  · have := h5 r (by simpa using hr)
    simpa using this
theorem BE_addA {E : Dt} (h : BE E) (hn : E.1 1 < 24) {a b c : Nat} (ha : a < E.1 0) (hb : b < E.1 0) (hc : c ≤ 60) : BE (addA E a b c) := by
  obtain ⟨h1, h2, h3, h4, h5⟩ := h
  unfold addA BE
  simp only [dS1, dS2, dA1, dA2]
  refine ⟨by simp; omega, fun p hp => ?_, fun q hq => ?_, fun w hw => ?_, fun r hr => ?_⟩
  · have := h2 p (by simpa using hp)
    simpa using this
  · by_cases e : q = E.1 1
    · simp [e, ha, hb, hc]
    · have := h3 q (by simp at hq; omega)
      simpa [e] using this
  · have := h4 w (by simpa using hw)
    simpa using this
  · have := h5 r (by simpa using hr)
    simpa using this
theorem BE_addW {E : Dt} (h : BE E) (hn : E.1 2 < 12) {p l : Nat} (hp : p < E.1 0) (hl : l ≤ 60) : BE (addW E p l) := by
  obtain ⟨h1, h2, h3, h4, h5⟩ := h
  unfold addW BE
  simp only [dS1, dS2, dA1, dA2]
  refine ⟨by simp; omega, fun p hp => ?_, fun q hq => ?_, fun w hw => ?_, fun r hr => ?_⟩
  · have := h2 p (by simpa using hp)
    simpa using this
  · have := h3 q (by simpa using hq)
    simpa using this
  · by_cases e : w = E.1 2
    · simp [e, hp, hl]
    · have := h4 w (by simp at hw; omega)
      simpa [e] using this
  · have := h5 r (by simpa using hr)
    simp
    omega
theorem BE_addR {E : Dt} (h : BE E) (hn : E.1 3 < 8) {a b c : Nat} (ha : a < E.1 2) (hb : b < E.1 2) (hc : c ≤ E.1 2) : BE (addR E a b c) := by
  obtain ⟨h1, h2, h3, h4, h5⟩ := h
  unfold addR BE
  simp only [dS1, dS2, dA1, dA2]
  refine ⟨by simp; omega, fun p hp => ?_, fun q hq => ?_, fun w hw => ?_, fun r hr => ?_⟩
  · have := h2 p (by simpa using hp)
    simpa using this
  · have := h3 q (by simpa using hq)
    simpa using this
  · have := h4 w (by simpa using hw)
    simpa using this
  · by_cases e : r = E.1 3
    · simp [e, ha, hb, hc]
    · have := h5 r (by simp at hr; omega)
      simpa [e] using this
def catA (a : Nat) : Nat := [0, 1, 1, 1, 2, 2, 3, 3, 3].getD a 0
theorem arrE_f : ∀ q ∈ arrE, q.1 ≠ 18 ∧ q.1 ≠ 27 ∧ q.1 ≠ 4 ∧ q.1 ≠ 5 ∧ catA q.2.1 = q.2.2 ∧ q.2.2 < 4 := by decide
theorem arrE_u : ∀ q ∈ arrE, ∀ r ∈ arrE, r.1 = q.1 → r.2.2 = q.2.2 := by decide
theorem arrF_f : ∀ q ∈ arrF, q.1 ≠ 74 ∧ q.1 ≠ 83 ∧ catA q.2.1 = q.2.2 ∧ q.2.2 < 3 := by decide
theorem arrF_u : ∀ q ∈ arrF, ∀ r ∈ arrF, r.1 = q.1 → r.2.2 = q.2.2 := by decide
theorem DC.w {tx : Nat → Int32} {N : Nat} {E : Dt} {s : St} (h : DC tx N E s) {q : Nat × Nat × Nat} (hq : q ∈ arrE) (v : Int32) : DC tx N E (wI s q.1 (E.1 q.2.2) v) := by
  obtain ⟨h1, h2, h3, h4⟩ := h
  obtain ⟨f1, f2, f3, f4, _, _⟩ := arrE_f q hq
  refine ⟨fun k hk => by rw [rI_nk (Ne.symm f1)]; exact h1 k hk, fun r hr i hi => ?_, fun i hi => by rw [rI_nk (Ne.symm f2)]; exact h3 i hi, fun p hp => by rw [rI_nk (Ne.symm f3), rI_nk (Ne.symm f4)]; exact h4 p hp⟩
  by_cases e : r.1 = q.1
  · have := arrE_u q hq r hr e
    rw [rI_nj (by rw [this] at hi; omega)]
    exact h2 r hr i hi
  · rw [rI_nk e]; exact h2 r hr i hi
theorem DC.w27 {tx : Nat → Int32} {N : Nat} {E : Dt} {s : St} (h : DC tx N E s) (v : Int32) : DC tx N E (wI s 27 (E.1 3) v) := by
  obtain ⟨h1, h2, h3, h4⟩ := h
  refine ⟨fun k hk => by rw [rI_nk (by decide)]; exact h1 k hk, fun r hr i hi => ?_, fun i hi => by rw [rI_nj (by omega)]; exact h3 i hi, fun p hp => by rw [rI_nk (by decide), rI_nk (by decide)]; exact h4 p hp⟩
  rw [rI_nk (arrE_f r hr).2.1]
  exact h2 r hr i hi
theorem DC.w45 {tx : Nat → Int32} {N : Nat} {E : Dt} {s : St} (h : DC tx N E s) {c : Nat} (hc : c = 4 ∨ c = 5) (v : Int32) : DC tx N E (wI s c (E.1 0) v) := by
  obtain ⟨h1, h2, h3, h4⟩ := h
  refine ⟨fun k hk => by rw [rI_nk (by omega)]; exact h1 k hk, fun r hr i hi => ?_, fun i hi => by rw [rI_nk (by omega)]; exact h3 i hi, fun p hp => by rw [rI_nj (by omega), rI_nj (by omega)]; exact h4 p hp⟩
  obtain ⟨f1, f2, f3, f4, _, _⟩ := arrE_f r hr
  rw [rI_nk (by omega)]
  exact h2 r hr i hi
theorem DC_push {tx : Nat → Int32} {N : Nat} {E F : Dt} {s : St} {c : Nat} (h : DC tx N E s) (e1 : F.1 c = E.1 c + 1) (e2 : ∀ k, k ≠ c → F.1 k = E.1 k) (e3 : ∀ a i, i ≠ E.1 c → F.2 a i = E.2 a i) (e4 : ∀ a i, catA a ≠ c → F.2 a i = E.2 a i) (hn : ∀ q ∈ arrE, q.2.2 = c → rI s q.1 (E.1 c) = nI (F.2 q.2.1 (E.1 c))) (h27 : c = 3 → rI s 27 (E.1 3) = nI (F.2 8 (E.1 3)) - 1) (hnm : c = 0 → NmC tx N (F.2 20 (E.1 0)) (rI s 4 (E.1 0)) (rI s 5 (E.1 0))) : DC tx N F (wI s 18 c (nI (E.1 c + 1))) := by
  obtain ⟨h1, h2, h3, h4⟩ := h
  refine ⟨fun k hk => ?_, fun q hq i hi => ?_, fun i hi => ?_, fun p hp => ?_⟩
  · by_cases e : k = c
    · subst e; rw [rI_same, e1]
    · rw [rI_nj e, e2 k e]; exact h1 k hk
  · obtain ⟨f1, f2, f3, f4, f5, f6⟩ := arrE_f q hq
    rw [rI_nk f1]
    by_cases e : q.2.2 = c
    · rw [e, e1] at hi
      by_cases ei : i = E.1 c
      · subst ei; exact hn q hq e
      · rw [e3 _ _ ei]; exact h2 q hq i (by rw [e]; omega)
    · rw [e2 _ e] at hi
      rw [e4 _ _ (by rw [f5]; exact e)]
      exact h2 q hq i hi
  · rw [rI_nk (by decide)]
    by_cases e : c = 3
    · subst e
      rw [e1] at hi
      by_cases ei : i = E.1 3
      · subst ei; exact h27 rfl
      · rw [e3 _ _ ei]; exact h3 i (by omega)
    · rw [e2 3 (Ne.symm e)] at hi
      rw [e4 8 _ (show (3 : Nat) ≠ c from Ne.symm e)]
      exact h3 i hi
  · rw [rI_nk (by decide), rI_nk (by decide)]
    by_cases e : c = 0
    · subst e
      rw [e1] at hp
      by_cases ei : p = E.1 0
      · subst ei; exact hnm rfl
      · rw [e3 _ _ ei]; exact h4 p (by omega)
    · rw [e2 0 (Ne.symm e)] at hp
      rw [e4 20 _ (show (0 : Nat) ≠ c from Ne.symm e)]
      exact h4 p hp
theorem DM.w {E : Dt} {s : St} (h : DM E s) {q : Nat × Nat × Nat} (hq : q ∈ arrF) (v : Int32) : DM E (wI s q.1 (E.1 q.2.2) v) := by
  obtain ⟨h1, h2, h3, h4⟩ := h
  obtain ⟨f1, f2, _, _⟩ := arrF_f q hq
  refine ⟨fun r hr => by rw [rI_nk (Ne.symm f1)]; exact h1 r hr, fun r hr i hi => ?_, fun i hi => by rw [rI_nk (Ne.symm f2), rI_nk (Ne.symm f2), rI_nk (Ne.symm f2)]; exact h3 i hi, fun p hp => by rw [rL_wI]; exact h4 p hp⟩
  by_cases e : r.1 = q.1
  · have := arrF_u q hq r hr e
    rw [rI_nj (by rw [this] at hi; omega)]
    exact h2 r hr i hi
  · rw [rI_nk e]; exact h2 r hr i hi
theorem DM.w83 {E : Dt} {s : St} (h : DM E s) {j : Nat} (hj : 3 * E.1 3 ≤ j) (v : Int32) : DM E (wI s 83 j v) := by
  obtain ⟨h1, h2, h3, h4⟩ := h
  refine ⟨fun r hr => by rw [rI_nk (by decide)]; exact h1 r hr, fun r hr i hi => ?_, fun i hi => by rw [rI_nj (by omega), rI_nj (by omega), rI_nj (by omega)]; exact h3 i hi, fun p hp => by rw [rL_wI]; exact h4 p hp⟩
  rw [rI_nk (arrF_f r hr).2.1]
  exact h2 r hr i hi
theorem DM.w96 {E : Dt} {s : St} (h : DM E s) (j : Nat) (v : Int32) : DM E (wI s 96 j v) := by
  obtain ⟨h1, h2, h3, h4⟩ := h
  refine ⟨fun r hr => by rw [rI_nk (by decide)]; exact h1 r hr, fun r hr i hi => ?_, fun i hi => by rw [rI_nk (by decide), rI_nk (by decide), rI_nk (by decide)]; exact h3 i hi, fun p hp => by rw [rL_wI]; exact h4 p hp⟩
  rw [rI_nk ((by decide : ∀ q ∈ arrF, q.1 ≠ 96) r hr)]
  exact h2 r hr i hi
theorem DM.w76 {E : Dt} {s : St} (h : DM E s) (v : Int64) : DM E (wL s 76 (E.1 0) v) := by
  obtain ⟨h1, h2, h3, h4⟩ := h
  exact ⟨h1, h2, h3, fun p hp => by rw [rL_nj (by omega)]; exact h4 p hp⟩
theorem scaF_f : ∀ q ∈ scaF, ∀ r ∈ scaF, (q.1 = r.1 ↔ q.2 = r.2) := by decide
theorem DM_push {E F : Dt} {s : St} {m c : Nat} (hm : (m, c) ∈ scaF) (h : DM E s) (e1 : F.1 c = E.1 c + 1) (e2 : ∀ k, k ≠ c → F.1 k = E.1 k) (e3 : ∀ a i, i ≠ E.1 c → F.2 a i = E.2 a i) (e4 : ∀ a i, catA a ≠ c → F.2 a i = E.2 a i) (hn : ∀ q ∈ arrF, q.2.2 = c → rI s q.1 (E.1 c) = nI (F.2 q.2.1 (E.1 c))) (h83 : c = 3 → rI s 83 (3 * E.1 3) = nI (F.2 6 (E.1 3)) ∧ rI s 83 (3 * E.1 3 + 1) = nI (F.2 7 (E.1 3)) ∧ rI s 83 (3 * E.1 3 + 2) = nI (F.2 8 (E.1 3)) - 1) (hnm : c = 0 → rL s 76 (E.1 0) = lN (F.2 20 (E.1 0))) : DM F (wI s 74 m (nI (E.1 c + 1))) := by
  obtain ⟨h1, h2, h3, h4⟩ := h
  refine ⟨fun q hq => ?_, fun q hq i hi => ?_, fun i hi => ?_, fun p hp => ?_⟩
  · have hu := scaF_f q hq (m, c) hm
    by_cases e : q.2 = c
    · rw [hu.mpr e, rI_same, e, e1]
    · rw [rI_nj (fun x => e (hu.mp x)), e2 _ e]; exact h1 q hq
  · obtain ⟨f1, f2, f5, f6⟩ := arrF_f q hq
    rw [rI_nk f1]
    by_cases e : q.2.2 = c
    · rw [e, e1] at hi
      by_cases ei : i = E.1 c
      · subst ei; exact hn q hq e
      · rw [e3 _ _ ei]; exact h2 q hq i (by rw [e]; omega)
    · rw [e2 _ e] at hi
      rw [e4 _ _ (by rw [f5]; exact e)]
      exact h2 q hq i hi
  · rw [rI_nk (by decide), rI_nk (by decide), rI_nk (by decide)]
    by_cases e : c = 3
    · subst e
      rw [e1] at hi
      by_cases ei : i = E.1 3
      · subst ei; exact h83 rfl
      · rw [e3 _ _ ei, e3 _ _ ei, e3 _ _ ei]; exact h3 i (by omega)
    · rw [e2 3 (Ne.symm e)] at hi
      rw [e4 6 _ (show (3 : Nat) ≠ c from Ne.symm e), e4 7 _ (show (3 : Nat) ≠ c from Ne.symm e), e4 8 _ (show (3 : Nat) ≠ c from Ne.symm e)]
      exact h3 i hi
  · rw [rL_wI]
    by_cases e : c = 0
    · subst e
      rw [e1] at hp
      by_cases ei : p = E.1 0
      · subst ei; exact hnm rfl
      · rw [e3 _ _ ei]; exact h4 p (by omega)
    · rw [e2 0 (Ne.symm e)] at hp
      rw [e4 20 _ (show (0 : Nat) ≠ c from Ne.symm e)]
      exact h4 p hp
/-! the four kinds -/
theorem addP_e (E : Dt) (al x : Nat) : (addP E al x).1 0 = E.1 0 + 1 ∧ (∀ k, k ≠ 0 → (addP E al x).1 k = E.1 k) ∧ (∀ a i, i ≠ E.1 0 → (addP E al x).2 a i = E.2 a i) ∧ (∀ a i, catA a ≠ 0 → (addP E al x).2 a i = E.2 a i) ∧ (addP E al x).2 0 (E.1 0) = al ∧ (addP E al x).2 20 (E.1 0) = x := by
  unfold addP
  simp only [dS1, dS2, dA1, dA2]
  refine ⟨by simp, fun k hk => by simp [hk], fun a i hi => by simp [hi], fun a i ha => ?_, by simp, by simp⟩
  rw [if_neg (fun q => ha (by rw [q.1]; rfl)), if_neg (fun q => ha (by rw [q.1]; rfl))]
theorem addA_e (E : Dt) (a b c : Nat) : (addA E a b c).1 1 = E.1 1 + 1 ∧ (∀ k, k ≠ 1 → (addA E a b c).1 k = E.1 k) ∧ (∀ r i, i ≠ E.1 1 → (addA E a b c).2 r i = E.2 r i) ∧ (∀ r i, catA r ≠ 1 → (addA E a b c).2 r i = E.2 r i) ∧ (addA E a b c).2 1 (E.1 1) = a ∧ (addA E a b c).2 2 (E.1 1) = b ∧ (addA E a b c).2 3 (E.1 1) = c := by
  unfold addA
  simp only [dS1, dS2, dA1, dA2]
  refine ⟨by simp, fun k hk => by simp [hk], fun a i hi => by simp [hi], fun a i ha => ?_, by simp, by simp, by simp⟩
  rw [if_neg (fun q => ha (by rw [q.1]; rfl)), if_neg (fun q => ha (by rw [q.1]; rfl)), if_neg (fun q => ha (by rw [q.1]; rfl))]
theorem addW_e (E : Dt) (p l : Nat) : (addW E p l).1 2 = E.1 2 + 1 ∧ (∀ k, k ≠ 2 → (addW E p l).1 k = E.1 k) ∧ (∀ a i, i ≠ E.1 2 → (addW E p l).2 a i = E.2 a i) ∧ (∀ a i, catA a ≠ 2 → (addW E p l).2 a i = E.2 a i) ∧ (addW E p l).2 4 (E.1 2) = p ∧ (addW E p l).2 5 (E.1 2) = l := by
  unfold addW
  simp only [dS1, dS2, dA1, dA2]
  refine ⟨by simp, fun k hk => by simp [hk], fun a i hi => by simp [hi], fun a i ha => ?_, by simp, by simp⟩
  rw [if_neg (fun q => ha (by rw [q.1]; rfl)), if_neg (fun q => ha (by rw [q.1]; rfl))]
theorem addR_e (E : Dt) (a b c : Nat) : (addR E a b c).1 3 = E.1 3 + 1 ∧ (∀ k, k ≠ 3 → (addR E a b c).1 k = E.1 k) ∧ (∀ r i, i ≠ E.1 3 → (addR E a b c).2 r i = E.2 r i) ∧ (∀ r i, catA r ≠ 3 → (addR E a b c).2 r i = E.2 r i) ∧ (addR E a b c).2 6 (E.1 3) = a ∧ (addR E a b c).2 7 (E.1 3) = b ∧ (addR E a b c).2 8 (E.1 3) = c := by
  unfold addR
  simp only [dS1, dS2, dA1, dA2]
  refine ⟨by simp, fun k hk => by simp [hk], fun a i hi => by simp [hi], fun a i ha => ?_, by simp, by simp, by simp⟩
  rw [if_neg (fun q => ha (by rw [q.1]; rfl)), if_neg (fun q => ha (by rw [q.1]; rfl)), if_neg (fun q => ha (by rw [q.1]; rfl))]
theorem nar01 {b : Nat} (hb : b ≤ 1) : vp_nar .boolean (nI b) = nI b := by
  have : b = 0 ∨ b = 1 := by omega
  rcases this with rfl | rfl <;> decide
theorem addPoint_c {tx : Nat → Int32} {N A : Nat} {E : Dt} {s : St} (h : SC tx N A E s) (hn : E.1 0 < 12) {al x : Nat} (ha : al ≤ 1) (hx : NmC tx N x (rI s 4 (E.1 0)) (rI s 5 (E.1 0))) : ∃ u, f_X3_addPoint_d (nI al) s = some ((), u) ∧ Kp [18, 19] s u ∧ SC tx N A (addP E al x) u := by
  obtain ⟨hA, ht, hk, hd⟩ := h
  obtain ⟨e1, e2, e3, e4, e5, e6⟩ := addP_e E al x
  have k1 : Kp [18, 19] s (wI s 19 (E.1 0) (nI al)) := Kp_wI Kp.rf (by decide) _ _
  have k2 := Kp_wI k1 (k := 18) (by decide) 0 (nI (E.1 0 + 1))
  have d1 := hd.w (q := (19, 0, 0)) (by decide) (nI al)
  refine ⟨_, ?_, k2, hA, ht.kp k2 (by decide) (by decide), hk.kp k2 (by decide), DC_push d1 e1 e2 e3 e4 (fun q hq hc => ?_) (fun q => absurd q (by decide)) (fun _ => ?_)⟩
  · unfold f_X3_addPoint_d
    rw [hd.1 0 (by decide), if_neg (show ¬ (12 : Int32) ≤ nI (E.1 0) from nI_ge (a := E.1 0) (b := 12) hn (by omega)), gi_nI (j := E.1 0) (n := 12) hn (by decide), cl_nI (n := E.1 0) (by omega), nar01 ha]
    show some ((), wI (wI s 19 (E.1 0) (nI al)) 18 0 (rI (wI s 19 (E.1 0) (nI al)) 18 0 + 1)) = _
    rw [rI_nk (by decide), hd.1 0 (by decide), nI_1]
  · simp only [arrE, List.mem_cons, List.not_mem_nil, or_false] at hq
    rcases hq with rfl | rfl | rfl | rfl | rfl | rfl | rfl | rfl <;> first | exact absurd hc (by decide) | skip
    rw [e5]; exact rI_same _ _ _ _
  · rw [e6, rI_nk (by decide), rI_nk (by decide)]; exact hx
theorem addArc_c {tx : Nat → Int32} {N A : Nat} {E : Dt} {s : St} (h : SC tx N A E s) (hn : E.1 1 < 24) (a b c : Nat) : ∃ u, f_X3_addArc_d (nI a) (nI b) (nI c) s = some ((), u) ∧ Kp [18, 20, 21, 22] s u ∧ SC tx N A (addA E a b c) u := by
  obtain ⟨hA, ht, hk, hd⟩ := h
  obtain ⟨e1, e2, e3, e4, e5, e6, e7⟩ := addA_e E a b c
  have k1 : Kp [18, 20, 21, 22] s (wI s 20 (E.1 1) (nI a)) := Kp_wI Kp.rf (by decide) _ _
  have k2 := Kp_wI k1 (k := 21) (by decide) (E.1 1) (nI b)
  have k3 := Kp_wI k2 (k := 22) (by decide) (E.1 1) (nI c)
  have k4 := Kp_wI k3 (k := 18) (by decide) 1 (nI (E.1 1 + 1))
  have d1 := ((hd.w (q := (20, 1, 1)) (by decide) (nI a)).w (q := (21, 2, 1)) (by decide) (nI b)).w (q := (22, 3, 1)) (by decide) (nI c)
  refine ⟨_, ?_, k4, hA, ht.kp k4 (by decide) (by decide), hk.kp k4 (by decide), DC_push d1 e1 e2 e3 e4 (fun q hq hc => ?_) (fun q => absurd q (by decide)) (fun q => absurd q (by decide))⟩
  · unfold f_X3_addArc_d
    rw [hd.1 1 (by decide), if_neg (show ¬ (24 : Int32) ≤ nI (E.1 1) from nI_ge (a := E.1 1) (b := 24) hn (by omega)), gi_nI (j := E.1 1) (n := 24) hn (by decide), cl_nI (n := E.1 1) (by omega)]
    show gi (rI (wI s 20 (E.1 1) (nI a)) 18 1) 24 (gi (rI (wI (wI s 20 (E.1 1) (nI a)) 21 (rI (wI s 20 (E.1 1) (nI a)) 18 1).toNatClampNeg (nI b)) 18 1) 24 (some ((), wI (wI (wI (wI s 20 (E.1 1) (nI a)) 21 (rI (wI s 20 (E.1 1) (nI a)) 18 1).toNatClampNeg (nI b)) 22 (rI (wI (wI s 20 (E.1 1) (nI a)) 21 (rI (wI s 20 (E.1 1) (nI a)) 18 1).toNatClampNeg (nI b)) 18 1).toNatClampNeg (nI c)) 18 1 (rI (wI (wI (wI s 20 (E.1 1) (nI a)) 21 (rI (wI s 20 (E.1 1) (nI a)) 18 1).toNatClampNeg (nI b)) 22 (rI (wI (wI s 20 (E.1 1) (nI a)) 21 (rI (wI s 20 (E.1 1) (nI a)) 18 1).toNatClampNeg (nI b)) 18 1).toNatClampNeg (nI c)) 18 1 + 1)))) = _
    simp only [rI_nk (show (18 : Nat) ≠ 20 by decide), rI_nk (show (18 : Nat) ≠ 21 by decide), rI_nk (show (18 : Nat) ≠ 22 by decide), hd.1 1 (by decide), cl_nI (show E.1 1 < 2 ^ 31 by omega), nI_1]
    rw [gi_nI (j := E.1 1) (n := 24) hn (by decide), gi_nI (j := E.1 1) (n := 24) hn (by decide)]
  · simp only [arrE, List.mem_cons, List.not_mem_nil, or_false] at hq
    rcases hq with rfl | rfl | rfl | rfl | rfl | rfl | rfl | rfl <;> first | exact absurd hc (by decide) | skip
    · rw [e5, rI_nk (by decide), rI_nk (by decide)]; exact rI_same _ _ _ _
    · rw [e6, rI_nk (by decide)]; exact rI_same _ _ _ _
    · rw [e7]; exact rI_same _ _ _ _
theorem addWindow_c {tx : Nat → Int32} {N A : Nat} {E : Dt} {s : St} (h : SC tx N A E s) (hn : E.1 2 < 12) (a b : Nat) : ∃ u, f_X3_addWindow_d (nI a) (nI b) s = some ((), u) ∧ Kp [18, 23, 24] s u ∧ SC tx N A (addW E a b) u := by
  obtain ⟨hA, ht, hk, hd⟩ := h
  obtain ⟨e1, e2, e3, e4, e5, e6⟩ := addW_e E a b
  have k1 : Kp [18, 23, 24] s (wI s 23 (E.1 2) (nI a)) := Kp_wI Kp.rf (by decide) _ _
  have k2 := Kp_wI k1 (k := 24) (by decide) (E.1 2) (nI b)
  have k4 := Kp_wI k2 (k := 18) (by decide) 2 (nI (E.1 2 + 1))
  have d1 := (hd.w (q := (23, 4, 2)) (by decide) (nI a)).w (q := (24, 5, 2)) (by decide) (nI b)
  refine ⟨_, ?_, k4, hA, ht.kp k4 (by decide) (by decide), hk.kp k4 (by decide), DC_push d1 e1 e2 e3 e4 (fun q hq hc => ?_) (fun q => absurd q (by decide)) (fun q => absurd q (by decide))⟩
  · unfold f_X3_addWindow_d
    rw [hd.1 2 (by decide), if_neg (show ¬ (12 : Int32) ≤ nI (E.1 2) from nI_ge (a := E.1 2) (b := 12) hn (by omega)), gi_nI (j := E.1 2) (n := 12) hn (by decide), cl_nI (n := E.1 2) (by omega)]
    show gi (rI (wI s 23 (E.1 2) (nI a)) 18 2) 12 (some ((), wI (wI (wI s 23 (E.1 2) (nI a)) 24 (rI (wI s 23 (E.1 2) (nI a)) 18 2).toNatClampNeg (nI b)) 18 2 (rI (wI (wI s 23 (E.1 2) (nI a)) 24 (rI (wI s 23 (E.1 2) (nI a)) 18 2).toNatClampNeg (nI b)) 18 2 + 1))) = _
    simp only [rI_nk (show (18 : Nat) ≠ 23 by decide), rI_nk (show (18 : Nat) ≠ 24 by decide), hd.1 2 (by decide), cl_nI (show E.1 2 < 2 ^ 31 by omega), nI_1]
    rw [gi_nI (j := E.1 2) (n := 12) hn (by decide)]
  · simp only [arrE, List.mem_cons, List.not_mem_nil, or_false] at hq
    rcases hq with rfl | rfl | rfl | rfl | rfl | rfl | rfl | rfl <;> first | exact absurd hc (by decide) | skip
    · rw [e5, rI_nk (by decide)]; exact rI_same _ _ _ _
    · rw [e6]; exact rI_same _ _ _ _
theorem addRule_c {tx : Nat → Int32} {N A : Nat} {E : Dt} {s : St} (h : SC tx N A E s) (hn : E.1 3 < 8) (a b c : Nat) : ∃ u, f_X3_addRule_d (nI a) (nI b) (nI c - 1) s = some ((), u) ∧ Kp [18, 25, 26, 27] s u ∧ SC tx N A (addR E a b c) u := by
  obtain ⟨hA, ht, hk, hd⟩ := h
  obtain ⟨e1, e2, e3, e4, e5, e6, e7⟩ := addR_e E a b c
  have k1 : Kp [18, 25, 26, 27] s (wI s 25 (E.1 3) (nI a)) := Kp_wI Kp.rf (by decide) _ _
  have k2 := Kp_wI k1 (k := 26) (by decide) (E.1 3) (nI b)
  have k3 := Kp_wI k2 (k := 27) (by decide) (E.1 3) (nI c - 1)
  have k4 := Kp_wI k3 (k := 18) (by decide) 3 (nI (E.1 3 + 1))
  have d1 := ((hd.w (q := (25, 6, 3)) (by decide) (nI a)).w (q := (26, 7, 3)) (by decide) (nI b)).w27 (nI c - 1)
  refine ⟨_, ?_, k4, hA, ht.kp k4 (by decide) (by decide), hk.kp k4 (by decide), DC_push d1 e1 e2 e3 e4 (fun q hq hc => ?_) (fun _ => ?_) (fun q => absurd q (by decide))⟩
  · unfold f_X3_addRule_d
    rw [hd.1 3 (by decide), if_neg (show ¬ (8 : Int32) ≤ nI (E.1 3) from nI_ge (a := E.1 3) (b := 8) hn (by omega)), gi_nI (j := E.1 3) (n := 8) hn (by decide), cl_nI (n := E.1 3) (by omega)]
    show gi (rI (wI s 25 (E.1 3) (nI a)) 18 3) 8 (gi (rI (wI (wI s 25 (E.1 3) (nI a)) 26 (rI (wI s 25 (E.1 3) (nI a)) 18 3).toNatClampNeg (nI b)) 18 3) 8 (some ((), wI (wI (wI (wI s 25 (E.1 3) (nI a)) 26 (rI (wI s 25 (E.1 3) (nI a)) 18 3).toNatClampNeg (nI b)) 27 (rI (wI (wI s 25 (E.1 3) (nI a)) 26 (rI (wI s 25 (E.1 3) (nI a)) 18 3).toNatClampNeg (nI b)) 18 3).toNatClampNeg (nI c - 1)) 18 3 (rI (wI (wI (wI s 25 (E.1 3) (nI a)) 26 (rI (wI s 25 (E.1 3) (nI a)) 18 3).toNatClampNeg (nI b)) 27 (rI (wI (wI s 25 (E.1 3) (nI a)) 26 (rI (wI s 25 (E.1 3) (nI a)) 18 3).toNatClampNeg (nI b)) 18 3).toNatClampNeg (nI c - 1)) 18 3 + 1)))) = _
    simp only [rI_nk (show (18 : Nat) ≠ 25 by decide), rI_nk (show (18 : Nat) ≠ 26 by decide), rI_nk (show (18 : Nat) ≠ 27 by decide), hd.1 3 (by decide), cl_nI (show E.1 3 < 2 ^ 31 by omega), nI_1]
    rw [gi_nI (j := E.1 3) (n := 8) hn (by decide), gi_nI (j := E.1 3) (n := 8) hn (by decide)]
  · simp only [arrE, List.mem_cons, List.not_mem_nil, or_false] at hq
    rcases hq with rfl | rfl | rfl | rfl | rfl | rfl | rfl | rfl <;> first | exact absurd hc (by decide) | skip
    · rw [e5, rI_nk (by decide), rI_nk (by decide)]; exact rI_same _ _ _ _
    · rw [e6, rI_nk (by decide)]; exact rI_same _ _ _ _
  · rw [e7]; exact rI_same _ _ _ _
