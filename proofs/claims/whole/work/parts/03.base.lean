/-! ===== the words that stay: those of the tables that hold at every later state ===== -/
def TW : List Cond := lw_tbl.filter goodWord
theorem TW_good {w : Cond} (h : w ∈ TW) : (w.onTables && w.keeps) = true ∨ ∃ ty, w = .arrayClass ty := good_of_word (List.mem_filter.mp h).2
theorem TW_of (i : Nat) {w : Cond} (h : lw_tbl[i]? = some w) (g : goodWord w = true) : w ∈ TW := List.mem_filter.mpr ⟨List.mem_of_getElem? h, g⟩
theorem TW_in {w : Cond} (h : w ∈ TW) : w ∈ lw_tbl := (List.mem_filter.mp h).1
theorem TW_goodIn {c : Cond} {ws : List Cond} (h : ∀ w ∈ ws, w ∈ TW) : GoodIn (c :: TW) ws := fun w hw => ⟨List.mem_cons_of_mem _ (h w hw), TW_good (h w hw)⟩
theorem TW_code {c d : Cond} (h : d ∈ TW) : GoodIn (c :: TW) (d :: TW) := TW_goodIn (fun w hw => by
  rcases List.mem_cons.mp hw with e | e
  · rw [e]; exact h
  · exact e)
/-! ===== the state: what the cells hold, by cell and place ===== -/
abbrev St : Type := (Nat → Nat → Int32) × (Nat → Nat → Int64)
def rI (s : St) (k j : Nat) : Int32 := s.1 k j
def rL (s : St) (k j : Nat) : Int64 := s.2 k j
def wI (s : St) (k j : Nat) (v : Int32) : St := (va_up s.1 k (upd (s.1 k) j v), s.2)
def wL (s : St) (k j : Nat) (v : Int64) : St := (s.1, va_up s.2 k (vp_updL (s.2 k) j v))
abbrev nB (x : Int32) : Int32 := vp_nar .byte x
abbrev nZ (x : Int32) : Int32 := vp_nar .boolean x
/-- an index that is looked at -/
def gi {α : Type} (i : Int32) (n : Nat) (k : Option α) : Option α := if i < 0 ∨ n ≤ i.toNatClampNeg then none else k
/-- a truth value that is given back -/
def gb {α : Type} (v : Int32) (k : Option α) : Option α := if v = 0 ∨ v = 1 then k else none
def bd {α β : Type} (e : Option (α × St)) (k : α → St → Option β) : Option β := match e with
  | some q => k q.1 q.2
  | none => none
theorem gi_some {α : Type} {i : Int32} {n : Nat} {k : Option α} {r : α} (h : gi i n k = some r) : vp_in i n ∧ k = some r := by
  unfold gi at h
  by_cases c : i < 0 ∨ n ≤ i.toNatClampNeg
  · rw [if_pos c] at h; cases h
  · rw [if_neg c] at h; exact ⟨c, h⟩
theorem gb_some {α : Type} {v : Int32} {k : Option α} {r : α} (h : gb v k = some r) : narrow .boolean (.int v) = .int v ∧ k = some r := by
  unfold gb at h
  by_cases c : v = 0 ∨ v = 1
  · rw [if_pos c] at h
    refine ⟨?_, h⟩
    rcases c with c | c <;> subst c <;> rfl
  · rw [if_neg c] at h; cases h
theorem bd_some {α β : Type} {e : Option (α × St)} {k : α → St → Option β} {r : β} (h : bd e k = some r) : ∃ (a : α) (s : St), e = some (a, s) ∧ k a s = some r := by
  cases e with
  | none => cases h
  | some q => exact ⟨q.1, q.2, rfl, h⟩
theorem if_t {α : Type} {c : Prop} [Decidable c] {a b : Option α} {r : α} (h : (if c then a else b) = some r) (hc : c) : a = some r := by rw [if_pos hc] at h; exact h
theorem if_f {α : Type} {c : Prop} [Decidable c] {a b : Option α} {r : α} (h : (if c then a else b) = some r) (hc : ¬ c) : b = some r := by rw [if_neg hc] at h; exact h
theorem none_no {α : Type} {r : α} {P : Prop} (h : (none : Option α) = some r) : P := by cases h
/-! ===== the world: which cells there are ===== -/
abbrev Wp : Type := va_G × (Nat → ClassId) × (Nat → Nat) × (Nat → Nat) × (Nat → Nat)
abbrev wD (w : Wp) : va_G := w.1
abbrev wC (w : Wp) : Nat → ClassId := w.2.1
abbrev wA (w : Wp) : Nat → Nat := w.2.2.1
abbrev wK (w : Wp) : Nat → Nat := w.2.2.2.1
abbrev wV (w : Wp) : Nat → Nat := w.2.2.2.2
def tysL (w : Wp) : List (ClassId × FieldType) := [(wC w 0, .byte), (wC w 1, .int), (wC w 2, .long), (wC w 3, .boolean), (wC w 4, .array .int)]
def wsL (w : Wp) (s : St) : va_W := [
  (wA w 0, .inr (10, [.ref (wA w 1), .ref (wA w 3), .ref (wA w 8), .ref (wA w 18), .ref (wA w 28), .ref (wA w 32), .ref (wA w 35), .ref (wA w 38), .ref (wA w 42), .ref (wA w 45)])),
  (wA w 1, .inr (8, [.ref (wA w 2), .int (rI s 1 1)])),
  (wA w 2, .inl (wC w 0, 600, .inl (s.1 2))),
  (wA w 3, .inr (4, [.ref (wA w 1), .ref (wA w 7), .ref (wA w 4), .ref (wA w 5), .ref (wA w 6), .int (rI s 3 5)])),
  (wA w 4, .inl (wC w 1, 12, .inl (s.1 4))),
  (wA w 5, .inl (wC w 1, 12, .inl (s.1 5))),
  (wA w 6, .inl (wC w 1, 3, .inl (s.1 6))),
  (wA w 7, .inr (9, [.ref (wA w 1), .int (rI s 7 1), .int (rI s 7 2), .int (rI s 7 3), .int (rI s 7 4)])),
  (wA w 8, .inr (3, [.int (rI s 8 0), .int (rI s 8 1), .int (rI s 8 2), .int (rI s 8 3), .ref (wA w 9), .ref (wA w 10), .ref (wA w 11), .ref (wA w 12), .ref (wA w 13), .ref (wA w 14), .ref (wA w 15), .ref (wA w 16), .ref (wA w 17)])),
  (wA w 9, .inl (wC w 3, 12, .inl (s.1 9))),
  (wA w 10, .inl (wC w 1, 24, .inl (s.1 10))),
  (wA w 11, .inl (wC w 1, 24, .inl (s.1 11))),
  (wA w 12, .inl (wC w 1, 24, .inl (s.1 12))),
  (wA w 13, .inl (wC w 1, 12, .inl (s.1 13))),
  (wA w 14, .inl (wC w 1, 12, .inl (s.1 14))),
  (wA w 15, .inl (wC w 1, 8, .inl (s.1 15))),
  (wA w 16, .inl (wC w 1, 8, .inl (s.1 16))),
  (wA w 17, .inl (wC w 1, 8, .inl (s.1 17))),
  (wA w 18, .inr (3, [.int (rI s 18 0), .int (rI s 18 1), .int (rI s 18 2), .int (rI s 18 3), .ref (wA w 19), .ref (wA w 20), .ref (wA w 21), .ref (wA w 22), .ref (wA w 23), .ref (wA w 24), .ref (wA w 25), .ref (wA w 26), .ref (wA w 27)])),
  (wA w 19, .inl (wC w 3, 12, .inl (s.1 19))),
  (wA w 20, .inl (wC w 1, 24, .inl (s.1 20))),
  (wA w 21, .inl (wC w 1, 24, .inl (s.1 21))),
  (wA w 22, .inl (wC w 1, 24, .inl (s.1 22))),
  (wA w 23, .inl (wC w 1, 12, .inl (s.1 23))),
  (wA w 24, .inl (wC w 1, 12, .inl (s.1 24))),
  (wA w 25, .inl (wC w 1, 8, .inl (s.1 25))),
  (wA w 26, .inl (wC w 1, 8, .inl (s.1 26))),
  (wA w 27, .inl (wC w 1, 8, .inl (s.1 27))),
  (wA w 28, .inr (7, [.ref (wA w 8), .ref (wA w 29), .ref (wA w 30), .ref (wA w 31)])),
  (wA w 29, .inl (wC w 1, 12, .inl (s.1 29))),
  (wA w 30, .inl (wC w 1, 12, .inl (s.1 30))),
  (wA w 31, .inl (wC w 1, 12, .inl (s.1 31))),
  (wA w 32, .inr (2, [.ref (wA w 8), .ref (wA w 28), .ref (wA w 33), .ref (wA w 34), .int (rI s 32 4)])),
  (wA w 33, .inl (wC w 1, 12, .inl (s.1 33))),
  (wA w 34, .inl (wC w 1, 12, .inl (s.1 34))),
  (wA w 35, .inr (5, [.ref (wA w 36), .ref (wA w 37), .int (rI s 35 2)])),
  (wA w 36, .inl (wC w 1, 60, .inl (s.1 36))),
  (wA w 37, .inl (wC w 1, 60, .inl (s.1 37))),
  (wA w 38, .inr (1, [.ref (wA w 8), .ref (wA w 28), .ref (wA w 35), .ref (wA w 39), .ref (wA w 40), .ref (wA w 41), .int (rI s 38 6), .int (rI s 38 7), .int (rI s 38 8), .int (rI s 38 9), .int (rI s 38 10), .int (rI s 38 11), .int (rI s 38 12), .int (rI s 38 13), .int (rI s 38 14), .int (rI s 38 15), .int (rI s 38 16), .int (rI s 38 17)])),
  (wA w 39, .inl (wC w 1, 12, .inl (s.1 39))),
  (wA w 40, .inl (wC w 1, 12, .inl (s.1 40))),
  (wA w 41, .inl (wC w 1, 12, .inl (s.1 41))),
  (wA w 42, .inr (6, [.ref (wA w 8), .ref (wA w 32), .ref (wA w 43), .ref (wA w 44), .int (rI s 42 4)])),
  (wA w 43, .inl (wC w 1, 12, .inl (s.1 43))),
  (wA w 44, .inl (wC w 1, 12, .inl (s.1 44))),
  (wA w 45, .inr (0, [.ref (wA w 8), .ref (wA w 32), .ref (wA w 42), .ref (wA w 46), .ref (wA w 47), .ref (wA w 48), .ref (wA w 49), .int (rI s 45 7), .int (rI s 45 8), .int (rI s 45 9), .int (rI s 45 10)])),
  (wA w 46, .inl (wC w 1, 12, .inl (s.1 46))),
  (wA w 47, .inl (wC w 4, 12, .inr (.inr (.inr (.inr (fun i => if i < 12 then some (wA w (50 + i)) else none)))))),
  (wA w 48, .inl (wC w 4, 12, .inr (.inr (.inr (.inr (fun i => if i < 12 then some (wA w (62 + i)) else none)))))),
  (wA w 49, .inl (wC w 1, 12, .inl (s.1 49))),
  (wA w 50, .inl (wC w 1, 13, .inl (s.1 50))),
  (wA w 51, .inl (wC w 1, 13, .inl (s.1 51))),
  (wA w 52, .inl (wC w 1, 13, .inl (s.1 52))),
  (wA w 53, .inl (wC w 1, 13, .inl (s.1 53))),
  (wA w 54, .inl (wC w 1, 13, .inl (s.1 54))),
  (wA w 55, .inl (wC w 1, 13, .inl (s.1 55))),
  (wA w 56, .inl (wC w 1, 13, .inl (s.1 56))),
  (wA w 57, .inl (wC w 1, 13, .inl (s.1 57))),
  (wA w 58, .inl (wC w 1, 13, .inl (s.1 58))),
  (wA w 59, .inl (wC w 1, 13, .inl (s.1 59))),
  (wA w 60, .inl (wC w 1, 13, .inl (s.1 60))),
  (wA w 61, .inl (wC w 1, 13, .inl (s.1 61))),
  (wA w 62, .inl (wC w 1, 13, .inl (s.1 62))),
  (wA w 63, .inl (wC w 1, 13, .inl (s.1 63))),
  (wA w 64, .inl (wC w 1, 13, .inl (s.1 64))),
  (wA w 65, .inl (wC w 1, 13, .inl (s.1 65))),
  (wA w 66, .inl (wC w 1, 13, .inl (s.1 66))),
  (wA w 67, .inl (wC w 1, 13, .inl (s.1 67))),
  (wA w 68, .inl (wC w 1, 13, .inl (s.1 68))),
  (wA w 69, .inl (wC w 1, 13, .inl (s.1 69))),
  (wA w 70, .inl (wC w 1, 13, .inl (s.1 70))),
  (wA w 71, .inl (wC w 1, 13, .inl (s.1 71))),
  (wA w 72, .inl (wC w 1, 13, .inl (s.1 72))),
  (wA w 73, .inl (wC w 1, 13, .inl (s.1 73))),
  (wA w 74, .inr (11, [.ref (wA w 75), .int (rI s 74 1), .int (rI s 74 2), .int (rI s 74 3), .int (rI s 74 4), .long (rL s 74 5), .int (rI s 74 6), .ref (wA w 76), .ref (wA w 77), .int (rI s 74 9), .ref (wA w 78), .ref (wA w 79), .ref (wA w 80), .int (rI s 74 13), .ref (wA w 81), .ref (wA w 82), .int (rI s 74 16), .ref (wA w 83), .int (rI s 74 18), .ref (wA w 84), .int (rI s 74 20), .ref (wA w 85), .ref (wA w 86), .ref (wA w 87), .int (rI s 74 24), .ref (wA w 88), .ref (wA w 89), .ref (wA w 90), .ref (wA w 91), .int (rI s 74 29), .ref (wA w 92), .ref (wA w 93), .int (rI s 74 32), .ref (wA w 94), .ref (wA w 95), .int (rI s 74 35), .int (rI s 74 36), .ref (wA w 96), .ref (wA w 97), .ref (wA w 98), .int (rI s 74 40), .int (rI s 74 41), .int (rI s 74 42), .int (rI s 74 43), .int (rI s 74 44), .int (rI s 74 45), .int (rI s 74 46), .int (rI s 74 47), .ref (wA w 99), .ref (wA w 100)])),
  (wA w 75, .inl (wC w 0, 600, .inl (s.1 75))),
  (wA w 76, .inl (wC w 2, 12, .inr (.inl (s.2 76)))),
  (wA w 77, .inl (wC w 3, 12, .inl (s.1 77))),
  (wA w 78, .inl (wC w 1, 24, .inl (s.1 78))),
  (wA w 79, .inl (wC w 1, 24, .inl (s.1 79))),
  (wA w 80, .inl (wC w 1, 24, .inl (s.1 80))),
  (wA w 81, .inl (wC w 1, 12, .inl (s.1 81))),
  (wA w 82, .inl (wC w 1, 12, .inl (s.1 82))),
  (wA w 83, .inl (wC w 1, 24, .inl (s.1 83))),
  (wA w 84, .inl (wC w 3, 12, .inl (s.1 84))),
  (wA w 85, .inl (wC w 1, 24, .inl (s.1 85))),
  (wA w 86, .inl (wC w 1, 24, .inl (s.1 86))),
  (wA w 87, .inl (wC w 1, 24, .inl (s.1 87))),
  (wA w 88, .inl (wC w 1, 12, .inl (s.1 88))),
  (wA w 89, .inl (wC w 1, 12, .inl (s.1 89))),
  (wA w 90, .inl (wC w 1, 12, .inl (s.1 90))),
  (wA w 91, .inl (wC w 1, 12, .inl (s.1 91))),
  (wA w 92, .inl (wC w 1, 24, .inl (s.1 92))),
  (wA w 93, .inl (wC w 3, 8, .inl (s.1 93))),
  (wA w 94, .inl (wC w 1, 60, .inl (s.1 94))),
  (wA w 95, .inl (wC w 1, 60, .inl (s.1 95))),
  (wA w 96, .inl (wC w 1, 3, .inl (s.1 96))),
  (wA w 97, .inl (wC w 1, 12, .inl (s.1 97))),
  (wA w 98, .inl (wC w 1, 12, .inl (s.1 98))),
  (wA w 99, .inl (wC w 1, 12, .inl (s.1 99))),
  (wA w 100, .inl (wC w 1, 7212, .inl (s.1 100)))]
/-! ===== the String constants, the nest mates ===== -/
def nS : Nat := 11
def lenS : List Nat := [5, 3, 3, 4, 2, 2, 6, 2, 4, 5, 3]
def bytS : List (List Int32) := [[112, 111, 105, 110, 116], [97, 110, 121], [97, 108, 108], [102, 114, 111, 109], [116, 111], [105, 110], [119, 105, 110, 100, 111, 119], [111, 102], [104, 105, 100, 101], [119, 104, 105, 108, 101], [110, 111, 116]]
def strT : List (String × Nat × String × Nat) := [("LitWindows$Reader", 46, "point", 0), ("LitWindows$Tokens", 76, "point", 0), ("LitWindows$Tokens", 82, "any", 1), ("LitWindows$Tokens", 84, "all", 2), ("LitWindows$Tokens", 86, "from", 3), ("LitWindows$Tokens", 88, "to", 4), ("LitWindows$Tokens", 90, "in", 5), ("LitWindows$Tokens", 92, "window", 6), ("LitWindows$Tokens", 94, "of", 7), ("LitWindows$Tokens", 96, "hide", 8), ("LitWindows$Tokens", 98, "while", 9), ("LitWindows$Tokens", 100, "not", 10), ("LitWindows$Reader", 105, "all", 2), ("LitWindows$Reader", 107, "any", 1), ("LitWindows$Reader", 59, "from", 3), ("LitWindows$Reader", 123, "to", 4), ("LitWindows$Reader", 128, "in", 5), ("LitWindows$Reader", 67, "window", 6), ("LitWindows$Reader", 138, "of", 7), ("LitWindows$Reader", 75, "hide", 8), ("LitWindows$Reader", 148, "while", 9), ("LitWindows$Reader", 153, "not", 10), ("LitWindowsModel", 142, "point", 0), ("LitWindowsModel", 148, "any", 1), ("LitWindowsModel", 150, "all", 2), ("LitWindowsModel", 152, "from", 3), ("LitWindowsModel", 153, "to", 4), ("LitWindowsModel", 154, "in", 5), ("LitWindowsModel", 155, "window", 6), ("LitWindowsModel", 157, "of", 7), ("LitWindowsModel", 159, "hide", 8), ("LitWindowsModel", 161, "while", 9), ("LitWindowsModel", 163, "not", 10)]
def nestT : List (String × Nat × MethodName) := [("LitWindows$Spread", 31, ⟨"LitWindows", "hasBit", "(II)Z"⟩), ("LitWindows$Lamps", 58, ⟨"LitWindows", "hasBit", "(II)Z"⟩), ("LitWindows$Crew", 95, ⟨"LitWindows", "hasBit", "(II)Z"⟩)]
def sS (w : Wp) (A : Nat → Prop) (U : State) (H : Heap) : Prop := ∀ i : Nat, i < nS → va_O "java/lang/String" (wK w i) A U H ∧ va_OF "java/lang/String" "coder" "B" (.int 0) (wK w i) A U H ∧ va_OF "java/lang/String" "value" "[B" (.ref (wV w i)) (wK w i) A U H ∧ va_T .byte (wV w i) (lenS.getD i 0) (fun j => .int ((bytS.getD i []).getD j 0)) A U H
def Kw (w : Wp) (A : Nat → Prop) (U : State) : Prop := va_K (wD w) vwCl (tysL w) U ∧ sS w A U U.heap ∧ (∀ x ∈ strT, vk_R x.1 x.2.1 x.2.2.1 (wK w x.2.2.2) U) ∧ (∀ x ∈ nestT, va_Nw (.methodLinkNest x.1 x.2.1 x.2.2 "LitWindows") U) ∧ va_Z "java/lang/String" "COMPACT_STRINGS" "Z" (.int 1) A U U.heap ∧ va_Zq "jdk/internal/util/Preconditions" "SIOOBE_FORMATTER" "Ljava/util/function/BiFunction;" A U U.heap
theorem Kw.blind {w : Wp} {A : Nat → Prop} {U : State} {g : JFrame} {mk : MethodId} {a : Array Value} (h : Kw w A U) : Kw w A (U.calling g mk a) := by
  obtain ⟨h1, h2, h3, h4, h5, h6⟩ := h
  refine ⟨va_K.moved (u := U) (U := U.calling g mk a) (Vm.Alike.refl U.vm) h1, fun i hi => ?_, fun x hx => vk_R.same (u := U) (U := U.calling g mk a) rfl (h3 x hx), fun x hx => va_Nw.same (u := U) (U := U.calling g mk a) rfl rfl (h4 x hx), va_Z.moved (u := U) (U := U.calling g mk a) (Vm.Alike.refl U.vm) h5, va_Zq.moved (u := U) (U := U.calling g mk a) (Vm.Alike.refl U.vm) h6⟩
  obtain ⟨q1, q2, q3, q4⟩ := h2 i hi
  exact ⟨va_O.moved (u := U) (U := U.calling g mk a) (Vm.Alike.refl U.vm) q1, va_OF.moved (u := U) (U := U.calling g mk a) (Vm.Alike.refl U.vm) q2, va_OF.moved (u := U) (U := U.calling g mk a) (Vm.Alike.refl U.vm) q3, va_T.moved (u := U) (U := U.calling g mk a) (Vm.Alike.refl U.vm) q4⟩
theorem Kw.call {w : Wp} {A A1 : Nat → Prop} {s U : State} {H : Heap} {locs : List Loc} (h : Kw w A s) (hS : va_S A s.heap H locs) (hA : ∀ q, A1 q → A q) (hU : U.heap = H) (hW : s.WarmedH U.vm) : Kw w A1 U := by
  obtain ⟨h1, h2, h3, h4, h5, h6⟩ := h
  subst hU
  refine ⟨va_K.moved hW.alike h1, fun i hi => ?_, fun x hx => vk_R.warm hW (h3 x hx), fun x hx => va_Nw.warmM hW (h4 x hx), va_Z.moved hW.alike ((h5.kept hS.2.1).narrow hA), va_Zq.moved hW.alike ((h6.kept hS.2.1).narrow hA)⟩
  obtain ⟨q1, q2, q3, q4⟩ := h2 i hi
  exact ⟨va_O.moved hW.alike ((q1.kept hS.2.1).narrow hA), va_OF.moved hW.alike ((q2.kept hS.2.1).narrow hA), va_OF.moved hW.alike ((q3.kept hS.2.1).narrow hA), va_T.moved hW.alike ((q4.kept hS.2.1).narrow hA)⟩
/-! ===== the judgement ===== -/
abbrev CX : Type := Program × Launch × Env × Room × State × MethodId × Array Value × List Frame × Method × Code × (State → Prop) × (Nat → Prop) × Nat × Nat × Wp
abbrev xw (X : CX) : Wp := X.2.2.2.2.2.2.2.2.2.2.2.2.2.2
def Cx (X : CX) (own : String) (cc : ByteArray) (nL fr lo : Nat) : Prop := match X with
  | (p, l, e, R, s, m, args, below, meth, c, Q, A, cn, sn, w) => p.tables.exec = Jvm.exec ∧ c.code = cc ∧ c.maxLocals = nL ∧ s.vm.findClass own = some m.cls ∧ (∀ q ∈ TW, q.before args s = true) ∧ Kw w A s ∧ (∀ st, va_D A (wsL w st)) ∧ (∀ q, s.heap.size ≤ q → A q) ∧ R.frames = fr ∧ R.locals = lo ∧ cn ≤ R.cells ∧ sn ≤ R.slots
def V (X : CX) (st : St) (pc : Nat) (L : List (Nat × Value)) (S : List Value) : Prop := match X with
  | (p, l, e, R, s, m, args, below, meth, c, Q, A, cn, sn, w) => ∀ (H : Heap) (locs : List Loc) (ls : Array Slot), va_P (wD w) vwCl (wsL w st) H → va_S A s.heap H locs → lv_has ls c.maxLocals L → W p l e R s m args below meth c H locs cn sn Q (F0 m pc ls S)
def RtI (X : CX) (cc : ByteArray) (ty : FieldType) (r : Int32) (st : St) : Prop := match X with
  | (p, l, e, R, s, m, args, below, meth, c, Q, A, cn, sn, w) => ∀ (H : Heap) (locs : List Loc) (ls : Array Slot) (pc : Nat), va_P (wD w) vwCl (wsL w st) H → va_S A s.heap H locs → narrow ty (.int r) = .int r → decode cc pc = .ok (.ireturn, 1) → W p l e R s m args below meth c H locs cn sn Q (F0 m pc ls [.int r])
def RtL (X : CX) (cc : ByteArray) (r : Int64) (st : St) : Prop := match X with
  | (p, l, e, R, s, m, args, below, meth, c, Q, A, cn, sn, w) => ∀ (H : Heap) (locs : List Loc) (ls : Array Slot) (pc : Nat), va_P (wD w) vwCl (wsL w st) H → va_S A s.heap H locs → decode cc pc = .ok (.lreturn, 1) → W p l e R s m args below meth c H locs cn sn Q (F0 m pc ls [.long r])
def RtV (X : CX) (cc : ByteArray) (st : St) : Prop := match X with
  | (p, l, e, R, s, m, args, below, meth, c, Q, A, cn, sn, w) => ∀ (H : Heap) (locs : List Loc) (ls : Array Slot) (pc : Nat), va_P (wD w) vwCl (wsL w st) H → va_S A s.heap H locs → decode cc pc = .ok (.return_, 1) → W p l e R s m args below meth c H locs cn sn Q (F0 m pc ls [])
/-- a method's contract: from the state st it comes to st', with the answer v; nothing is made -/
def Qw (w : Wp) (v : Option Value) (st : St) (A : Nat → Prop) : Array Value → State → Outcome → State → Prop := fun _ s0 oc t => oc = .returned v ∧ va_P (wD w) vwCl (wsL w st) t.heap ∧ va_F A s0 t
def Ct (y : MethodName) (cc : ByteArray) (nL : Nat) (ret : Option FieldType) (fr lo : Nat) (av : Wp → List Value) (st : St) (v : Option Value) (st' : St) : Prop := ∀ (l : Launch) (w : Wp) (sz : Nat), Met l y (.code y cc nL ret :: TW) { frames := fr, cells := 0, slots := 0, locals := lo } (va_Pc (av w) (fun U => U.heap.size = sz ∧ va_P (wD w) vwCl (wsL w st) U.heap ∧ Kw w (va_A (wsL w st) sz) U ∧ ∀ st, va_D (fun _ => True) (wsL w st))) (Qw w v st' (va_A (wsL w st) sz)) 0 0 (va_A (wsL w st) sz)
theorem wsL_len (w : Wp) (s : St) : (wsL w s).length = 101 := rfl
theorem wsL_fst (w : Wp) (s s' : St) : (wsL w s).map (fun q => q.1) = (wsL w s').map (fun q => q.1) := rfl
theorem wsL_ad {w : Wp} {s : St} (s' : St) {k : Nat} {q : Nat × va_E} (h : (wsL w s)[k]? = some q) : ∃ e, (wsL w s')[k]? = some (q.1, e) := by
  have h1 : ((wsL w s).map (fun q => q.1))[k]? = some q.1 := by rw [List.getElem?_map, h]; rfl
  rw [wsL_fst w s s', List.getElem?_map] at h1
  cases h2 : (wsL w s')[k]? with
  | none => rw [h2] at h1; cases h1
  | some z =>
    rw [h2] at h1
    exact ⟨z.2, by rw [← Option.some.inj h1]⟩
theorem wsL_D {w : Wp} {A : Nat → Prop} {s : St} (h : va_D A (wsL w s)) (s' : St) : va_D A (wsL w s') := by
  refine ⟨fun i j x y hi hj hxy => ?_, fun k x hk => ?_⟩
  · obtain ⟨e1, h1⟩ := wsL_ad s hi
    obtain ⟨e2, h2⟩ := wsL_ad s hj
    exact h.1 i j _ _ h1 h2 hxy
  · obtain ⟨e1, h1⟩ := wsL_ad s hk
    exact h.2 k (x.1, e1) h1
theorem A_in {w : Wp} {A : Nat → Prop} {s : State} {st : St} {H : Heap} {locs : List Loc} (hD : ∀ st, va_D A (wsL w st)) (hA : ∀ q, s.heap.size ≤ q → A q) (hS : va_S A s.heap H locs) : ∀ q, va_A (wsL w st) H.size q → A q := by
  intro q h
  rcases h with ⟨k, e, h⟩ | h
  · exact (hD st).2 k (q, e) h
  · exact hA q (Nat.le_trans hS.1 h)
/-! ===== a method's contract out of V ===== -/
set_option maxHeartbeats 4000000 in
theorem Ct.of {y : MethodName} {cc : ByteArray} {nL : Nat} {ret : Option FieldType} {fr lo : Nat} {av : Wp → List Value} {st st' : St} {v : Option Value} (hy : plainName y.cls = true) (hle : ∀ w, (lg_sl (av w)).length ≤ nL)
    (body : ∀ X : CX, Cx X y.cls cc nL fr lo → (match X with
      | (p, l, e, R, s, m, args, below, meth, c, Q, A, cn, sn, w) => meth.sig.returnType = ret ∧ meth.locks = false ∧ c.code = cc ∧ p.tables.exec = Jvm.exec ∧ Q = MQ below (Qw w v st' A) args s cn sn A) → V X st 0 (lv_args 0 (av (xw X))) []) : Ct y cc nL ret fr lo av st v st' := by
  intro l w sz
  refine Met.ofW (cc := cc) (maxL := nL) (ret := ret) hy rfl ?_
  intro p e s m args below meth c s₁ B hml hv
  obtain ⟨rfl, hsz, hP, hK, hD0⟩ := hv
  subst hsz
  have hx := B.exec
  have hb := B.bytes
  have hr := B.returns
  have hts := atoms_spec (ws := .code y cc nL ret :: TW) B.pre
  have hown : s.vm.findClass y.cls = some m.cls := findClass_of_methodNamed B.named
  have hlocks := B.notSynchronized
  have hA : ∀ q : Nat, s.heap.size ≤ q → va_A (wsL w st) s.heap.size q := fun q h => Or.inr h
  have hD : ∀ st1, va_D (va_A (wsL w st) s.heap.size) (wsL w st1) := fun st1 => wsL_D ((hD0 st).self (sz := s.heap.size)) st1
  rw [lg_entry_eq]
  have hl := lv_entry (av w) (hle w)
  rw [← hml] at hl
  have hl2 : lv_has ((lg_sl (av w) ++ List.replicate (nL - (lg_sl (av w)).length) Slot.unset).toArray) c.maxLocals (lv_args 0 (av w)) := by
    rw [hml] at hl ⊢
    exact hl
  exact body (p, l, e, _, s, m, _, below, meth, c, _, va_A (wsL w st) s.heap.size, 0, 0, w) ⟨hx, hb, hml, hown, fun q hq => hts q (List.mem_cons_of_mem _ hq), hK, hD, hA, rfl, rfl, Nat.zero_le _, Nat.zero_le _⟩ ⟨hr, hlocks, hb, hx, rfl⟩ s.heap [] _ hP va_S.rf hl2
theorem Ct.ofI {y : MethodName} {cc : ByteArray} {nL : Nat} {ty : FieldType} {fr lo : Nat} {av : Wp → List Value} {st st' : St} {r : Int32} (hy : plainName y.cls = true) (hle : ∀ w, (lg_sl (av w)).length ≤ nL)
    (body : ∀ X : CX, Cx X y.cls cc nL fr lo → RtI X cc ty r st' → V X st 0 (lv_args 0 (av (xw X))) []) : Ct y cc nL (some ty) fr lo av st (some (.int r)) st' := by
  refine Ct.of hy hle (fun X C h => body X C ?_)
  obtain ⟨p, l, e, R, s, m, args, below, meth, c, Q, A, cn, sn, w⟩ := X
  obtain ⟨hr, hlocks, hb, hx, rfl⟩ := h
  intro H locs ls pc hP hS hn hd
  exact W.zret hx hb hr hn (fun t ht hW => ⟨rfl, by rw [ht]; exact hP, hS.F ht⟩) hS.2.2 hd hlocks
theorem Ct.ofL {y : MethodName} {cc : ByteArray} {nL : Nat} {fr lo : Nat} {av : Wp → List Value} {st st' : St} {r : Int64} (hy : plainName y.cls = true) (hle : ∀ w, (lg_sl (av w)).length ≤ nL)
    (body : ∀ X : CX, Cx X y.cls cc nL fr lo → RtL X cc r st' → V X st 0 (lv_args 0 (av (xw X))) []) : Ct y cc nL (some .long) fr lo av st (some (.long r)) st' := by
  refine Ct.of hy hle (fun X C h => body X C ?_)
  obtain ⟨p, l, e, R, s, m, args, below, meth, c, Q, A, cn, sn, w⟩ := X
  obtain ⟨hr, hlocks, hb, hx, rfl⟩ := h
  intro H locs ls pc hP hS hd
  exact W.lret hx hb hr (fun t ht hW => ⟨rfl, by rw [ht]; exact hP, hS.F ht⟩) hS.2.2 hd hlocks
theorem Ct.ofV {y : MethodName} {cc : ByteArray} {nL : Nat} {fr lo : Nat} {av : Wp → List Value} {st st' : St} (hy : plainName y.cls = true) (hle : ∀ w, (lg_sl (av w)).length ≤ nL)
    (body : ∀ X : CX, Cx X y.cls cc nL fr lo → RtV X cc st' → V X st 0 (lv_args 0 (av (xw X))) []) : Ct y cc nL none fr lo av st none st' := by
  refine Ct.of hy hle (fun X C h => body X C ?_)
  obtain ⟨p, l, e, R, s, m, args, below, meth, c, Q, A, cn, sn, w⟩ := X
  obtain ⟨hr, hlocks, hb, hx, rfl⟩ := h
  intro H locs ls pc hP hS hd
  exact W.vret hx hb hr (fun t ht hW => ⟨rfl, by rw [ht]; exact hP, hS.F ht⟩) hS.2.2 hd hlocks
/-! ===== a row an instruction ===== -/
theorem v_iconst {X : CX} {own : String} {cc : ByteArray} {nL fr lo : Nat} {st : St} {pc : Nat} {L : List (Nat × Value)} {S : List Value} {n : Int} {v : Int32}  (C : Cx X own cc nL fr lo) (d : decode cc pc = .ok (.iconst n, 1)) (hv : Int32.ofInt n = v) (k : V X st (pc + 1) L (.int v :: S)) : V X st pc L S := by
  obtain ⟨p, l, e, R, s, m, args, below, meth, c, Q, A, cn, sn, w⟩ := X
  obtain ⟨hx, hb, hml, hown, hts, hK, hD, hA, hfr, hlo, hcn, hsn⟩ := C
  intro H locs ls hP hS hl
  exact lv_iconst hx hb d hv (k H locs ls hP hS hl)
theorem v_bipush {X : CX} {own : String} {cc : ByteArray} {nL fr lo : Nat} {st : St} {pc : Nat} {L : List (Nat × Value)} {S : List Value} {n : Int} {v : Int32}  (C : Cx X own cc nL fr lo) (d : decode cc pc = .ok (.bipush n, 2)) (hv : (Int8.ofInt n).toInt32 = v) (k : V X st (pc + 2) L (.int v :: S)) : V X st pc L S := by
  obtain ⟨p, l, e, R, s, m, args, below, meth, c, Q, A, cn, sn, w⟩ := X
  obtain ⟨hx, hb, hml, hown, hts, hK, hD, hA, hfr, hlo, hcn, hsn⟩ := C
  intro H locs ls hP hS hl
  exact lv_bipush hx hb d hv (k H locs ls hP hS hl)
theorem v_sipush {X : CX} {own : String} {cc : ByteArray} {nL fr lo : Nat} {st : St} {pc : Nat} {L : List (Nat × Value)} {S : List Value} {n : Int} {v : Int32}  (C : Cx X own cc nL fr lo) (d : decode cc pc = .ok (.sipush n, 3)) (hv : (Int16.ofInt n).toInt32 = v) (k : V X st (pc + 3) L (.int v :: S)) : V X st pc L S := by
  obtain ⟨p, l, e, R, s, m, args, below, meth, c, Q, A, cn, sn, w⟩ := X
  obtain ⟨hx, hb, hml, hown, hts, hK, hD, hA, hfr, hlo, hcn, hsn⟩ := C
  intro H locs ls hP hS hl
  exact lv_sipush hx hb d hv (k H locs ls hP hS hl)
theorem v_lconst {X : CX} {own : String} {cc : ByteArray} {nL fr lo : Nat} {st : St} {pc : Nat} {L : List (Nat × Value)} {S : List Value} {n : Fin 2} {v : Int64}  (C : Cx X own cc nL fr lo) (d : decode cc pc = .ok (.lconst n, 1)) (hv : Int64.ofNat (n : Nat) = v) (k : V X st (pc + 1) L (.long v :: S)) : V X st pc L S := by
  obtain ⟨p, l, e, R, s, m, args, below, meth, c, Q, A, cn, sn, w⟩ := X
  obtain ⟨hx, hb, hml, hown, hts, hK, hD, hA, hfr, hlo, hcn, hsn⟩ := C
  intro H locs ls hP hS hl
  exact lv_lconst hx hb d hv (k H locs ls hP hS hl)
theorem v_iload_n {X : CX} {own : String} {cc : ByteArray} {nL fr lo : Nat} {st : St} {pc : Nat} {L : List (Nat × Value)} {S : List Value} {n : Fin 4} {x : Int32} (q : Nat)  (C : Cx X own cc nL fr lo) (d : decode cc pc = .ok (.iload_n n, 1)) (h : L[q]? = some ((n : Nat), .int x)) (k : V X st (pc + 1) L (.int x :: S)) : V X st pc L S := by
  obtain ⟨p, l, e, R, s, m, args, below, meth, c, Q, A, cn, sn, w⟩ := X
  obtain ⟨hx, hb, hml, hown, hts, hK, hD, hA, hfr, hlo, hcn, hsn⟩ := C
  intro H locs ls hP hS hl
  exact lv_iload_n hx hb d rfl (lv_at hl q h) (k H locs ls hP hS hl)
theorem v_iload {X : CX} {own : String} {cc : ByteArray} {nL fr lo : Nat} {st : St} {pc : Nat} {L : List (Nat × Value)} {S : List Value} {n : Nat} {x : Int32} (q : Nat)  (C : Cx X own cc nL fr lo) (d : decode cc pc = .ok (.iload n, 2)) (h : L[q]? = some (n, .int x)) (k : V X st (pc + 2) L (.int x :: S)) : V X st pc L S := by
  obtain ⟨p, l, e, R, s, m, args, below, meth, c, Q, A, cn, sn, w⟩ := X
  obtain ⟨hx, hb, hml, hown, hts, hK, hD, hA, hfr, hlo, hcn, hsn⟩ := C
  intro H locs ls hP hS hl
  exact lv_iload hx hb d (lv_at hl q h) (k H locs ls hP hS hl)
theorem v_lload_n {X : CX} {own : String} {cc : ByteArray} {nL fr lo : Nat} {st : St} {pc : Nat} {L : List (Nat × Value)} {S : List Value} {n : Fin 4} {x : Int64} (q : Nat)  (C : Cx X own cc nL fr lo) (d : decode cc pc = .ok (.lload_n n, 1)) (h : L[q]? = some ((n : Nat), .long x)) (k : V X st (pc + 1) L (.long x :: S)) : V X st pc L S := by
  obtain ⟨p, l, e, R, s, m, args, below, meth, c, Q, A, cn, sn, w⟩ := X
  obtain ⟨hx, hb, hml, hown, hts, hK, hD, hA, hfr, hlo, hcn, hsn⟩ := C
  intro H locs ls hP hS hl
  exact lv_lload_n hx hb d rfl (lv_at hl q h) (k H locs ls hP hS hl)
theorem v_aload_n {X : CX} {own : String} {cc : ByteArray} {nL fr lo : Nat} {st : St} {pc : Nat} {L : List (Nat × Value)} {S : List Value} {n : Fin 4} {x : Nat} (q : Nat)  (C : Cx X own cc nL fr lo) (d : decode cc pc = .ok (.aload_n n, 1)) (h : L[q]? = some ((n : Nat), .ref x)) (k : V X st (pc + 1) L (.ref x :: S)) : V X st pc L S := by
  obtain ⟨p, l, e, R, s, m, args, below, meth, c, Q, A, cn, sn, w⟩ := X
  obtain ⟨hx, hb, hml, hown, hts, hK, hD, hA, hfr, hlo, hcn, hsn⟩ := C
  intro H locs ls hP hS hl
  exact lv_aload_n hx hb d rfl (lv_at hl q h) (k H locs ls hP hS hl)
theorem v_istore_n {X : CX} {own : String} {cc : ByteArray} {nL fr lo : Nat} {st : St} {pc : Nat} {L : List (Nat × Value)} {S : List Value} {n : Fin 4} {x : Int32} {L1 : List (Nat × Value)} (ks : List Nat)  (C : Cx X own cc nL fr lo) (d : decode cc pc = .ok (.istore_n n, 1)) (hn : (n : Nat) < nL) (hL : lv_pick (((n : Nat), .int x) :: L.filter (fun q => !(q.1 == (n : Nat)) && !(q.1 + 1 == (n : Nat) && q.2.category == 2))) ks = L1) (k : V X st (pc + 1) L1 S) : V X st pc L (.int x :: S) := by
  obtain ⟨p, l, e, R, s, m, args, below, meth, c, Q, A, cn, sn, w⟩ := X
  obtain ⟨hx, hb, hml, hown, hts, hK, hD, hA, hfr, hlo, hcn, hsn⟩ := C
  intro H locs ls hP hS hl
  exact lv_istore_n hx hb d rfl hl (by rw [hml]; exact hn) rfl (fun ls1 hl1 => k H locs ls1 hP hS (lv_sub hl1 ks hL))
theorem v_istore {X : CX} {own : String} {cc : ByteArray} {nL fr lo : Nat} {st : St} {pc : Nat} {L : List (Nat × Value)} {S : List Value} {n : Nat} {x : Int32} {L1 : List (Nat × Value)} (ks : List Nat)  (C : Cx X own cc nL fr lo) (d : decode cc pc = .ok (.istore n, 2)) (hn : n < nL) (hL : lv_pick ((n, .int x) :: L.filter (fun q => !(q.1 == n) && !(q.1 + 1 == n && q.2.category == 2))) ks = L1) (k : V X st (pc + 2) L1 S) : V X st pc L (.int x :: S) := by
  obtain ⟨p, l, e, R, s, m, args, below, meth, c, Q, A, cn, sn, w⟩ := X
  obtain ⟨hx, hb, hml, hown, hts, hK, hD, hA, hfr, hlo, hcn, hsn⟩ := C
  intro H locs ls hP hS hl
  exact lv_istore hx hb d hl (by rw [hml]; exact hn) rfl (fun ls1 hl1 => k H locs ls1 hP hS (lv_sub hl1 ks hL))
theorem v_lstore_n {X : CX} {own : String} {cc : ByteArray} {nL fr lo : Nat} {st : St} {pc : Nat} {L : List (Nat × Value)} {S : List Value} {n : Fin 4} {x : Int64} {L1 : List (Nat × Value)} (ks : List Nat)  (C : Cx X own cc nL fr lo) (d : decode cc pc = .ok (.lstore_n n, 1)) (hn : (n : Nat) + 1 < nL) (hL : lv_pick (((n : Nat), .long x) :: L.filter (fun q => !(q.1 == (n : Nat)) && (!(q.1 == (n : Nat) + 1) && !(q.1 + 1 == (n : Nat) && q.2.category == 2)))) ks = L1) (k : V X st (pc + 1) L1 S) : V X st pc L (.long x :: S) := by
  obtain ⟨p, l, e, R, s, m, args, below, meth, c, Q, A, cn, sn, w⟩ := X
  obtain ⟨hx, hb, hml, hown, hts, hK, hD, hA, hfr, hlo, hcn, hsn⟩ := C
  intro H locs ls hP hS hl
  exact lv_lstore_n hx hb d rfl hl (by rw [hml]; exact hn) rfl (fun ls1 hl1 => k H locs ls1 hP hS (lv_sub hl1 ks hL))
theorem v_astore_n {X : CX} {own : String} {cc : ByteArray} {nL fr lo : Nat} {st : St} {pc : Nat} {L : List (Nat × Value)} {S : List Value} {n : Fin 4} {x : Nat} {L1 : List (Nat × Value)} (ks : List Nat)  (C : Cx X own cc nL fr lo) (d : decode cc pc = .ok (.astore_n n, 1)) (hn : (n : Nat) < nL) (hL : lv_pick (((n : Nat), .ref x) :: L.filter (fun q => !(q.1 == (n : Nat)) && !(q.1 + 1 == (n : Nat) && q.2.category == 2))) ks = L1) (k : V X st (pc + 1) L1 S) : V X st pc L (.ref x :: S) := by
  obtain ⟨p, l, e, R, s, m, args, below, meth, c, Q, A, cn, sn, w⟩ := X
  obtain ⟨hx, hb, hml, hown, hts, hK, hD, hA, hfr, hlo, hcn, hsn⟩ := C
  intro H locs ls hP hS hl
  exact lv_astore_n hx hb d rfl hl (by rw [hml]; exact hn) rfl (fun ls1 hl1 => k H locs ls1 hP hS (lv_sub hl1 ks hL))
theorem v_iinc {X : CX} {own : String} {cc : ByteArray} {nL fr lo : Nat} {st : St} {pc : Nat} {L : List (Nat × Value)} {S : List Value} {n : Nat} {z : Int} {x c0 : Int32} {L1 : List (Nat × Value)} (q : Nat) (ks : List Nat)  (C : Cx X own cc nL fr lo) (d : decode cc pc = .ok (.iinc n z, 3)) (h : L[q]? = some (n, .int x)) (hc : Int32.ofInt z = c0) (hn : n < nL) (hL : lv_pick ((n, .int (x + c0)) :: L.filter (fun q => !(q.1 == n) && !(q.1 + 1 == n && q.2.category == 2))) ks = L1) (k : V X st (pc + 3) L1 S) : V X st pc L S := by
  obtain ⟨p, l, e, R, s, m, args, below, meth, c, Q, A, cn, sn, w⟩ := X
  obtain ⟨hx, hb, hml, hown, hts, hK, hD, hA, hfr, hlo, hcn, hsn⟩ := C
  intro H locs ls hP hS hl
  exact lv_iinc (v := x + c0) hx hb d hl (k := q) h (by rw [hc]) (by rw [hml]; exact hn) rfl (fun ls1 hl1 => k H locs ls1 hP hS (lv_sub hl1 ks hL))
theorem v_iadd {X : CX} {own : String} {cc : ByteArray} {nL fr lo : Nat} {st : St} {pc : Nat} {L : List (Nat × Value)} {S : List Value} {a b : Int32}  (C : Cx X own cc nL fr lo) (d : decode cc pc = .ok (.iadd, 1))  (k : V X st (pc + 1) L (.int (a + b) :: S)) : V X st pc L (.int b :: .int a :: S) := by
  obtain ⟨p, l, e, R, s, m, args, below, meth, c, Q, A, cn, sn, w⟩ := X
  obtain ⟨hx, hb, hml, hown, hts, hK, hD, hA, hfr, hlo, hcn, hsn⟩ := C
  intro H locs ls hP hS hl
  exact lv_iadd hx hb d (k H locs ls hP hS hl)
theorem v_isub {X : CX} {own : String} {cc : ByteArray} {nL fr lo : Nat} {st : St} {pc : Nat} {L : List (Nat × Value)} {S : List Value} {a b : Int32}  (C : Cx X own cc nL fr lo) (d : decode cc pc = .ok (.isub, 1))  (k : V X st (pc + 1) L (.int (a - b) :: S)) : V X st pc L (.int b :: .int a :: S) := by
  obtain ⟨p, l, e, R, s, m, args, below, meth, c, Q, A, cn, sn, w⟩ := X
  obtain ⟨hx, hb, hml, hown, hts, hK, hD, hA, hfr, hlo, hcn, hsn⟩ := C
  intro H locs ls hP hS hl
  exact lv_isub hx hb d (k H locs ls hP hS hl)
theorem v_imul {X : CX} {own : String} {cc : ByteArray} {nL fr lo : Nat} {st : St} {pc : Nat} {L : List (Nat × Value)} {S : List Value} {a b : Int32}  (C : Cx X own cc nL fr lo) (d : decode cc pc = .ok (.imul, 1))  (k : V X st (pc + 1) L (.int (a * b) :: S)) : V X st pc L (.int b :: .int a :: S) := by
  obtain ⟨p, l, e, R, s, m, args, below, meth, c, Q, A, cn, sn, w⟩ := X
  obtain ⟨hx, hb, hml, hown, hts, hK, hD, hA, hfr, hlo, hcn, hsn⟩ := C
  intro H locs ls hP hS hl
  exact lv_imul hx hb d (k H locs ls hP hS hl)
theorem v_iand {X : CX} {own : String} {cc : ByteArray} {nL fr lo : Nat} {st : St} {pc : Nat} {L : List (Nat × Value)} {S : List Value} {a b : Int32}  (C : Cx X own cc nL fr lo) (d : decode cc pc = .ok (.iand, 1))  (k : V X st (pc + 1) L (.int (a &&& b) :: S)) : V X st pc L (.int b :: .int a :: S) := by
  obtain ⟨p, l, e, R, s, m, args, below, meth, c, Q, A, cn, sn, w⟩ := X
  obtain ⟨hx, hb, hml, hown, hts, hK, hD, hA, hfr, hlo, hcn, hsn⟩ := C
  intro H locs ls hP hS hl
  exact lv_iand hx hb d (k H locs ls hP hS hl)
theorem v_ior {X : CX} {own : String} {cc : ByteArray} {nL fr lo : Nat} {st : St} {pc : Nat} {L : List (Nat × Value)} {S : List Value} {a b : Int32}  (C : Cx X own cc nL fr lo) (d : decode cc pc = .ok (.ior, 1))  (k : V X st (pc + 1) L (.int (a ||| b) :: S)) : V X st pc L (.int b :: .int a :: S) := by
  obtain ⟨p, l, e, R, s, m, args, below, meth, c, Q, A, cn, sn, w⟩ := X
  obtain ⟨hx, hb, hml, hown, hts, hK, hD, hA, hfr, hlo, hcn, hsn⟩ := C
  intro H locs ls hP hS hl
  exact lv_ior hx hb d (k H locs ls hP hS hl)
theorem v_ixor {X : CX} {own : String} {cc : ByteArray} {nL fr lo : Nat} {st : St} {pc : Nat} {L : List (Nat × Value)} {S : List Value} {a b : Int32}  (C : Cx X own cc nL fr lo) (d : decode cc pc = .ok (.ixor, 1))  (k : V X st (pc + 1) L (.int (a ^^^ b) :: S)) : V X st pc L (.int b :: .int a :: S) := by
  obtain ⟨p, l, e, R, s, m, args, below, meth, c, Q, A, cn, sn, w⟩ := X
  obtain ⟨hx, hb, hml, hown, hts, hK, hD, hA, hfr, hlo, hcn, hsn⟩ := C
  intro H locs ls hP hS hl
  exact lv_ixor hx hb d (k H locs ls hP hS hl)
theorem v_ishl {X : CX} {own : String} {cc : ByteArray} {nL fr lo : Nat} {st : St} {pc : Nat} {L : List (Nat × Value)} {S : List Value} {a b : Int32}  (C : Cx X own cc nL fr lo) (d : decode cc pc = .ok (.ishl, 1))  (k : V X st (pc + 1) L (.int (a <<< (b &&& 31)) :: S)) : V X st pc L (.int b :: .int a :: S) := by
  obtain ⟨p, l, e, R, s, m, args, below, meth, c, Q, A, cn, sn, w⟩ := X
  obtain ⟨hx, hb, hml, hown, hts, hK, hD, hA, hfr, hlo, hcn, hsn⟩ := C
  intro H locs ls hP hS hl
  exact lv_ishl hx hb d (k H locs ls hP hS hl)
theorem v_ishr {X : CX} {own : String} {cc : ByteArray} {nL fr lo : Nat} {st : St} {pc : Nat} {L : List (Nat × Value)} {S : List Value} {a b : Int32}  (C : Cx X own cc nL fr lo) (d : decode cc pc = .ok (.ishr, 1))  (k : V X st (pc + 1) L (.int (a >>> (b &&& 31)) :: S)) : V X st pc L (.int b :: .int a :: S) := by
  obtain ⟨p, l, e, R, s, m, args, below, meth, c, Q, A, cn, sn, w⟩ := X
  obtain ⟨hx, hb, hml, hown, hts, hK, hD, hA, hfr, hlo, hcn, hsn⟩ := C
  intro H locs ls hP hS hl
  exact lv_ishr hx hb d (k H locs ls hP hS hl)
theorem v_iushr {X : CX} {own : String} {cc : ByteArray} {nL fr lo : Nat} {st : St} {pc : Nat} {L : List (Nat × Value)} {S : List Value} {a b : Int32}  (C : Cx X own cc nL fr lo) (d : decode cc pc = .ok (.iushr, 1))  (k : V X st (pc + 1) L (.int (a.toUInt32 >>> (b.toUInt32 &&& Int32.toUInt32 31)).toInt32 :: S)) : V X st pc L (.int b :: .int a :: S) := by
  obtain ⟨p, l, e, R, s, m, args, below, meth, c, Q, A, cn, sn, w⟩ := X
  obtain ⟨hx, hb, hml, hown, hts, hK, hD, hA, hfr, hlo, hcn, hsn⟩ := C
  intro H locs ls hP hS hl
  exact lv_iushr hx hb d rfl (k H locs ls hP hS hl)
theorem v_irem {X : CX} {own : String} {cc : ByteArray} {nL fr lo : Nat} {st : St} {pc : Nat} {L : List (Nat × Value)} {S : List Value} {a b : Int32}  (C : Cx X own cc nL fr lo) (d : decode cc pc = .ok (.irem, 1)) (hne : ¬ b = 0) (k : V X st (pc + 1) L (.int (a - a / b * b) :: S)) : V X st pc L (.int b :: .int a :: S) := by
  obtain ⟨p, l, e, R, s, m, args, below, meth, c, Q, A, cn, sn, w⟩ := X
  obtain ⟨hx, hb, hml, hown, hts, hK, hD, hA, hfr, hlo, hcn, hsn⟩ := C
  intro H locs ls hP hS hl
  exact lv_irem hx hb d hne (k H locs ls hP hS hl)
theorem v_ladd {X : CX} {own : String} {cc : ByteArray} {nL fr lo : Nat} {st : St} {pc : Nat} {L : List (Nat × Value)} {S : List Value} {a b : Int64}  (C : Cx X own cc nL fr lo) (d : decode cc pc = .ok (.ladd, 1))  (k : V X st (pc + 1) L (.long (a + b) :: S)) : V X st pc L (.long b :: .long a :: S) := by
  obtain ⟨p, l, e, R, s, m, args, below, meth, c, Q, A, cn, sn, w⟩ := X
  obtain ⟨hx, hb, hml, hown, hts, hK, hD, hA, hfr, hlo, hcn, hsn⟩ := C
  intro H locs ls hP hS hl
  exact lv_ladd hx hb d (k H locs ls hP hS hl)
theorem v_lsub {X : CX} {own : String} {cc : ByteArray} {nL fr lo : Nat} {st : St} {pc : Nat} {L : List (Nat × Value)} {S : List Value} {a b : Int64}  (C : Cx X own cc nL fr lo) (d : decode cc pc = .ok (.lsub, 1))  (k : V X st (pc + 1) L (.long (a - b) :: S)) : V X st pc L (.long b :: .long a :: S) := by
  obtain ⟨p, l, e, R, s, m, args, below, meth, c, Q, A, cn, sn, w⟩ := X
  obtain ⟨hx, hb, hml, hown, hts, hK, hD, hA, hfr, hlo, hcn, hsn⟩ := C
  intro H locs ls hP hS hl
  exact lv_lsub hx hb d (k H locs ls hP hS hl)
theorem v_lmul {X : CX} {own : String} {cc : ByteArray} {nL fr lo : Nat} {st : St} {pc : Nat} {L : List (Nat × Value)} {S : List Value} {a b : Int64}  (C : Cx X own cc nL fr lo) (d : decode cc pc = .ok (.lmul, 1))  (k : V X st (pc + 1) L (.long (a * b) :: S)) : V X st pc L (.long b :: .long a :: S) := by
  obtain ⟨p, l, e, R, s, m, args, below, meth, c, Q, A, cn, sn, w⟩ := X
  obtain ⟨hx, hb, hml, hown, hts, hK, hD, hA, hfr, hlo, hcn, hsn⟩ := C
  intro H locs ls hP hS hl
  exact lv_lmul hx hb d (k H locs ls hP hS hl)
theorem v_lor {X : CX} {own : String} {cc : ByteArray} {nL fr lo : Nat} {st : St} {pc : Nat} {L : List (Nat × Value)} {S : List Value} {a b : Int64}  (C : Cx X own cc nL fr lo) (d : decode cc pc = .ok (.lor, 1))  (k : V X st (pc + 1) L (.long (a ||| b) :: S)) : V X st pc L (.long b :: .long a :: S) := by
  obtain ⟨p, l, e, R, s, m, args, below, meth, c, Q, A, cn, sn, w⟩ := X
  obtain ⟨hx, hb, hml, hown, hts, hK, hD, hA, hfr, hlo, hcn, hsn⟩ := C
  intro H locs ls hP hS hl
  exact lv_lor hx hb d (k H locs ls hP hS hl)
theorem v_lshl {X : CX} {own : String} {cc : ByteArray} {nL fr lo : Nat} {st : St} {pc : Nat} {L : List (Nat × Value)} {S : List Value} {a : Int64} {b : Int32}  (C : Cx X own cc nL fr lo) (d : decode cc pc = .ok (.lshl, 1))  (k : V X st (pc + 1) L (.long (a <<< (b.toInt64 &&& 63)) :: S)) : V X st pc L (.int b :: .long a :: S) := by
  obtain ⟨p, l, e, R, s, m, args, below, meth, c, Q, A, cn, sn, w⟩ := X
  obtain ⟨hx, hb, hml, hown, hts, hK, hD, hA, hfr, hlo, hcn, hsn⟩ := C
  intro H locs ls hP hS hl
  exact lv_lshl hx hb d rfl (k H locs ls hP hS hl)
theorem v_lcmp {X : CX} {own : String} {cc : ByteArray} {nL fr lo : Nat} {st : St} {pc : Nat} {L : List (Nat × Value)} {S : List Value} {a b : Int64}  (C : Cx X own cc nL fr lo) (d : decode cc pc = .ok (.lcmp, 1))  (k : V X st (pc + 1) L (.int (lg_cmp a b) :: S)) : V X st pc L (.long b :: .long a :: S) := by
  obtain ⟨p, l, e, R, s, m, args, below, meth, c, Q, A, cn, sn, w⟩ := X
  obtain ⟨hx, hb, hml, hown, hts, hK, hD, hA, hfr, hlo, hcn, hsn⟩ := C
  intro H locs ls hP hS hl
  exact W.lcmp hx hb d (k H locs ls hP hS hl)
theorem v_i2l {X : CX} {own : String} {cc : ByteArray} {nL fr lo : Nat} {st : St} {pc : Nat} {L : List (Nat × Value)} {S : List Value} {a : Int32}  (C : Cx X own cc nL fr lo) (d : decode cc pc = .ok (.i2l, 1))  (k : V X st (pc + 1) L (.long a.toInt64 :: S)) : V X st pc L (.int a :: S) := by
  obtain ⟨p, l, e, R, s, m, args, below, meth, c, Q, A, cn, sn, w⟩ := X
  obtain ⟨hx, hb, hml, hown, hts, hK, hD, hA, hfr, hlo, hcn, hsn⟩ := C
  intro H locs ls hP hS hl
  exact lv_i2l hx hb d rfl (k H locs ls hP hS hl)
theorem v_l2i {X : CX} {own : String} {cc : ByteArray} {nL fr lo : Nat} {st : St} {pc : Nat} {L : List (Nat × Value)} {S : List Value} {a : Int64}  (C : Cx X own cc nL fr lo) (d : decode cc pc = .ok (.l2i, 1))  (k : V X st (pc + 1) L (.int a.toInt32 :: S)) : V X st pc L (.long a :: S) := by
  obtain ⟨p, l, e, R, s, m, args, below, meth, c, Q, A, cn, sn, w⟩ := X
  obtain ⟨hx, hb, hml, hown, hts, hK, hD, hA, hfr, hlo, hcn, hsn⟩ := C
  intro H locs ls hP hS hl
  exact lv_l2i hx hb d rfl (k H locs ls hP hS hl)
theorem v_i2b {X : CX} {own : String} {cc : ByteArray} {nL fr lo : Nat} {st : St} {pc : Nat} {L : List (Nat × Value)} {S : List Value} {a : Int32}  (C : Cx X own cc nL fr lo) (d : decode cc pc = .ok (.i2b, 1))  (k : V X st (pc + 1) L (.int a.toInt8.toInt32 :: S)) : V X st pc L (.int a :: S) := by
  obtain ⟨p, l, e, R, s, m, args, below, meth, c, Q, A, cn, sn, w⟩ := X
  obtain ⟨hx, hb, hml, hown, hts, hK, hD, hA, hfr, hlo, hcn, hsn⟩ := C
  intro H locs ls hP hS hl
  exact lv_i2b hx hb d rfl (k H locs ls hP hS hl)
theorem v_i2c {X : CX} {own : String} {cc : ByteArray} {nL fr lo : Nat} {st : St} {pc : Nat} {L : List (Nat × Value)} {S : List Value} {a : Int32}  (C : Cx X own cc nL fr lo) (d : decode cc pc = .ok (.i2c, 1))  (k : V X st (pc + 1) L (.int (a.toUInt32 % 65536).toInt32 :: S)) : V X st pc L (.int a :: S) := by
  obtain ⟨p, l, e, R, s, m, args, below, meth, c, Q, A, cn, sn, w⟩ := X
  obtain ⟨hx, hb, hml, hown, hts, hK, hD, hA, hfr, hlo, hcn, hsn⟩ := C
  intro H locs ls hP hS hl
  exact lv_i2c hx hb d rfl (k H locs ls hP hS hl)
theorem v_dupi {X : CX} {own : String} {cc : ByteArray} {nL fr lo : Nat} {st : St} {pc : Nat} {L : List (Nat × Value)} {S : List Value} {a : Int32}  (C : Cx X own cc nL fr lo) (d : decode cc pc = .ok (.dup, 1))  (k : V X st (pc + 1) L (.int a :: .int a :: S)) : V X st pc L (.int a :: S) := by
  obtain ⟨p, l, e, R, s, m, args, below, meth, c, Q, A, cn, sn, w⟩ := X
  obtain ⟨hx, hb, hml, hown, hts, hK, hD, hA, hfr, hlo, hcn, hsn⟩ := C
  intro H locs ls hP hS hl
  exact lv_dup hx hb d rfl (k H locs ls hP hS hl)
theorem v_dupr {X : CX} {own : String} {cc : ByteArray} {nL fr lo : Nat} {st : St} {pc : Nat} {L : List (Nat × Value)} {S : List Value} {a : Nat}  (C : Cx X own cc nL fr lo) (d : decode cc pc = .ok (.dup, 1))  (k : V X st (pc + 1) L (.ref a :: .ref a :: S)) : V X st pc L (.ref a :: S) := by
  obtain ⟨p, l, e, R, s, m, args, below, meth, c, Q, A, cn, sn, w⟩ := X
  obtain ⟨hx, hb, hml, hown, hts, hK, hD, hA, hfr, hlo, hcn, hsn⟩ := C
  intro H locs ls hP hS hl
  exact lv_dup hx hb d rfl (k H locs ls hP hS hl)
theorem v_icmp_eq {X : CX} {own : String} {cc : ByteArray} {nL fr lo : Nat} {st : St} {pc : Nat} {L : List (Nat × Value)} {S : List Value} {a b : Int32} {off : Int} (tgt : Nat)  (C : Cx X own cc nL fr lo) (d : decode cc pc = .ok (.if_icmp .eq off, 3)) (ht : (pc : Int) + off = (tgt : Int)) (kt : a = b → V X st tgt L S) (kf : ¬ a = b → V X st (pc + 3) L S) : V X st pc L (.int b :: .int a :: S) := by
  obtain ⟨p, l, e, R, s, m, args, below, meth, c, Q, A, cn, sn, w⟩ := X
  obtain ⟨hx, hb, hml, hown, hts, hK, hD, hA, hfr, hlo, hcn, hsn⟩ := C
  intro H locs ls hP hS hl
  exact lv_icmp_eq hx hb d ht (fun c => kt c H locs ls hP hS hl) (fun c => kf c H locs ls hP hS hl)
theorem v_if_eq {X : CX} {own : String} {cc : ByteArray} {nL fr lo : Nat} {st : St} {pc : Nat} {L : List (Nat × Value)} {S : List Value} {a : Int32} {off : Int} (tgt : Nat)  (C : Cx X own cc nL fr lo) (d : decode cc pc = .ok (.ifCond .eq off, 3)) (ht : (pc : Int) + off = (tgt : Int)) (kt : a = 0 → V X st tgt L S) (kf : ¬ a = 0 → V X st (pc + 3) L S) : V X st pc L (.int a :: S) := by
  obtain ⟨p, l, e, R, s, m, args, below, meth, c, Q, A, cn, sn, w⟩ := X
  obtain ⟨hx, hb, hml, hown, hts, hK, hD, hA, hfr, hlo, hcn, hsn⟩ := C
  intro H locs ls hP hS hl
  exact lv_if_eq hx hb d ht (fun c => kt c H locs ls hP hS hl) (fun c => kf c H locs ls hP hS hl)
theorem v_icmp_ne {X : CX} {own : String} {cc : ByteArray} {nL fr lo : Nat} {st : St} {pc : Nat} {L : List (Nat × Value)} {S : List Value} {a b : Int32} {off : Int} (tgt : Nat)  (C : Cx X own cc nL fr lo) (d : decode cc pc = .ok (.if_icmp .ne off, 3)) (ht : (pc : Int) + off = (tgt : Int)) (kt : ¬ a = b → V X st tgt L S) (kf : a = b → V X st (pc + 3) L S) : V X st pc L (.int b :: .int a :: S) := by
  obtain ⟨p, l, e, R, s, m, args, below, meth, c, Q, A, cn, sn, w⟩ := X
  obtain ⟨hx, hb, hml, hown, hts, hK, hD, hA, hfr, hlo, hcn, hsn⟩ := C
  intro H locs ls hP hS hl
  exact lv_icmp_ne hx hb d ht (fun c => kt c H locs ls hP hS hl) (fun c => kf c H locs ls hP hS hl)
theorem v_if_ne {X : CX} {own : String} {cc : ByteArray} {nL fr lo : Nat} {st : St} {pc : Nat} {L : List (Nat × Value)} {S : List Value} {a : Int32} {off : Int} (tgt : Nat)  (C : Cx X own cc nL fr lo) (d : decode cc pc = .ok (.ifCond .ne off, 3)) (ht : (pc : Int) + off = (tgt : Int)) (kt : ¬ a = 0 → V X st tgt L S) (kf : a = 0 → V X st (pc + 3) L S) : V X st pc L (.int a :: S) := by
  obtain ⟨p, l, e, R, s, m, args, below, meth, c, Q, A, cn, sn, w⟩ := X
  obtain ⟨hx, hb, hml, hown, hts, hK, hD, hA, hfr, hlo, hcn, hsn⟩ := C
  intro H locs ls hP hS hl
  exact lv_if_ne hx hb d ht (fun c => kt c H locs ls hP hS hl) (fun c => kf c H locs ls hP hS hl)
theorem v_icmp_lt {X : CX} {own : String} {cc : ByteArray} {nL fr lo : Nat} {st : St} {pc : Nat} {L : List (Nat × Value)} {S : List Value} {a b : Int32} {off : Int} (tgt : Nat)  (C : Cx X own cc nL fr lo) (d : decode cc pc = .ok (.if_icmp .lt off, 3)) (ht : (pc : Int) + off = (tgt : Int)) (kt : a < b → V X st tgt L S) (kf : ¬ a < b → V X st (pc + 3) L S) : V X st pc L (.int b :: .int a :: S) := by
  obtain ⟨p, l, e, R, s, m, args, below, meth, c, Q, A, cn, sn, w⟩ := X
  obtain ⟨hx, hb, hml, hown, hts, hK, hD, hA, hfr, hlo, hcn, hsn⟩ := C
  intro H locs ls hP hS hl
  exact lv_icmp_lt hx hb d ht (fun c => kt c H locs ls hP hS hl) (fun c => kf c H locs ls hP hS hl)
theorem v_if_lt {X : CX} {own : String} {cc : ByteArray} {nL fr lo : Nat} {st : St} {pc : Nat} {L : List (Nat × Value)} {S : List Value} {a : Int32} {off : Int} (tgt : Nat)  (C : Cx X own cc nL fr lo) (d : decode cc pc = .ok (.ifCond .lt off, 3)) (ht : (pc : Int) + off = (tgt : Int)) (kt : a < 0 → V X st tgt L S) (kf : ¬ a < 0 → V X st (pc + 3) L S) : V X st pc L (.int a :: S) := by
  obtain ⟨p, l, e, R, s, m, args, below, meth, c, Q, A, cn, sn, w⟩ := X
  obtain ⟨hx, hb, hml, hown, hts, hK, hD, hA, hfr, hlo, hcn, hsn⟩ := C
  intro H locs ls hP hS hl
  exact lv_if_lt hx hb d ht (fun c => kt c H locs ls hP hS hl) (fun c => kf c H locs ls hP hS hl)
theorem v_icmp_ge {X : CX} {own : String} {cc : ByteArray} {nL fr lo : Nat} {st : St} {pc : Nat} {L : List (Nat × Value)} {S : List Value} {a b : Int32} {off : Int} (tgt : Nat)  (C : Cx X own cc nL fr lo) (d : decode cc pc = .ok (.if_icmp .ge off, 3)) (ht : (pc : Int) + off = (tgt : Int)) (kt : b ≤ a → V X st tgt L S) (kf : ¬ b ≤ a → V X st (pc + 3) L S) : V X st pc L (.int b :: .int a :: S) := by
  obtain ⟨p, l, e, R, s, m, args, below, meth, c, Q, A, cn, sn, w⟩ := X
  obtain ⟨hx, hb, hml, hown, hts, hK, hD, hA, hfr, hlo, hcn, hsn⟩ := C
  intro H locs ls hP hS hl
  exact lv_icmp_ge hx hb d ht (fun c => kt c H locs ls hP hS hl) (fun c => kf c H locs ls hP hS hl)
theorem v_if_ge {X : CX} {own : String} {cc : ByteArray} {nL fr lo : Nat} {st : St} {pc : Nat} {L : List (Nat × Value)} {S : List Value} {a : Int32} {off : Int} (tgt : Nat)  (C : Cx X own cc nL fr lo) (d : decode cc pc = .ok (.ifCond .ge off, 3)) (ht : (pc : Int) + off = (tgt : Int)) (kt : 0 ≤ a → V X st tgt L S) (kf : ¬ 0 ≤ a → V X st (pc + 3) L S) : V X st pc L (.int a :: S) := by
  obtain ⟨p, l, e, R, s, m, args, below, meth, c, Q, A, cn, sn, w⟩ := X
  obtain ⟨hx, hb, hml, hown, hts, hK, hD, hA, hfr, hlo, hcn, hsn⟩ := C
  intro H locs ls hP hS hl
  exact lv_if_ge hx hb d ht (fun c => kt c H locs ls hP hS hl) (fun c => kf c H locs ls hP hS hl)
theorem v_icmp_gt {X : CX} {own : String} {cc : ByteArray} {nL fr lo : Nat} {st : St} {pc : Nat} {L : List (Nat × Value)} {S : List Value} {a b : Int32} {off : Int} (tgt : Nat)  (C : Cx X own cc nL fr lo) (d : decode cc pc = .ok (.if_icmp .gt off, 3)) (ht : (pc : Int) + off = (tgt : Int)) (kt : b < a → V X st tgt L S) (kf : ¬ b < a → V X st (pc + 3) L S) : V X st pc L (.int b :: .int a :: S) := by
  obtain ⟨p, l, e, R, s, m, args, below, meth, c, Q, A, cn, sn, w⟩ := X
  obtain ⟨hx, hb, hml, hown, hts, hK, hD, hA, hfr, hlo, hcn, hsn⟩ := C
  intro H locs ls hP hS hl
  exact lv_icmp_gt hx hb d ht (fun c => kt c H locs ls hP hS hl) (fun c => kf c H locs ls hP hS hl)
theorem v_if_gt {X : CX} {own : String} {cc : ByteArray} {nL fr lo : Nat} {st : St} {pc : Nat} {L : List (Nat × Value)} {S : List Value} {a : Int32} {off : Int} (tgt : Nat)  (C : Cx X own cc nL fr lo) (d : decode cc pc = .ok (.ifCond .gt off, 3)) (ht : (pc : Int) + off = (tgt : Int)) (kt : 0 < a → V X st tgt L S) (kf : ¬ 0 < a → V X st (pc + 3) L S) : V X st pc L (.int a :: S) := by
  obtain ⟨p, l, e, R, s, m, args, below, meth, c, Q, A, cn, sn, w⟩ := X
  obtain ⟨hx, hb, hml, hown, hts, hK, hD, hA, hfr, hlo, hcn, hsn⟩ := C
  intro H locs ls hP hS hl
  exact lv_if_gt hx hb d ht (fun c => kt c H locs ls hP hS hl) (fun c => kf c H locs ls hP hS hl)
theorem v_icmp_le {X : CX} {own : String} {cc : ByteArray} {nL fr lo : Nat} {st : St} {pc : Nat} {L : List (Nat × Value)} {S : List Value} {a b : Int32} {off : Int} (tgt : Nat)  (C : Cx X own cc nL fr lo) (d : decode cc pc = .ok (.if_icmp .le off, 3)) (ht : (pc : Int) + off = (tgt : Int)) (kt : a ≤ b → V X st tgt L S) (kf : ¬ a ≤ b → V X st (pc + 3) L S) : V X st pc L (.int b :: .int a :: S) := by
  obtain ⟨p, l, e, R, s, m, args, below, meth, c, Q, A, cn, sn, w⟩ := X
  obtain ⟨hx, hb, hml, hown, hts, hK, hD, hA, hfr, hlo, hcn, hsn⟩ := C
  intro H locs ls hP hS hl
  exact lv_icmp_le hx hb d ht (fun c => kt c H locs ls hP hS hl) (fun c => kf c H locs ls hP hS hl)
theorem v_if_le {X : CX} {own : String} {cc : ByteArray} {nL fr lo : Nat} {st : St} {pc : Nat} {L : List (Nat × Value)} {S : List Value} {a : Int32} {off : Int} (tgt : Nat)  (C : Cx X own cc nL fr lo) (d : decode cc pc = .ok (.ifCond .le off, 3)) (ht : (pc : Int) + off = (tgt : Int)) (kt : a ≤ 0 → V X st tgt L S) (kf : ¬ a ≤ 0 → V X st (pc + 3) L S) : V X st pc L (.int a :: S) := by
  obtain ⟨p, l, e, R, s, m, args, below, meth, c, Q, A, cn, sn, w⟩ := X
  obtain ⟨hx, hb, hml, hown, hts, hK, hD, hA, hfr, hlo, hcn, hsn⟩ := C
  intro H locs ls hP hS hl
  exact lv_if_le hx hb d ht (fun c => kt c H locs ls hP hS hl) (fun c => kf c H locs ls hP hS hl)
theorem v_goto {X : CX} {own : String} {cc : ByteArray} {nL fr lo : Nat} {st : St} {pc : Nat} {L : List (Nat × Value)} {S : List Value} {off : Int} (tgt : Nat)  (C : Cx X own cc nL fr lo) (d : decode cc pc = .ok (.goto off, 3)) (ht : (pc : Int) + off = (tgt : Int)) (k : V X st tgt L S) : V X st pc L S := by
  obtain ⟨p, l, e, R, s, m, args, below, meth, c, Q, A, cn, sn, w⟩ := X
  obtain ⟨hx, hb, hml, hown, hts, hK, hD, hA, hfr, hlo, hcn, hsn⟩ := C
  intro H locs ls hP hS hl
  exact lv_goto hx hb d ht (k H locs ls hP hS hl)
theorem v_ldc {X : CX} {own : String} {cc : ByteArray} {nL fr lo : Nat} {st : St} {pc : Nat} {L : List (Nat × Value)} {S : List Value} {i : Nat} {v : Int32}  (C : Cx X own cc nL fr lo) (hc : Cond.constant own i v ∈ TW) (d : decode cc pc = .ok (.ldc i, 2)) (k : V X st (pc + 2) L (.int v :: S)) : V X st pc L S := by
  obtain ⟨p, l, e, R, s, m, args, below, meth, c, Q, A, cn, sn, w⟩ := X
  obtain ⟨hx, hb, hml, hown, hts, hK, hD, hA, hfr, hlo, hcn, hsn⟩ := C
  intro H locs ls hP hS hl
  exact lv_ldc hx hb hown (hts _ hc) d (k H locs ls hP hS hl)
theorem v_ldcw {X : CX} {own : String} {cc : ByteArray} {nL fr lo : Nat} {st : St} {pc : Nat} {L : List (Nat × Value)} {S : List Value} {i : Nat} {v : Int32}  (C : Cx X own cc nL fr lo) (hc : Cond.constant own i v ∈ TW) (d : decode cc pc = .ok (.ldc_w i, 3)) (k : V X st (pc + 3) L (.int v :: S)) : V X st pc L S := by
  obtain ⟨p, l, e, R, s, m, args, below, meth, c, Q, A, cn, sn, w⟩ := X
  obtain ⟨hx, hb, hml, hown, hts, hK, hD, hA, hfr, hlo, hcn, hsn⟩ := C
  intro H locs ls hP hS hl
  exact lv_ldcw hx hb hown (hts _ hc) d (k H locs ls hP hS hl)
theorem v_ldc2 {X : CX} {own : String} {cc : ByteArray} {nL fr lo : Nat} {st : St} {pc : Nat} {L : List (Nat × Value)} {S : List Value} {i : Nat} {v : Int64}  (C : Cx X own cc nL fr lo) (hc : Cond.constantLong own i v ∈ TW) (d : decode cc pc = .ok (.ldc2_w i, 3)) (k : V X st (pc + 3) L (.long v :: S)) : V X st pc L S := by
  obtain ⟨p, l, e, R, s, m, args, below, meth, c, Q, A, cn, sn, w⟩ := X
  obtain ⟨hx, hb, hml, hown, hts, hK, hD, hA, hfr, hlo, hcn, hsn⟩ := C
  intro H locs ls hP hS hl
  exact lv_ldc2 hx hb hown (hts _ hc) d (k H locs ls hP hS hl)
theorem v_ldcS {X : CX} {own : String} {cc : ByteArray} {nL fr lo : Nat} {st : St} {pc : Nat} {L : List (Nat × Value)} {S : List Value} {i : Nat} {tx : String} (j : Nat)  (C : Cx X own cc nL fr lo) (hc : (own, i, tx, j) ∈ strT) (d : decode cc pc = .ok (.ldc i, 2)) (k : V X st (pc + 2) L (.ref (wK (xw X) j) :: S)) : V X st pc L S := by
  obtain ⟨p, l, e, R, s, m, args, below, meth, c, Q, A, cn, sn, w⟩ := X
  obtain ⟨hx, hb, hml, hown, hts, hK, hD, hA, hfr, hlo, hcn, hsn⟩ := C
  intro H locs ls hP hS hl
  exact va_ldcS hx hb hown (hK.2.2.1 _ hc) d (k H locs ls hP hS hl)
theorem v_tswI {X : CX} {own : String} {cc : ByteArray} {nL fr lo : Nat} {st : St} {pc : Nat} {L : List (Nat × Value)} {S : List Value} {dflt lo1 hi : Int} {offs : Array Int} {len : Nat} {x : Int32} {off : Int} (tgt : Nat)  (C : Cx X own cc nL fr lo) (d : decode cc pc = .ok (.tableswitch dflt lo1 hi offs, len)) (h1 : ¬ x.toInt < lo1) (h2 : ¬ hi < x.toInt) (ho : offs[(x.toInt - lo1).toNat]? = some off) (ht : (pc : Int) + off = (tgt : Int)) (k : V X st tgt L S) : V X st pc L (.int x :: S) := by
  obtain ⟨p, l, e, R, s, m, args, below, meth, c, Q, A, cn, sn, w⟩ := X
  obtain ⟨hx, hb, hml, hown, hts, hK, hD, hA, hfr, hlo, hcn, hsn⟩ := C
  intro H locs ls hP hS hl
  exact lv_tableIn hx hb d h1 h2 ho ht (k H locs ls hP hS hl)
theorem v_tswO {X : CX} {own : String} {cc : ByteArray} {nL fr lo : Nat} {st : St} {pc : Nat} {L : List (Nat × Value)} {S : List Value} {dflt lo1 hi : Int} {offs : Array Int} {len : Nat} {x : Int32} (tgt : Nat)  (C : Cx X own cc nL fr lo) (d : decode cc pc = .ok (.tableswitch dflt lo1 hi offs, len)) (h : x.toInt < lo1 ∨ hi < x.toInt) (ht : (pc : Int) + dflt = (tgt : Int)) (k : V X st tgt L S) : V X st pc L (.int x :: S) := by
  obtain ⟨p, l, e, R, s, m, args, below, meth, c, Q, A, cn, sn, w⟩ := X
  obtain ⟨hx, hb, hml, hown, hts, hK, hD, hA, hfr, hlo, hcn, hsn⟩ := C
  intro H locs ls hP hS hl
  exact lv_tableOut hx hb d h ht (k H locs ls hP hS hl)
theorem v_lsw {X : CX} {own : String} {cc : ByteArray} {nL fr lo : Nat} {st : St} {pc : Nat} {L : List (Nat × Value)} {S : List Value} {dflt : Int} {ps : Array (Int × Int)} {len : Nat} {x : Int32} {off : Int} (tgt : Nat)  (C : Cx X own cc nL fr lo) (d : decode cc pc = .ok (.lookupswitch dflt ps, len)) (hp : (ps.toList.zip (ps.toList.drop 1)).all (fun (a, next) => a.1 < next.1) = true) (ho : Op.lookupswitch.offset ps.toList dflt x.toInt = off) (ht : (pc : Int) + off = (tgt : Int)) (k : V X st tgt L S) : V X st pc L (.int x :: S) := by
  obtain ⟨p, l, e, R, s, m, args, below, meth, c, Q, A, cn, sn, w⟩ := X
  obtain ⟨hx, hb, hml, hown, hts, hK, hD, hA, hfr, hlo, hcn, hsn⟩ := C
  intro H locs ls hP hS hl
  exact lv_lookup hx hb d hp ho ht (k H locs ls hP hS hl)
theorem v_iret {X : CX} {cc : ByteArray} {st : St} {pc : Nat} {L : List (Nat × Value)} {ty : FieldType} {r : Int32} (R1 : RtI X cc ty r st) (hn : narrow ty (.int r) = .int r) (d : decode cc pc = .ok (.ireturn, 1)) : V X st pc L [.int r] := by
  obtain ⟨p, l, e, R, s, m, args, below, meth, c, Q, A, cn, sn, w⟩ := X
  intro H locs ls hP hS hl
  exact R1 H locs ls pc hP hS hn d
theorem v_lret {X : CX} {cc : ByteArray} {st : St} {pc : Nat} {L : List (Nat × Value)} {r : Int64} (R1 : RtL X cc r st) (d : decode cc pc = .ok (.lreturn, 1)) : V X st pc L [.long r] := by
  obtain ⟨p, l, e, R, s, m, args, below, meth, c, Q, A, cn, sn, w⟩ := X
  intro H locs ls hP hS hl
  exact R1 H locs ls pc hP hS d
theorem v_vret {X : CX} {cc : ByteArray} {st : St} {pc : Nat} {L : List (Nat × Value)} (R1 : RtV X cc st) (d : decode cc pc = .ok (.return_, 1)) : V X st pc L [] := by
  obtain ⟨p, l, e, R, s, m, args, below, meth, c, Q, A, cn, sn, w⟩ := X
  intro H locs ls hP hS hl
  exact R1 H locs ls pc hP hS d
theorem v_sub {X : CX} {st : St} {pc : Nat} {L L1 : List (Nat × Value)} {S : List Value} (ks : List Nat) (hL : lv_pick L ks = L1) (k : V X st pc L1 S) : V X st pc L S := by
  obtain ⟨p, l, e, R, s, m, args, below, meth, c, Q, A, cn, sn, w⟩ := X
  intro H locs ls hP hS hl
  exact k H locs ls hP hS (lv_sub hl ks hL)
theorem v_get {X : CX} {own : String} {cc : ByteArray} {nL fr lo : Nat} {st : St} {pc : Nat} {L : List (Nat × Value)} {S : List Value} {idx : Nat} {R1 : String} {T : u_T} {N ci q k1 : Nat} {fs : List Value} {v : Value}  (C : Cx X own cc nL fr lo) (he : (wsL (xw X) st)[q]? = some (wA (xw X) q, .inr (ci, fs))) (hc : vwCl[ci]? = some (R1, T, N)) (hin : ∀ z ∈ u_ws R1 T N, z ∈ TW) (hk : k1 < N) (hv : fs[k1]? = some v) (lk : Cond.fieldLink own idx (T k1).1 (T k1).2.1 (T k1).2.2.1 ∈ TW) (d : decode cc pc = .ok (.getfield idx, 3)) (k : V X st (pc + 3) L (v :: S)) : V X st pc L (.ref (wA (xw X) q) :: S) := by
  obtain ⟨p, l, e, R, s, m, args, below, meth, c, Q, A, cn, sn, w⟩ := X
  obtain ⟨hx, hb, hml, hown, hts, hK, hD, hA, hfr, hlo, hcn, hsn⟩ := C
  intro H locs ls hP hS hl
  exact va_get hx hb hts hin hown hK.1 hP q he hc k1 hk (hts _ lk) (fun _ h9 => h9) hv d (k H locs ls hP hS hl)
theorem v_put {X : CX} {own : String} {cc : ByteArray} {nL fr lo : Nat} {st : St} {pc : Nat} {L : List (Nat × Value)} {S : List Value} {st1 : St} {idx : Nat} {R1 : String} {T : u_T} {N ci q k1 : Nat} {fs : List Value} {v : Value} {ty : FieldType}  (C : Cx X own cc nL fr lo) (he : (wsL (xw X) st)[q]? = some (wA (xw X) q, .inr (ci, fs))) (hc : vwCl[ci]? = some (R1, T, N)) (hin : ∀ z ∈ u_ws R1 T N, z ∈ TW) (ty0 : Nat → FieldType) (hty : ∀ k, k < N → parseFieldDescriptor (T k).2.2.1 = some (ty0 k)) (hnm : ∀ a, a < N → ∀ b, b < N → a ≠ b → (T a).2.1 ≠ (T b).2.1) (hk : k1 < N) (hfin : (T k1).2.2.2 = false) (hd : parseFieldDescriptor (T k1).2.2.1 = some ty) (hn : narrow ty v = v) (hfit : fits ty v = true) (hll : k1 < fs.length) (hset : (wsL (xw X) st).set q (wA (xw X) q, .inr (ci, fs.set k1 v)) = wsL (xw X) st1) (lk : Cond.fieldLink own idx (T k1).1 (T k1).2.1 (T k1).2.2.1 ∈ TW) (d : decode cc pc = .ok (.putfield idx, 3)) (k : V X st1 (pc + 3) L S) : V X st pc L (v :: .ref (wA (xw X) q) :: S) := by
  obtain ⟨p, l, e, R, s, m, args, below, meth, c, Q, A, cn, sn, w⟩ := X
  obtain ⟨hx, hb, hml, hown, hts, hK, hD, hA, hfr, hlo, hcn, hsn⟩ := C
  intro H locs ls hP hS hl
  exact va_put hx hb hts hin ty0 hty hnm hown hK.1 hP (hD st) hS q he hc k1 hk (hts _ lk) (fun _ h9 => h9) hfin hd hn hfit hll d (fun H1 locs1 hP1 _ hS1 => k H1 locs1 ls (by rw [← hset]; exact hP1) hS1 hl)
theorem v_iald {X : CX} {own : String} {cc : ByteArray} {nL fr lo : Nat} {st : St} {pc : Nat} {L : List (Nat × Value)} {S : List Value} {q n : Nat} {f : Nat → Int32} {i : Int32}  (C : Cx X own cc nL fr lo) (he : (wsL (xw X) st)[q]? = some (wA (xw X) q, .inl (wC (xw X) 1, n, .inl f))) (hin : vp_in i n) (d : decode cc pc = .ok (.iaload, 1)) (k : V X st (pc + 1) L (.int (f i.toNatClampNeg) :: S)) : V X st pc L (.int i :: .ref (wA (xw X) q) :: S) := by
  obtain ⟨p, l, e, R, s, m, args, below, meth, c, Q, A, cn, sn, w⟩ := X
  obtain ⟨hx, hb, hml, hown, hts, hK, hD, hA, hfr, hlo, hcn, hsn⟩ := C
  intro H locs ls hP hS hl
  exact va_iald hx hb hK.1 hP q 1 he rfl hin d (k H locs ls hP hS hl)
theorem v_iast {X : CX} {own : String} {cc : ByteArray} {nL fr lo : Nat} {st : St} {pc : Nat} {L : List (Nat × Value)} {S : List Value} {st1 : St} {q n : Nat} {f : Nat → Int32} {i x : Int32}  (C : Cx X own cc nL fr lo) (he : (wsL (xw X) st)[q]? = some (wA (xw X) q, .inl (wC (xw X) 1, n, .inl f))) (hset : (wsL (xw X) st).set q (wA (xw X) q, .inl (wC (xw X) 1, n, .inl (upd f i.toNatClampNeg (x)))) = wsL (xw X) st1) (hin : vp_in i n) (d : decode cc pc = .ok (.iastore, 1)) (k : V X st1 (pc + 1) L S) : V X st pc L (.int x :: .int i :: .ref (wA (xw X) q) :: S) := by
  obtain ⟨p, l, e, R, s, m, args, below, meth, c, Q, A, cn, sn, w⟩ := X
  obtain ⟨hx, hb, hml, hown, hts, hK, hD, hA, hfr, hlo, hcn, hsn⟩ := C
  intro H locs ls hP hS hl
  exact va_iast hx hb hK.1 hP (hD st) hS q 1 he rfl hin d (fun H1 locs1 hP1 _ hS1 => k H1 locs1 ls (by rw [← hset]; exact hP1) hS1 hl)
theorem v_bald {X : CX} {own : String} {cc : ByteArray} {nL fr lo : Nat} {st : St} {pc : Nat} {L : List (Nat × Value)} {S : List Value} {q n : Nat} {f : Nat → Int32} {i : Int32}  (C : Cx X own cc nL fr lo) (he : (wsL (xw X) st)[q]? = some (wA (xw X) q, .inl (wC (xw X) 0, n, .inl f))) (hin : vp_in i n) (d : decode cc pc = .ok (.baload, 1)) (k : V X st (pc + 1) L (.int (f i.toNatClampNeg) :: S)) : V X st pc L (.int i :: .ref (wA (xw X) q) :: S) := by
  obtain ⟨p, l, e, R, s, m, args, below, meth, c, Q, A, cn, sn, w⟩ := X
  obtain ⟨hx, hb, hml, hown, hts, hK, hD, hA, hfr, hlo, hcn, hsn⟩ := C
  intro H locs ls hP hS hl
  exact va_bald hx hb hK.1 hP q 0 he rfl hin d (k H locs ls hP hS hl)
theorem v_bast {X : CX} {own : String} {cc : ByteArray} {nL fr lo : Nat} {st : St} {pc : Nat} {L : List (Nat × Value)} {S : List Value} {st1 : St} {q n : Nat} {f : Nat → Int32} {i x : Int32}  (C : Cx X own cc nL fr lo) (he : (wsL (xw X) st)[q]? = some (wA (xw X) q, .inl (wC (xw X) 0, n, .inl f))) (hset : (wsL (xw X) st).set q (wA (xw X) q, .inl (wC (xw X) 0, n, .inl (upd f i.toNatClampNeg (vp_nar .byte x)))) = wsL (xw X) st1) (hin : vp_in i n) (d : decode cc pc = .ok (.bastore, 1)) (k : V X st1 (pc + 1) L S) : V X st pc L (.int x :: .int i :: .ref (wA (xw X) q) :: S) := by
  obtain ⟨p, l, e, R, s, m, args, below, meth, c, Q, A, cn, sn, w⟩ := X
  obtain ⟨hx, hb, hml, hown, hts, hK, hD, hA, hfr, hlo, hcn, hsn⟩ := C
  intro H locs ls hP hS hl
  exact va_bast hx hb hK.1 hP (hD st) hS q 0 he rfl hin d (fun H1 locs1 hP1 _ hS1 => k H1 locs1 ls (by rw [← hset]; exact hP1) hS1 hl)
theorem v_zald {X : CX} {own : String} {cc : ByteArray} {nL fr lo : Nat} {st : St} {pc : Nat} {L : List (Nat × Value)} {S : List Value} {q n : Nat} {f : Nat → Int32} {i : Int32}  (C : Cx X own cc nL fr lo) (he : (wsL (xw X) st)[q]? = some (wA (xw X) q, .inl (wC (xw X) 3, n, .inl f))) (hin : vp_in i n) (d : decode cc pc = .ok (.baload, 1)) (k : V X st (pc + 1) L (.int (f i.toNatClampNeg) :: S)) : V X st pc L (.int i :: .ref (wA (xw X) q) :: S) := by
  obtain ⟨p, l, e, R, s, m, args, below, meth, c, Q, A, cn, sn, w⟩ := X
  obtain ⟨hx, hb, hml, hown, hts, hK, hD, hA, hfr, hlo, hcn, hsn⟩ := C
  intro H locs ls hP hS hl
  exact va_zald hx hb hK.1 hP q 3 he rfl hin d (k H locs ls hP hS hl)
theorem v_zast {X : CX} {own : String} {cc : ByteArray} {nL fr lo : Nat} {st : St} {pc : Nat} {L : List (Nat × Value)} {S : List Value} {st1 : St} {q n : Nat} {f : Nat → Int32} {i x : Int32}  (C : Cx X own cc nL fr lo) (he : (wsL (xw X) st)[q]? = some (wA (xw X) q, .inl (wC (xw X) 3, n, .inl f))) (hset : (wsL (xw X) st).set q (wA (xw X) q, .inl (wC (xw X) 3, n, .inl (upd f i.toNatClampNeg (vp_nar .boolean x)))) = wsL (xw X) st1) (hin : vp_in i n) (d : decode cc pc = .ok (.bastore, 1)) (k : V X st1 (pc + 1) L S) : V X st pc L (.int x :: .int i :: .ref (wA (xw X) q) :: S) := by
  obtain ⟨p, l, e, R, s, m, args, below, meth, c, Q, A, cn, sn, w⟩ := X
  obtain ⟨hx, hb, hml, hown, hts, hK, hD, hA, hfr, hlo, hcn, hsn⟩ := C
  intro H locs ls hP hS hl
  exact va_zast hx hb hK.1 hP (hD st) hS q 3 he rfl hin d (fun H1 locs1 hP1 _ hS1 => k H1 locs1 ls (by rw [← hset]; exact hP1) hS1 hl)
theorem v_lald {X : CX} {own : String} {cc : ByteArray} {nL fr lo : Nat} {st : St} {pc : Nat} {L : List (Nat × Value)} {S : List Value} {q n : Nat} {f : Nat → Int64} {i : Int32}  (C : Cx X own cc nL fr lo) (he : (wsL (xw X) st)[q]? = some (wA (xw X) q, .inl (wC (xw X) 2, n, .inr (.inl f)))) (hin : vp_in i n) (d : decode cc pc = .ok (.laload, 1)) (k : V X st (pc + 1) L (.long (f i.toNatClampNeg) :: S)) : V X st pc L (.int i :: .ref (wA (xw X) q) :: S) := by
  obtain ⟨p, l, e, R, s, m, args, below, meth, c, Q, A, cn, sn, w⟩ := X
  obtain ⟨hx, hb, hml, hown, hts, hK, hD, hA, hfr, hlo, hcn, hsn⟩ := C
  intro H locs ls hP hS hl
  exact va_lald hx hb hK.1 hP q 2 he rfl hin d (k H locs ls hP hS hl)
theorem v_last {X : CX} {own : String} {cc : ByteArray} {nL fr lo : Nat} {st : St} {pc : Nat} {L : List (Nat × Value)} {S : List Value} {st1 : St} {q n : Nat} {f : Nat → Int64} {i : Int32} {x : Int64}  (C : Cx X own cc nL fr lo) (he : (wsL (xw X) st)[q]? = some (wA (xw X) q, .inl (wC (xw X) 2, n, .inr (.inl f)))) (hset : (wsL (xw X) st).set q (wA (xw X) q, .inl (wC (xw X) 2, n, .inr (.inl (vp_updL f i.toNatClampNeg x)))) = wsL (xw X) st1) (hin : vp_in i n) (d : decode cc pc = .ok (.lastore, 1)) (k : V X st1 (pc + 1) L S) : V X st pc L (.long x :: .int i :: .ref (wA (xw X) q) :: S) := by
  obtain ⟨p, l, e, R, s, m, args, below, meth, c, Q, A, cn, sn, w⟩ := X
  obtain ⟨hx, hb, hml, hown, hts, hK, hD, hA, hfr, hlo, hcn, hsn⟩ := C
  intro H locs ls hP hS hl
  exact va_last hx hb hK.1 hP (hD st) hS q 2 he rfl hin d (fun H1 locs1 hP1 _ hS1 => k H1 locs1 ls (by rw [← hset]; exact hP1) hS1 hl)
theorem v_alen {X : CX} {own : String} {cc : ByteArray} {nL fr lo : Nat} {st : St} {pc : Nat} {L : List (Nat × Value)} {S : List Value} {q t : Nat} {ty : FieldType} {x : vp_A} {v : Int32}  (C : Cx X own cc nL fr lo) (he : (wsL (xw X) st)[q]? = some (wA (xw X) q, .inl (wC (xw X) t, x))) (ht : (tysL (xw X))[t]? = some (wC (xw X) t, ty)) (hv : Int32.ofNat x.1 = v) (d : decode cc pc = .ok (.arraylength, 1)) (k : V X st (pc + 1) L (.int v :: S)) : V X st pc L (.ref (wA (xw X) q) :: S) := by
  obtain ⟨p, l, e, R, s, m, args, below, meth, c, Q, A, cn, sn, w⟩ := X
  obtain ⟨hx, hb, hml, hown, hts, hK, hD, hA, hfr, hlo, hcn, hsn⟩ := C
  intro H locs ls hP hS hl
  exact va_alen hx hb hK.1 hP q t he ht hv d (k H locs ls hP hS hl)
theorem v_aald {X : CX} {own : String} {cc : ByteArray} {nL fr lo : Nat} {st : St} {pc : Nat} {L : List (Nat × Value)} {S : List Value} {q b0 n : Nat} {i : Int32} (C : Cx X own cc nL fr lo) (he : (wsL (xw X) st)[q]? = some (wA (xw X) q, .inl (wC (xw X) 4, n, .inr (.inr (.inr (.inr (fun i => if i < n then some (wA (xw X) (b0 + i)) else none))))))) (hin : vp_in i n) (d : decode cc pc = .ok (.aaload, 1)) (k : V X st (pc + 1) L (.ref (wA (xw X) (b0 + i.toNatClampNeg)) :: S)) : V X st pc L (.int i :: .ref (wA (xw X) q) :: S) := by
  obtain ⟨p, l, e, R, s, m, args, below, meth, c, Q, A, cn, sn, w⟩ := X
  obtain ⟨hx, hb, hml, hown, hts, hK, hD, hA, hfr, hlo, hcn, hsn⟩ := C
  intro H locs ls hP hS hl
  have hlt : i.toNatClampNeg < n := Nat.not_le.mp fun q => hin (Or.inr q)
  refine W.aald (v := .ref (wA w (b0 + i.toNatClampNeg))) (ty := .array .int) hx hb (hP q _ he) ((hK.1.2 4 _ rfl).1 n (fun j => va_rf (if j < n then some (wA w (b0 + j)) else none))) rfl (fun q => by cases q) (by show ¬ (i < 0 ∨ (arrV _ _ _).slots.size ≤ _); rw [arrV_size]; exact hin) (by
    show (arrV _ _ _).slots[_]? = _
    rw [arrV_read _ _ hlt]
    show some (va_rf (if i.toNatClampNeg < n then some (wA w (b0 + i.toNatClampNeg)) else none)) = _
    rw [if_pos hlt]
    rfl) rfl rfl d (k H locs ls hP hS hl)
/-! ===== calls ===== -/
theorem v_go {p : Program} {l : Launch} {e : Env} {R : Room} {s : State} {m : MethodId} {args : Array Value} {below : List Frame} {meth : Method} {c : Code} {H : Heap} {locs : List Loc} {cn sn : Nat} {Q : State → Prop} {pc : Nat} {ls : Array Slot} {rest st0 : List Value} {a : Array Value} {A0 A1 : Nat → Prop} {free : Addr → Prop} {w : Wp} {v : Option Value} {st1 : St}
    (hr : va_Run p l e R s m args below meth c H locs cn sn 0 0 (F0 m pc ls st0) rest (Qw w v st1 A1 a) free) (hS : va_S A0 s.heap H locs) (hA : ∀ q, q < H.size → A1 q → A0 q) (hf : ∀ q, free q → A0 q)
    (kk : ∀ (H1 : Heap) (locs1 : List Loc), va_P (wD w) vwCl (wsL w st1) H1 → va_S A0 s.heap H1 locs1 → W p l e R s m args below meth c H1 locs1 cn sn Q (F0 m (pc + 3) ls (v.toList ++ rest))) : W p l e R s m args below meth c H locs cn sn Q (F0 m pc ls st0) := by
  intro T hT X
  obtain ⟨v1, st₀, t, T', L, h0, X', hL, e1, e2, ⟨hv, hb, hz, hk⟩, st⟩ := hr T hT X
  cases hv
  rw [h0] at hz hk
  obtain ⟨t2, a1, b1⟩ := kk T'.heap (locs ++ L) (by rw [e1]; exact hb)
    ⟨Nat.le_trans hS.1 (by rw [e1]; exact hz), fun q h1 h2 => by rw [e1, hk q (Nat.lt_of_lt_of_le h1 hS.1) (fun z => h2 (hA q (Nat.lt_of_lt_of_le h1 hS.1) z))]; exact hS.2.1 q h1 h2, fun q hq => by
      rcases List.mem_append.mp hq with h | h
      · exact hS.2.2 q h
      · exact hf _ (hL q h)⟩ T' rfl X'
  exact ⟨t2, st t2 a1, b1⟩
/-- what the tables say of a method -/
def MwV (y : MethodName) (cc : ByteArray) (nL : Nat) (ret : Option FieldType) (n : Nat) : Prop := Cond.code y cc nL ret ∈ TW ∧ Cond.initialized y.cls ∈ TW ∧ Cond.instanceMethod y ∈ TW ∧ Cond.selects y.cls y y ∈ TW ∧ y.cls ≠ "java/lang/invoke/MethodHandle" ∧ y.cls ≠ "java/lang/invoke/VarHandle" ∧ (parseMethodDescriptor y.desc).map (fun d => d.parameters.length) = some n
def MwS (y : MethodName) (cc : ByteArray) (nL : Nat) (ret : Option FieldType) (n : Nat) : Prop := Cond.code y cc nL ret ∈ TW ∧ Cond.initialized y.cls ∈ TW ∧ Cond.static y ∈ TW ∧ y.cls ≠ "java/lang/invoke/MethodHandle" ∧ y.cls ≠ "java/lang/invoke/VarHandle" ∧ (parseMethodDescriptor y.desc).map (fun d => d.parameters.length) = some n
theorem Pc_ok {w : Wp} {A : Nat → Prop} {s : State} {H : Heap} {locs : List Loc} {st : St} {av : List Value} (hP : va_P (wD w) vwCl (wsL w st) H) (hK : Kw w A s) (hD : ∀ st, va_D A (wsL w st)) (hA : ∀ q, s.heap.size ≤ q → A q) (hS : va_S A s.heap H locs) (U : State) (hU : U.heap = H) (hW : s.WarmedH U.vm) : va_Pc av (fun U => U.heap.size = H.size ∧ va_P (wD w) vwCl (wsL w st) U.heap ∧ Kw w (va_A (wsL w st) H.size) U ∧ ∀ st, va_D (fun _ => True) (wsL w st)) av.toArray U :=
  ⟨rfl, by rw [hU], by rw [hU]; exact hP, hK.call hS (A_in hD hA hS) hU hW, fun st1 => (hD st1).weaken (fun _ _ _ _ => trivial)⟩
theorem Pc_blind {w : Wp} {sz : Nat} {st : St} {av : List Value} {A : Nat → Prop} : FrameBlind (va_Pc av (fun U => U.heap.size = sz ∧ va_P (wD w) vwCl (wsL w st) U.heap ∧ Kw w A U ∧ ∀ st, va_D (fun _ => True) (wsL w st))) := fun a U g mk q => by
  obtain ⟨q0, q1, qP, qK, qD⟩ := q
  exact ⟨q0, q1, qP, qK.blind, qD⟩
set_option maxHeartbeats 4000000 in
theorem v_callV {X : CX} {own : String} {cc : ByteArray} {nL fr lo : Nat} {st : St} {pc : Nat} {L : List (Nat × Value)} {stk : List Value} {st1 : St} {y : MethodName} {cy : ByteArray} {nLy fry loy idx n q ci : Nat} {ret : Option FieldType} {Af : Wp → List Value} {v : Option Value} (S : List Value) (C : Cx X own cc nL fr lo) (hm : Ct y cy nLy ret fry loy (fun w => .ref (wA w q) :: Af w) st v st1) (mw : MwV y cy nLy ret n) {fs : List Value} {T : u_T} {N : Nat} (he : (wsL (xw X) st)[q]? = some (wA (xw X) q, .inr (ci, fs))) (hc : vwCl[ci]? = some (y.cls, T, N)) (lk : Cond.methodLink own idx y ∈ TW) (hR : fry + 1 ≤ fr ∧ 8 + (nLy + 11) + loy ≤ lo) (hn : (Af (xw X)).length = n) (hS8 : (S.map fun v => v.category).sum ≤ 8) (hst : stk = (Af (xw X)).reverse ++ .ref (wA (xw X) q) :: S) (d : decode cc pc = .ok (.invokevirtual idx, 3)) (k : V X st1 (pc + 3) L (v.toList ++ S)) : V X st pc L stk := by
  obtain ⟨p, l, e, R, s, m, args, below, meth, c, Q, A, cn, sn, w⟩ := X
  obtain ⟨hx, hb, hml, hown, hts, hK, hD, hA, hfr, hlo, hcn, hsn⟩ := C
  intro H locs ls hP hS hl
  subst hst
  have hG : GoodIn TW (.code y cy nLy ret :: TW) := fun z hz => by
    rcases List.mem_cons.mp hz with e1 | e1
    · rw [e1]; exact ⟨mw.1, TW_good mw.1⟩
    · exact ⟨e1, TW_good e1⟩
  obtain ⟨m1, m2, m3, m4, m5, m6, m7⟩ := mw
  have cw : CallW R s args own y.cls idx y cy nLy ret (.code y cy nLy ret :: TW) { frames := fry, cells := 0, slots := 0, locals := loy } 0 0 n := ⟨callB_of n hts hG rfl rfl rfl (hts _ m2) (hts _ lk) ⟨m5, m6, m7⟩ (by rw [hfr, hlo]; exact hR), hts _ m3, hts _ m4⟩
  refine v_go (va_runV (As := Af w) (rest := S) (nL := nL) ⟨hx, hb, hml, hown, hts⟩ (hm l w H.size) cw ⟨Pc_blind, va_recv hK.1 hP hc he, fun U hU hW => Pc_ok hP hK hD hA hS U hU hW⟩ rfl hn (by rw [← hml]; exact hl.1) rfl (lv_room hS8) d ⟨hcn, hsn⟩) hS (fun q _ h => A_in hD hA hS q h) (A_in hD hA hS) (fun H1 locs1 hP1 hS1 => k H1 locs1 ls hP1 hS1 hl)
set_option maxHeartbeats 4000000 in
theorem v_callS {X : CX} {own : String} {cc : ByteArray} {nL fr lo : Nat} {st : St} {pc : Nat} {L : List (Nat × Value)} {stk : List Value} {st1 : St} {y : MethodName} {cy : ByteArray} {nLy fry loy idx n : Nat} {ret : Option FieldType} {Af : Wp → List Value} {v : Option Value} (S : List Value) (C : Cx X own cc nL fr lo) (hm : Ct y cy nLy ret fry loy (fun w => Af w) st v st1) (mw : MwS y cy nLy ret n) (lk : Cond.methodLink own idx y ∈ TW) (hR : fry + 1 ≤ fr ∧ 8 + (nLy + 11) + loy ≤ lo) (hn : (Af (xw X)).length = n) (hS8 : (S.map fun v => v.category).sum ≤ 8) (hst : stk = (Af (xw X)).reverse ++ S) (d : decode cc pc = .ok (.invokestatic idx, 3)) (k : V X st1 (pc + 3) L (v.toList ++ S)) : V X st pc L stk := by
  obtain ⟨p, l, e, R, s, m, args, below, meth, c, Q, A, cn, sn, w⟩ := X
  obtain ⟨hx, hb, hml, hown, hts, hK, hD, hA, hfr, hlo, hcn, hsn⟩ := C
  intro H locs ls hP hS hl
  subst hst
  have hG : GoodIn TW (.code y cy nLy ret :: TW) := fun z hz => by
    rcases List.mem_cons.mp hz with e1 | e1
    · rw [e1]; exact ⟨mw.1, TW_good mw.1⟩
    · exact ⟨e1, TW_good e1⟩
  obtain ⟨m1, m2, m3, m5, m6, m7⟩ := mw
  have cw : CallB R s args own idx y cy nLy ret (.code y cy nLy ret :: TW) { frames := fry, cells := 0, slots := 0, locals := loy } 0 0 n ∧ (Cond.static y).before args s = true := ⟨callB_of n hts hG rfl rfl rfl (hts _ m2) (hts _ lk) ⟨m5, m6, m7⟩ (by rw [hfr, hlo]; exact hR), hts _ m3⟩
  refine v_go (va_runS (As := Af w) (rest := S) (nL := nL) ⟨hx, hb, hml, hown, hts⟩ (hm l w H.size) cw ⟨Pc_blind, fun U hU hW => Pc_ok hP hK hD hA hS U hU hW⟩ rfl hn (by rw [← hml]; exact hl.1) rfl (lv_room hS8) d ⟨hcn, hsn⟩) hS (fun q _ h => A_in hD hA hS q h) (A_in hD hA hS) (fun H1 locs1 hP1 hS1 => k H1 locs1 ls hP1 hS1 hl)
set_option maxHeartbeats 4000000 in
theorem v_callN {X : CX} {own : String} {cc : ByteArray} {nL fr lo : Nat} {st : St} {pc : Nat} {L : List (Nat × Value)} {stk : List Value} {st1 : St} {y : MethodName} {cy : ByteArray} {nLy fry loy idx n : Nat} {ret : Option FieldType} {Af : Wp → List Value} {v : Option Value} (S : List Value) (C : Cx X own cc nL fr lo) (hm : Ct y cy nLy ret fry loy (fun w => Af w) st v st1) (mw : MwS y cy nLy ret n) (lk : (own, idx, y) ∈ nestT) (hR : fry + 1 ≤ fr ∧ 8 + (nLy + 11) + loy ≤ lo) (hn : (Af (xw X)).length = n) (hS8 : (S.map fun v => v.category).sum ≤ 8) (hst : stk = (Af (xw X)).reverse ++ S) (d : decode cc pc = .ok (.invokestatic idx, 3)) (k : V X st1 (pc + 3) L (v.toList ++ S)) : V X st pc L stk := by
  obtain ⟨p, l, e, R, s, m, args, below, meth, c, Q, A, cn, sn, w⟩ := X
  obtain ⟨hx, hb, hml, hown, hts, hK, hD, hA, hfr, hlo, hcn, hsn⟩ := C
  intro H locs ls hP hS hl
  subst hst
  have hG : GoodIn TW (.code y cy nLy ret :: TW) := fun z hz => by
    rcases List.mem_cons.mp hz with e1 | e1
    · rw [e1]; exact ⟨mw.1, TW_good mw.1⟩
    · exact ⟨e1, TW_good e1⟩
  obtain ⟨m1, m2, m3, m5, m6, m7⟩ := mw
  have cw := va_cnB (R := R) (mc := 0) (ms := 0) (rm := { frames := fry, cells := 0, slots := 0, locals := loy }) n hts hG rfl rfl rfl (hK.2.2.2.1 _ lk) (hts _ m2) ⟨m5, m6, m7⟩ (by rw [hfr, hlo]; exact hR)
  refine v_go (va_runSN (As := Af w) (rest := S) (nL := nL) ⟨hx, hb, hml, hown, hts⟩ (hm l w H.size) ⟨cw, hts _ m3, trivial⟩ ⟨Pc_blind, fun U hU hW => Pc_ok hP hK hD hA hS U hU hW⟩ rfl hn (by rw [← hml]; exact hl.1) rfl (lv_room hS8) d ⟨hcn, hsn⟩) hS (fun q _ h => A_in hD hA hS q h) (A_in hD hA hS) (fun H1 locs1 hP1 hS1 => k H1 locs1 ls hP1 hS1 hl)
