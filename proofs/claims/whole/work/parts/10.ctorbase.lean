/-- arrays over arrays: a word that the tables hold -/
def va_AOA (ty : FieldType) (U : State) : Prop := (Cond.arrayOver (.array ty)).before #[] U = true
theorem va_AOA.use {ty : FieldType} {A : Array Value} {U : State} (h : va_AOA ty U) : (Cond.arrayOver (.array ty)).before A U = true := h
/-! ===== BEGIN new T[n][m]: the outer array a place, the inner ones among the pooled ===== -/
/-- f, but v at every address of l -/
def vr_up {α : Type} (f : Nat → α) (l : List Nat) (v : α) : Nat → α := fun a => if a ∈ l then v else f a
theorem vr_up_in {α : Type} {f : Nat → α} {l : List Nat} {v : α} {a : Nat} (h : a ∈ l) : vr_up f l v a = v := if_pos h
theorem vr_up_ne {α : Type} {f : Nat → α} {l : List Nat} {v : α} {a : Nat} (h : a ∉ l) : vr_up f l v a = f a := if_neg h
theorem vr_rows {L l : List Nat} {f : Nat → va_E} {e : va_E} (h : ∀ a, a ∈ l → a ∉ L) : va_pl L f ++ l.map (fun a => (a, e)) = va_pl (L ++ l) (vr_up f l e) := by
  unfold va_pl
  rw [List.map_append]
  congr 1
  · apply List.map_congr_left
    intro a ha
    rw [vr_up_ne (fun q => h a q ha)]
  · apply List.map_congr_left
    intro a ha
    rw [vr_up_in ha]
theorem vr_lay {X rows : va_W} {x : Nat × va_E} {pl : va_W} {D : va_G} {cl : List vw_C} {H : Heap} (hP : va_P D cl (((X ++ pl) ++ [x]) ++ rows) H) : va_P D cl ((X ++ [x]) ++ (pl ++ rows)) H := by
  rw [List.append_assoc (X ++ pl)] at hP
  have h := va_P.swap hP
  rw [← List.append_assoc X] at h
  have h2 := va_P.swap h
  rw [List.append_assoc (X ++ [x])] at h2
  exact h2
theorem vr_layD {X rows : va_W} {x : Nat × va_E} {pl : va_W} {A : Nat → Prop} (hD : va_D A (((X ++ pl) ++ [x]) ++ rows)) : va_D A ((X ++ [x]) ++ (pl ++ rows)) := by
  rw [List.append_assoc (X ++ pl)] at hD
  have h := va_D.swap hD
  rw [← List.append_assoc X] at h
  have h2 := va_D.swap h
  rw [List.append_assoc (X ++ [x])] at h2
  exact h2
theorem vr_outer (c : ClassId) (N h0 : Nat) : ∀ i : Nat, Jvm.Free.Multi.outerC c N h0 i = arrV c N (fun j => va_rf (if j < i then some (h0 + 1 + j) else none))
  | 0 => by
    show ({ cls := c, slots := Array.replicate N .null, vm := .none } : Cell) = _
    rw [arrV_new]
    refine congrArg (arrV c N) (funext fun j => ?_)
    simp [va_rf]
  | i + 1 => by
    show (Jvm.Free.Multi.outerC c N h0 i).setSlot i (.ref (h0 + 1 + i)) = _
    rw [vr_outer c N h0 i, arrV_store]
    refine congrArg (arrV c N) (funext fun j => ?_)
    by_cases e : j = i
    · subst e
      simp [updV, va_rf]
    · by_cases h : j < i
      · simp [updV, e, h, Nat.lt_succ_of_lt h]
      · simp [updV, e, h, show ¬ j < i + 1 by omega]
section VGM
variable {p : Program} {l : Launch} {e : Env} {R : Room} {s : State} {m : MethodId} {args : Array Value} {below : List Frame} {meth : Method} {c : Code} {H : Heap} {locs : List Loc} {cells slots : Nat} {Q : State → Prop}
variable {cc : ByteArray} {pc : Nat} {ls : Array Slot} {rest : List Value} {D : va_G} {cl : List vw_C} {A : Nat → Prop} {a : Nat} {tys : List (ClassId × FieldType)} {ws : va_W} {H0 : Heap}
theorem va_mna {X : va_W} {L : List Nat} {f : Nat → va_E} {cc : ByteArray} (hexec : p.tables.exec = Jvm.exec) (hb : c.code = cc) {own : String} {index : Nat} {ty : FieldType} {cy : ClassId} (hown : s.vm.findClass own = some m.cls) (hclink : (Cond.classLink own index ("[" ++ (FieldType.array ty).toString)).before args s = true) (hover : va_AOA ty s) (harr : (Cond.arrayClass ty).before args s = true) (hcy : s.vm.findClass (FieldType.array ty).toString = some cy)
    (hK : va_K D cl tys s) (hP : va_P D cl (X ++ va_pl L f) H) (hD : va_D A (X ++ va_pl L f)) (hS : va_S A H0 H locs) (hA : ∀ q, H0.size ≤ q → A q) {n k : Int32} {N' K' : Nat} {z : vp_A} (hn : ¬ n < 0) (hk : ¬ k < 0) (hN : n.toNatClampNeg = N') (hM : k.toNatClampNeg = K')
    (hb1 : N' * 4 ≤ 536870912) (hb2 : K' * componentBytes ty ≤ 536870912) (hb3 : K' ≤ 536870912) (hdf : fits ty (defaultValue ty) = true) (hdd : (defaultValue ty).isDefault = true) (hcells : cells + (1 + N') ≤ R.cells) (hslots : slots + (N' + N' * K') ≤ R.slots) (hz : ∀ c : ClassId, Jvm.Free.Multi.innerC c K' (defaultValue ty) = vp_cell c z) (hdg : decode cc pc = .ok (.multianewarray index 2, 4))
    (kk : ∀ (q : Nat) (r : Nat → Nat) (cA : ClassId) (H1 : Heap), (∀ i j : Nat, i < N' → j < N' → r i = r j → i = j) → (∀ i : Nat, i < N' → r i ∉ L) → va_K D cl (tys ++ [(cA, .array ty)]) s →
      va_P D cl ((X ++ [(q, .inl (cA, N', .inr (.inr (.inr (.inr (fun i => if i < N' then some (r i) else none))))))]) ++ va_pl (L ++ (List.range N').map r) (vr_up f ((List.range N').map r) (.inl (cy, z)))) H1 → va_D A ((X ++ [(q, .inl (cA, N', .inr (.inr (.inr (.inr (fun i => if i < N' then some (r i) else none))))))]) ++ va_pl (L ++ (List.range N').map r) (vr_up f ((List.range N').map r) (.inl (cy, z)))) → va_S A H0 H1 locs →
      W p l e R s m args below meth c H1 locs (cells + 1 + N') (slots + N' + N' * K') Q (F0 m (pc + 4) ls (.ref q :: rest))) : W p l e R s m args below meth c H locs cells slots Q (F0 m pc ls (.int k :: .int n :: rest)) := by
  subst hN
  subst hM
  intro T hT Xs
  obtain ⟨vm₁, cA, comp, -, fA, fC, hO, -, X', step⟩ := Xs.multianewarray2F hexec hown hclink (va_AOA.use hover) harr (g := F0 m pc ls (.int k :: .int n :: rest)) rfl (by rw [hb]; exact hdg) rfl hn hk hb1 hb2 hb3 hdf hdd hcells hslots
  have ec : some cy = some comp := hcy.symm.trans fC
  cases ec
  generalize hF : Jvm.Free.Multi.fill (T.setVm vm₁) cA cy n.toNatClampNeg k.toNatClampNeg (defaultValue ty) n.toNatClampNeg = F at X' step
  have hTh : (T.setVm vm₁).heap = H := hT
  obtain ⟨f1, f2, -, -⟩ := Jvm.Free.Multi.fill_facts (T.setVm vm₁) cA cy n.toNatClampNeg k.toNatClampNeg (defaultValue ty) n.toNatClampNeg
  rw [hF, hTh] at f1 f2
  have hold : ∀ x : Nat, x < H.size → F.heap[x]? = H[x]? := fun x hx => by
    have := Jvm.Free.Multi.fill_old (T.setVm vm₁) cA cy n.toNatClampNeg k.toNatClampNeg (defaultValue ty) (a := x) (by rw [hTh]; exact hx) n.toNatClampNeg
    rw [hF, hTh] at this
    exact this
  have hrow : ∀ j : Nat, j < n.toNatClampNeg → F.heap[H.size + 1 + j]? = some (vp_cell cy z) := fun j hj => by
    have := Jvm.Free.Multi.fill_inner (T.setVm vm₁) cA cy n.toNatClampNeg k.toNatClampNeg (defaultValue ty) n.toNatClampNeg j hj
    rw [hF, hTh, hz] at this
    exact this
  have hout : Jvm.Free.Multi.outerC cA n.toNatClampNeg H.size n.toNatClampNeg = vp_cell cA (n.toNatClampNeg, .inr (.inr (.inr (.inr (fun i => if i < n.toNatClampNeg then some (H.size + 1 + i) else none))))) := by
    rw [vp_cell_q]
    exact vr_outer cA n.toNatClampNeg H.size n.toNatClampNeg
  rw [hout] at f2
  have hlt : ∀ a, a ∈ L → a < H.size := fun a ha => by
    obtain ⟨k9, hk9⟩ := va_pl_get (X := X) (f := f) ha
    exact (hP k9 _ hk9).lt
  have hnl : ∀ i : Nat, i < n.toNatClampNeg → H.size + 1 + i ∉ L := fun i _ h => by
    have := hlt _ h
    omega
  have hnm : ∀ a, a ∈ (List.range n.toNatClampNeg).map (fun i => H.size + 1 + i) → a ∉ L := fun a ha h => by
    obtain ⟨i, -, rfl⟩ := List.mem_map.mp ha
    have := hlt _ h
    omega
  have hP0 : va_P D cl (X ++ va_pl L f) F.heap := hP.kept (fun k9 x hx => hold x.1 ((hP k9 x hx).lt))
  have hP1 : va_P D cl ((X ++ va_pl L f) ++ [(H.size, .inl (cA, n.toNatClampNeg, .inr (.inr (.inr (.inr (fun i => if i < n.toNatClampNeg then some (H.size + 1 + i) else none))))))]) F.heap := hP0.app (fun k9 x hx => by
    have h0 : k9 < 1 := (List.getElem?_eq_some_iff.mp hx).1
    rw [show k9 = 0 by omega] at hx
    cases hx
    exact f2)
  have hP2 : va_P D cl (((X ++ va_pl L f) ++ [(H.size, .inl (cA, n.toNatClampNeg, .inr (.inr (.inr (.inr (fun i => if i < n.toNatClampNeg then some (H.size + 1 + i) else none))))))]) ++ ((List.range n.toNatClampNeg).map (fun i => H.size + 1 + i)).map (fun a => (a, .inl (cy, z)))) F.heap := hP1.app (fun k9 x hx => by
    obtain ⟨a, ha, rfl⟩ := List.mem_map.mp (List.mem_of_getElem? hx)
    obtain ⟨i, hi, rfl⟩ := List.mem_map.mp ha
    exact hrow i (List.mem_range.mp hi))
  have hD2 : va_D A (((X ++ va_pl L f) ++ [(H.size, .inl (cA, n.toNatClampNeg, .inr (.inr (.inr (.inr (fun i => if i < n.toNatClampNeg then some (H.size + 1 + i) else none))))))]) ++ ((List.range n.toNatClampNeg).map (fun i => H.size + 1 + i)).map (fun a => (a, .inl (cy, z)))) := by
    have hD1 := hD.push (e := .inl (cA, n.toNatClampNeg, .inr (.inr (.inr (.inr (fun i => if i < n.toNatClampNeg then some (H.size + 1 + i) else none)))))) hP rfl (hA _ hS.1)
    generalize hW1 : (X ++ va_pl L f) ++ [(H.size, .inl (cA, n.toNatClampNeg, .inr (.inr (.inr (.inr (fun i => if i < n.toNatClampNeg then some (H.size + 1 + i) else none))))))] = W1 at hD1 hP1 ⊢
    have hle : ∀ (k9 : Nat) (x : Nat × va_E), W1[k9]? = some x → x.1 ≤ H.size := fun k9 x hx => by
      rw [← hW1] at hx
      by_cases hl : k9 < (X ++ va_pl L f).length
      · rw [List.getElem?_append_left hl] at hx
        exact Nat.le_of_lt ((hP k9 x hx).lt)
      · rw [List.getElem?_append_right (by omega)] at hx
        have h0 : k9 - (X ++ va_pl L f).length < 1 := (List.getElem?_eq_some_iff.mp hx).1
        rw [show k9 - (X ++ va_pl L f).length = 0 by omega] at hx
        cases hx
        exact Nat.le_refl _
    have hr : ∀ (k9 : Nat) (x : Nat × va_E), (((List.range n.toNatClampNeg).map (fun i => H.size + 1 + i)).map (fun a => ((a, .inl (cy, z)) : Nat × va_E)))[k9]? = some x → x.1 = H.size + 1 + k9 := fun k9 x hx => by
      rw [List.getElem?_map, List.getElem?_map] at hx
      by_cases h9 : k9 < n.toNatClampNeg
      · rw [List.getElem?_range h9] at hx
        cases hx
        rfl
      · have hn0 : (List.range n.toNatClampNeg)[k9]? = none := List.getElem?_eq_none (by rw [List.length_range]; omega)
        rw [hn0] at hx
        cases hx
    refine ⟨fun i j x y hi hj hxy => ?_, fun k9 x hx => ?_⟩
    · by_cases h1 : i < W1.length <;> by_cases h2 : j < W1.length
      · rw [List.getElem?_append_left h1] at hi
        rw [List.getElem?_append_left h2] at hj
        exact hD1.1 i j x y hi hj hxy
      · rw [List.getElem?_append_left h1] at hi
        rw [List.getElem?_append_right (by omega)] at hj
        have := hle _ _ hi
        have := hr _ _ hj
        omega
      · rw [List.getElem?_append_right (by omega)] at hi
        rw [List.getElem?_append_left h2] at hj
        have := hle _ _ hj
        have := hr _ _ hi
        omega
      · rw [List.getElem?_append_right (by omega)] at hi hj
        have := hr _ _ hi
        have := hr _ _ hj
        omega
    · by_cases h1 : k9 < W1.length
      · rw [List.getElem?_append_left h1] at hx
        exact hD1.2 k9 x hx
      · rw [List.getElem?_append_right (by omega)] at hx
        have := hr _ _ hx
        exact hA _ (by have := hS.1; omega)
  have hAr : ArrOfT s cA (.array ty) := fun N9 z9 => by
    obtain ⟨-, k9, hk9, cm9, hkk9⟩ := (hO 0 0 0).1
    exact ⟨(fun q hq => by cases hq), k9, hk9, cm9, hkk9⟩
  have hK2 : va_K D cl (tys ++ [(cA, .array ty)]) s := ⟨hK.1, fun k9 x hx => by
    by_cases hl : k9 < tys.length
    · rw [List.getElem?_append_left hl] at hx
      exact hK.2 k9 x hx
    · rw [List.getElem?_append_right (by omega)] at hx
      have h0 : k9 - tys.length < 1 := (List.getElem?_eq_some_iff.mp hx).1
      rw [show k9 - tys.length = 0 by omega] at hx
      cases hx
      exact ⟨hAr, fA⟩⟩
  obtain ⟨t, a1, b1⟩ := kk H.size (fun i => H.size + 1 + i) cA F.heap (fun i j _ _ h => by have h9 : H.size + 1 + i = H.size + 1 + j := h; omega) hnl hK2 (by rw [← vr_rows hnm]; exact vr_lay hP2) (by rw [← vr_rows hnm]; exact vr_layD hD2) ⟨by rw [f1]; have := hS.1; omega, fun x h1 h2 => (hold x (Nat.lt_of_lt_of_le h1 hS.1)).trans (hS.2.1 x h1 h2), hS.2.2⟩ F rfl X'
  refine ⟨t, step t ?_, b1⟩
  have e : T.heap.size = H.size := by rw [hT]
  rw [e]
  exact a1
end VGM
/-! ===== END ===== -/
/-! ===== constructors: a judgement over an explicit world ===== -/
def tysC (cy : Nat → ClassId) : List (ClassId × FieldType) := [(cy 0, .byte), (cy 1, .int), (cy 2, .long), (cy 3, .boolean), (cy 4, .array .int)]
def nestI : List (String × Nat × MethodName) := [("LitWindows", 9, yX8_init), ("LitWindows", 27, yX3_init), ("LitWindows", 55, yX5_init)]
def KA (D : va_G) (cy : Nat → ClassId) (U : State) : Prop := va_K D vwCl (tysC cy) U ∧ va_AOA .int U ∧ ∀ x ∈ nestI, va_Nw (.methodLinkNest x.1 x.2.1 x.2.2 "LitWindows") U
theorem KA.blind {D : va_G} {cy : Nat → ClassId} {U : State} {g : JFrame} {mk : MethodId} {a : Array Value} (h : KA D cy U) : KA D cy (U.calling g mk a) :=
  ⟨va_K.moved (u := U) (U := U.calling g mk a) (Vm.Alike.refl U.vm) h.1, h.2.1, fun x hx => va_Nw.same (u := U) (U := U.calling g mk a) rfl rfl (h.2.2 x hx)⟩
theorem KA.warm {D : va_G} {cy : Nat → ClassId} {s U : State} (hW : s.WarmedH U.vm) (h : KA D cy s) : KA D cy U :=
  ⟨va_K.moved hW.alike h.1, (show va_AOA .int U from (show (Cond.arrayOver (.array .int)).before #[] (s.setVm U.vm) = true by rw [Cond.arrayOver_setVmC hW.alike]; exact h.2.1)), fun x hx => va_Nw.warmM hW (h.2.2 x hx)⟩
abbrev UX : Type := Program × Launch × Env × Room × State × MethodId × Array Value × List Frame × Method × Code × (State → Prop) × (Nat → Prop) × va_G × (Nat → ClassId)
abbrev uC (X : UX) : Nat → ClassId := X.2.2.2.2.2.2.2.2.2.2.2.2.2
def Ux (X : UX) (own : String) (cc : ByteArray) (nL fr rc rs lo : Nat) : Prop := match X with
  | (p, l, e, R, s, m, args, below, meth, c, Q, A, D, cy) => p.tables.exec = Jvm.exec ∧ c.code = cc ∧ c.maxLocals = nL ∧ s.vm.findClass own = some m.cls ∧ (∀ q ∈ TW, q.before args s = true) ∧ KA D cy s ∧ (∀ q, s.heap.size ≤ q → A q) ∧ R.frames = fr ∧ R.cells = rc ∧ R.slots = rs ∧ R.locals = lo
def Um (X : UX) : Prop := match X with
  | (p, l, e, R, s, m, args, below, meth, c, Q, A, D, cy) => meth.name = "<init>"
def U (X : UX) (cn sn : Nat) (ws : va_W) (pc : Nat) (L : List (Nat × Value)) (S : List Value) : Prop := match X with
  | (p, l, e, R, s, m, args, below, meth, c, Q, A, D, cy) => ∀ (H : Heap) (locs : List Loc) (ls : Array Slot), va_P D vwCl ws H → va_D A ws → va_S A s.heap H locs → lv_has ls c.maxLocals L → W p l e R s m args below meth c H locs cn sn Q (F0 m pc ls S)
theorem u_iconst {X : UX} {own : String} {cc : ByteArray} {nL fr rc rs lo cn sn : Nat} {ws : va_W} {pc : Nat} {L : List (Nat × Value)} {S : List Value} {n : Int} {v : Int32} (C : Ux X own cc nL fr rc rs lo) (d : decode cc pc = .ok (.iconst n, 1)) (hv : Int32.ofInt n = v) (k : U X cn sn ws (pc + 1) L (.int v :: S)) : U X cn sn ws pc L S := by
  obtain ⟨p, l, e, R, s, m, args, below, meth, c, Q, A, D, cy⟩ := X
  obtain ⟨hx, hb, hml, hown, hts, hK, hA, hfr, hrc, hrs, hlo⟩ := C
  intro H locs ls hP hD hS hl
  exact lv_iconst hx hb d hv (k H locs ls hP hD hS hl)
theorem u_bipush {X : UX} {own : String} {cc : ByteArray} {nL fr rc rs lo cn sn : Nat} {ws : va_W} {pc : Nat} {L : List (Nat × Value)} {S : List Value} {n : Int} {v : Int32} (C : Ux X own cc nL fr rc rs lo) (d : decode cc pc = .ok (.bipush n, 2)) (hv : (Int8.ofInt n).toInt32 = v) (k : U X cn sn ws (pc + 2) L (.int v :: S)) : U X cn sn ws pc L S := by
  obtain ⟨p, l, e, R, s, m, args, below, meth, c, Q, A, D, cy⟩ := X
  obtain ⟨hx, hb, hml, hown, hts, hK, hA, hfr, hrc, hrs, hlo⟩ := C
  intro H locs ls hP hD hS hl
  exact lv_bipush hx hb d hv (k H locs ls hP hD hS hl)
theorem u_sipush {X : UX} {own : String} {cc : ByteArray} {nL fr rc rs lo cn sn : Nat} {ws : va_W} {pc : Nat} {L : List (Nat × Value)} {S : List Value} {n : Int} {v : Int32} (C : Ux X own cc nL fr rc rs lo) (d : decode cc pc = .ok (.sipush n, 3)) (hv : (Int16.ofInt n).toInt32 = v) (k : U X cn sn ws (pc + 3) L (.int v :: S)) : U X cn sn ws pc L S := by
  obtain ⟨p, l, e, R, s, m, args, below, meth, c, Q, A, D, cy⟩ := X
  obtain ⟨hx, hb, hml, hown, hts, hK, hA, hfr, hrc, hrs, hlo⟩ := C
  intro H locs ls hP hD hS hl
  exact lv_sipush hx hb d hv (k H locs ls hP hD hS hl)
theorem u_aload_n {X : UX} {own : String} {cc : ByteArray} {nL fr rc rs lo cn sn : Nat} {ws : va_W} {pc : Nat} {L : List (Nat × Value)} {S : List Value} {n : Fin 4} {x : Nat} (q : Nat) (C : Ux X own cc nL fr rc rs lo) (d : decode cc pc = .ok (.aload_n n, 1)) (h : L[q]? = some ((n : Nat), .ref x)) (k : U X cn sn ws (pc + 1) L (.ref x :: S)) : U X cn sn ws pc L S := by
  obtain ⟨p, l, e, R, s, m, args, below, meth, c, Q, A, D, cy⟩ := X
  obtain ⟨hx, hb, hml, hown, hts, hK, hA, hfr, hrc, hrs, hlo⟩ := C
  intro H locs ls hP hD hS hl
  exact lv_aload_n hx hb d rfl (lv_at hl q h) (k H locs ls hP hD hS hl)
theorem u_dup {X : UX} {own : String} {cc : ByteArray} {nL fr rc rs lo cn sn : Nat} {ws : va_W} {pc : Nat} {L : List (Nat × Value)} {S : List Value} {a : Nat} (C : Ux X own cc nL fr rc rs lo) (d : decode cc pc = .ok (.dup, 1))  (k : U X cn sn ws (pc + 1) L (.ref a :: .ref a :: S)) : U X cn sn ws pc L (.ref a :: S) := by
  obtain ⟨p, l, e, R, s, m, args, below, meth, c, Q, A, D, cy⟩ := X
  obtain ⟨hx, hb, hml, hown, hts, hK, hA, hfr, hrc, hrs, hlo⟩ := C
  intro H locs ls hP hD hS hl
  exact lv_dup hx hb d rfl (k H locs ls hP hD hS hl)
theorem u_eq {X : UX} {cn sn : Nat} {ws ws1 : va_W} {pc : Nat} {L : List (Nat × Value)} {S : List Value} (h : ws = ws1) (k : U X cn sn ws1 pc L S) : U X cn sn ws pc L S := by rw [h]; exact k
theorem u_perm {X : UX} {cn sn : Nat} {ws ws1 : va_W} {pc : Nat} {L : List (Nat × Value)} {S : List Value} (ks : List Nat) (hn : va_nd ks = true) (h : ks.map (fun i => ws[i]?) = ws1.map some) (h2 : ks.filterMap (fun i => ws[i]?) = ws1) (k : U X cn sn ws1 pc L S) : U X cn sn ws pc L S := by
  obtain ⟨p, l, e, R, s, m, args, below, meth, c, Q, A, D, cy⟩ := X
  intro H locs ls hP hD hS hl
  exact k H locs ls (hP.sub ks h2) (hD.sub ks hn h) hS hl
theorem u_cnt {X : UX} {cn sn cn1 sn1 : Nat} {ws : va_W} {pc : Nat} {L : List (Nat × Value)} {S : List Value} (h1 : cn = cn1) (h2 : sn = sn1) (k : U X cn1 sn1 ws pc L S) : U X cn sn ws pc L S := by rw [h1, h2]; exact k
theorem u_obj {X : UX} {own : String} {cc : ByteArray} {nL fr rc rs lo cn sn : Nat} {ws : va_W} {pc : Nat} {L : List (Nat × Value)} {S : List Value} {idx a : Nat} (C : Ux X own cc nL fr rc rs lo) (lk : Cond.methodLink own idx objectInit ∈ TW) (hn : 1 ≤ fr ∧ 20 ≤ lo) (hS8 : (S.map fun v => v.category).sum ≤ 8) (d : decode cc pc = .ok (.invokespecial idx, 3)) (k : U X cn sn ws (pc + 3) L S) : U X cn sn ws pc L (.ref a :: S) := by
  obtain ⟨p, l, e, R, s, m, args, below, meth, c, Q, A, D, cy⟩ := X
  obtain ⟨hx, hb, hml, hown, hts, hK, hA, hfr, hrc, hrs, hlo⟩ := C
  intro H locs ls hP hD hS hl
  refine W.objInit hx hb hown (hts _ lk) (hts _ (TW_of 94 (by decide +kernel) (by decide +kernel))) (hts _ (TW_of 95 (by decide +kernel) (by decide +kernel))) rfl hl.1 rfl d (by rw [hfr]; exact hn.1) (by rw [hlo]; have := hn.2; have := lv_room (m := m) (pc := pc) (ls := ls) (rest := .ref a :: S) hS8; omega) (k H locs ls hP hD hS hl)
set_option maxHeartbeats 4000000 in
theorem u_newI {X : UX} {own : String} {cc : ByteArray} {nL fr rc rs lo cn sn : Nat} {ws : va_W} {pc : Nat} {L : List (Nat × Value)} {S : List Value} {n : Int32} (N : Nat) (C : Ux X own cc nL fr rc rs lo) (hn : ¬ n < 0) (hN : n.toNatClampNeg = N) (hby : N ≤ 10000) (hc : cn + 1 ≤ rc ∧ sn + N ≤ rs) (d : decode cc pc = .ok (.newarray .int, 2)) (k : ∀ q : Nat, U X (cn + 1) (sn + N) (ws ++ [(q, .inl (uC X 1, N, .inl (fun _ => 0)))]) (pc + 2) L (.ref q :: S)) : U X cn sn ws pc L (.int n :: S) := by
  obtain ⟨p, l, e, R, s, m, args, below, meth, c, Q, A, D, cy⟩ := X
  obtain ⟨hx, hb, hml, hown, hts, hK, hA, hfr, hrc, hrs, hlo⟩ := C
  intro H locs ls hP hD hS hl
  have ha : ∀ cA : ClassId, vp_cell cA (N, .inl (fun _ => 0)) = arrV cA N (fun _ => defaultValue .int) := fun cA => vp_cell_i cA N (fun _ => 0)
  have harr : (Cond.arrayClass (newarray.typeOf (.int : ArrayType))).before args s = true := hts (Cond.arrayClass .int) (TW_of 145 (by decide +kernel) (by decide +kernel))
  have hcb : componentBytes .int = 4 := rfl
  have hby1 : N * componentBytes .int ≤ 536870912 := by rw [hcb]; omega
  refine va_newa (atype := .int) (ty := .int) (a0 := (N, .inl (fun _ => 0))) hx hb harr rfl hK.1 hP hD hS hA ha hn hN hby1 (by rw [hrc]; exact hc.1) (by rw [hrs]; exact hc.2) d (fun q cA H1 hK1 hP1 hD1 hS1 => ?_)
  have e1 : cA = cy 1 := Option.some.inj ((hK1.2 5 _ rfl).2.symm.trans (hK.1.2 1 _ rfl).2)
  subst e1
  exact k q H1 locs ls hP1 hD1 hS1 hl
set_option maxHeartbeats 4000000 in
theorem u_newB {X : UX} {own : String} {cc : ByteArray} {nL fr rc rs lo cn sn : Nat} {ws : va_W} {pc : Nat} {L : List (Nat × Value)} {S : List Value} {n : Int32} (N : Nat) (C : Ux X own cc nL fr rc rs lo) (hn : ¬ n < 0) (hN : n.toNatClampNeg = N) (hby : N ≤ 10000) (hc : cn + 1 ≤ rc ∧ sn + N ≤ rs) (d : decode cc pc = .ok (.newarray .byte, 2)) (k : ∀ q : Nat, U X (cn + 1) (sn + N) (ws ++ [(q, .inl (uC X 0, N, .inl (fun _ => 0)))]) (pc + 2) L (.ref q :: S)) : U X cn sn ws pc L (.int n :: S) := by
  obtain ⟨p, l, e, R, s, m, args, below, meth, c, Q, A, D, cy⟩ := X
  obtain ⟨hx, hb, hml, hown, hts, hK, hA, hfr, hrc, hrs, hlo⟩ := C
  intro H locs ls hP hD hS hl
  have ha : ∀ cA : ClassId, vp_cell cA (N, .inl (fun _ => 0)) = arrV cA N (fun _ => defaultValue .byte) := fun cA => vp_cell_i cA N (fun _ => 0)
  have harr : (Cond.arrayClass (newarray.typeOf (.byte : ArrayType))).before args s = true := hts (Cond.arrayClass .byte) (TW_of 112 (by decide +kernel) (by decide +kernel))
  have hcb : componentBytes .byte = 1 := rfl
  have hby1 : N * componentBytes .byte ≤ 536870912 := by rw [hcb]; omega
  refine va_newa (atype := .byte) (ty := .byte) (a0 := (N, .inl (fun _ => 0))) hx hb harr rfl hK.1 hP hD hS hA ha hn hN hby1 (by rw [hrc]; exact hc.1) (by rw [hrs]; exact hc.2) d (fun q cA H1 hK1 hP1 hD1 hS1 => ?_)
  have e1 : cA = cy 0 := Option.some.inj ((hK1.2 5 _ rfl).2.symm.trans (hK.1.2 0 _ rfl).2)
  subst e1
  exact k q H1 locs ls hP1 hD1 hS1 hl
set_option maxHeartbeats 4000000 in
theorem u_newZ {X : UX} {own : String} {cc : ByteArray} {nL fr rc rs lo cn sn : Nat} {ws : va_W} {pc : Nat} {L : List (Nat × Value)} {S : List Value} {n : Int32} (N : Nat) (C : Ux X own cc nL fr rc rs lo) (hn : ¬ n < 0) (hN : n.toNatClampNeg = N) (hby : N ≤ 10000) (hc : cn + 1 ≤ rc ∧ sn + N ≤ rs) (d : decode cc pc = .ok (.newarray .boolean, 2)) (k : ∀ q : Nat, U X (cn + 1) (sn + N) (ws ++ [(q, .inl (uC X 3, N, .inl (fun _ => 0)))]) (pc + 2) L (.ref q :: S)) : U X cn sn ws pc L (.int n :: S) := by
  obtain ⟨p, l, e, R, s, m, args, below, meth, c, Q, A, D, cy⟩ := X
  obtain ⟨hx, hb, hml, hown, hts, hK, hA, hfr, hrc, hrs, hlo⟩ := C
  intro H locs ls hP hD hS hl
  have ha : ∀ cA : ClassId, vp_cell cA (N, .inl (fun _ => 0)) = arrV cA N (fun _ => defaultValue .boolean) := fun cA => vp_cell_i cA N (fun _ => 0)
  have harr : (Cond.arrayClass (newarray.typeOf (.boolean : ArrayType))).before args s = true := hts (Cond.arrayClass .boolean) (TW_of 240 (by decide +kernel) (by decide +kernel))
  have hcb : componentBytes .boolean = 1 := rfl
  have hby1 : N * componentBytes .boolean ≤ 536870912 := by rw [hcb]; omega
  refine va_newa (atype := .boolean) (ty := .boolean) (a0 := (N, .inl (fun _ => 0))) hx hb harr rfl hK.1 hP hD hS hA ha hn hN hby1 (by rw [hrc]; exact hc.1) (by rw [hrs]; exact hc.2) d (fun q cA H1 hK1 hP1 hD1 hS1 => ?_)
  have e1 : cA = cy 3 := Option.some.inj ((hK1.2 5 _ rfl).2.symm.trans (hK.1.2 3 _ rfl).2)
  subst e1
  exact k q H1 locs ls hP1 hD1 hS1 hl
set_option maxHeartbeats 4000000 in
theorem u_newL {X : UX} {own : String} {cc : ByteArray} {nL fr rc rs lo cn sn : Nat} {ws : va_W} {pc : Nat} {L : List (Nat × Value)} {S : List Value} {n : Int32} (N : Nat) (C : Ux X own cc nL fr rc rs lo) (hn : ¬ n < 0) (hN : n.toNatClampNeg = N) (hby : N ≤ 10000) (hc : cn + 1 ≤ rc ∧ sn + N ≤ rs) (d : decode cc pc = .ok (.newarray .long, 2)) (k : ∀ q : Nat, U X (cn + 1) (sn + N) (ws ++ [(q, .inl (uC X 2, N, .inr (.inl (fun _ => 0))))]) (pc + 2) L (.ref q :: S)) : U X cn sn ws pc L (.int n :: S) := by
  obtain ⟨p, l, e, R, s, m, args, below, meth, c, Q, A, D, cy⟩ := X
  obtain ⟨hx, hb, hml, hown, hts, hK, hA, hfr, hrc, hrs, hlo⟩ := C
  intro H locs ls hP hD hS hl
  have ha : ∀ cA : ClassId, vp_cell cA (N, .inr (.inl (fun _ => 0))) = arrV cA N (fun _ => defaultValue .long) := fun cA => vp_cell_l cA N (fun _ => 0)
  have harr : (Cond.arrayClass (newarray.typeOf (.long : ArrayType))).before args s = true := hts (Cond.arrayClass .long) (TW_of 1183 (by decide +kernel) (by decide +kernel))
  have hcb : componentBytes .long = 8 := rfl
  have hby1 : N * componentBytes .long ≤ 536870912 := by rw [hcb]; omega
  refine va_newa (atype := .long) (ty := .long) (a0 := (N, .inr (.inl (fun _ => 0)))) hx hb harr rfl hK.1 hP hD hS hA ha hn hN hby1 (by rw [hrc]; exact hc.1) (by rw [hrs]; exact hc.2) d (fun q cA H1 hK1 hP1 hD1 hS1 => ?_)
  have e1 : cA = cy 2 := Option.some.inj ((hK1.2 5 _ rfl).2.symm.trans (hK.1.2 2 _ rfl).2)
  subst e1
  exact k q H1 locs ls hP1 hD1 hS1 hl
theorem u_put {X : UX} {own : String} {cc : ByteArray} {nL fr rc rs lo cn sn : Nat} {ws : va_W} {pc : Nat} {L : List (Nat × Value)} {S : List Value} {idx : Nat} {R1 : String} {T : u_T} {N ci k1 a : Nat} {fs : List Value} {v : Value} {ty : FieldType} (q : Nat) (C : Ux X own cc nL fr rc rs lo) (he : ws[q]? = some (a, .inr (ci, fs))) (hc : vwCl[ci]? = some (R1, T, N)) (hin : ∀ z ∈ u_ws R1 T N, z ∈ TW) (ty0 : Nat → FieldType) (hty : ∀ k, k < N → parseFieldDescriptor (T k).2.2.1 = some (ty0 k)) (hnm : ∀ a, a < N → ∀ b, b < N → a ≠ b → (T a).2.1 ≠ (T b).2.1) (hk : k1 < N) (hfin : (T k1).2.2.2 = false) (hd : parseFieldDescriptor (T k1).2.2.1 = some ty) (hn : narrow ty v = v) (hfit : fits ty v = true) (hll : k1 < fs.length) (lk : Cond.fieldLink own idx (T k1).1 (T k1).2.1 (T k1).2.2.1 ∈ TW) (d : decode cc pc = .ok (.putfield idx, 3)) (k : U X cn sn (ws.set q (a, .inr (ci, fs.set k1 v))) (pc + 3) L S) : U X cn sn ws pc L (v :: .ref a :: S) := by
  obtain ⟨p, l, e, R, s, m, args, below, meth, c, Q, A, D, cy⟩ := X
  obtain ⟨hx, hb, hml, hown, hts, hK, hA, hfr, hrc, hrs, hlo⟩ := C
  intro H locs ls hP hD hS hl
  exact va_put hx hb hts hin ty0 hty hnm hown hK.1 hP hD hS q he hc k1 hk (hts _ lk) (fun _ h9 => h9) hfin hd hn hfit hll d (fun H1 locs1 hP1 hD1 hS1 => k H1 locs1 ls hP1 hD1 hS1 hl)
theorem u_putF {X : UX} {own : String} {cc : ByteArray} {nL fr rc rs lo cn sn : Nat} {ws : va_W} {pc : Nat} {L : List (Nat × Value)} {S : List Value} {idx : Nat} {R1 : String} {T : u_T} {N ci k1 a : Nat} {fs : List Value} {v : Value} {ty : FieldType} (q : Nat) (C : Ux X own cc nL fr rc rs lo) (Cm : Um X) (he : ws[q]? = some (a, .inr (ci, fs))) (hc : vwCl[ci]? = some (R1, T, N)) (hin : ∀ z ∈ u_ws R1 T N, z ∈ TW) (ty0 : Nat → FieldType) (hty : ∀ k, k < N → parseFieldDescriptor (T k).2.2.1 = some (ty0 k)) (hnm : ∀ a, a < N → ∀ b, b < N → a ≠ b → (T a).2.1 ≠ (T b).2.1) (hk : k1 < N) (hfin : (T k1).2.2.2 = true) (hdecl : (T k1).1 = own) (hd : parseFieldDescriptor (T k1).2.2.1 = some ty) (hn : narrow ty v = v) (hfit : fits ty v = true) (hll : k1 < fs.length) (lk : Cond.fieldLink own idx (T k1).1 (T k1).2.1 (T k1).2.2.1 ∈ TW) (d : decode cc pc = .ok (.putfield idx, 3)) (k : U X cn sn (ws.set q (a, .inr (ci, fs.set k1 v))) (pc + 3) L S) : U X cn sn ws pc L (v :: .ref a :: S) := by
  obtain ⟨p, l, e, R, s, m, args, below, meth, c, Q, A, D, cy⟩ := X
  obtain ⟨hx, hb, hml, hown, hts, hK, hA, hfr, hrc, hrs, hlo⟩ := C
  intro H locs ls hP hD hS hl
  exact va_putF hx hb hts hin ty0 hty hnm hown hK.1 hP hD hS q he hc k1 hk (hts _ lk) (fun _ h9 => h9) hfin Cm hdecl hd hn hfit hll d (fun H1 locs1 hP1 hD1 hS1 => k H1 locs1 ls hP1 hD1 hS1 hl)
theorem u_get {X : UX} {own : String} {cc : ByteArray} {nL fr rc rs lo cn sn : Nat} {ws : va_W} {pc : Nat} {L : List (Nat × Value)} {S : List Value} {idx : Nat} {R1 : String} {T : u_T} {N ci k1 a : Nat} {fs : List Value} {v : Value} (q : Nat) (C : Ux X own cc nL fr rc rs lo) (he : ws[q]? = some (a, .inr (ci, fs))) (hc : vwCl[ci]? = some (R1, T, N)) (hin : ∀ z ∈ u_ws R1 T N, z ∈ TW) (hk : k1 < N) (hv : fs[k1]? = some v) (lk : Cond.fieldLink own idx (T k1).1 (T k1).2.1 (T k1).2.2.1 ∈ TW) (d : decode cc pc = .ok (.getfield idx, 3)) (k : U X cn sn ws (pc + 3) L (v :: S)) : U X cn sn ws pc L (.ref a :: S) := by
  obtain ⟨p, l, e, R, s, m, args, below, meth, c, Q, A, D, cy⟩ := X
  obtain ⟨hx, hb, hml, hown, hts, hK, hA, hfr, hrc, hrs, hlo⟩ := C
  intro H locs ls hP hD hS hl
  exact va_get hx hb hts hin hown hK.1 hP q he hc k1 hk (hts _ lk) (fun _ h9 => h9) hv d (k H locs ls hP hD hS hl)
theorem u_new {X : UX} {own : String} {cc : ByteArray} {nL fr rc rs lo cn sn : Nat} {ws : va_W} {pc : Nat} {L : List (Nat × Value)} {S : List Value} {idx : Nat} {R1 : String} {T : u_T} {N ci : Nat} {fs : List Value} (C : Ux X own cc nL fr rc rs lo) (ty : Nat → FieldType) (hty : ∀ k, k < N → parseFieldDescriptor (T k).2.2.1 = some (ty k)) (hin : ∀ z ∈ u_ws R1 T N, z ∈ TW) (hc : vwCl[ci]? = some (R1, T, N)) (hcl : Cond.classLink own idx R1 ∈ TW) (hinst : Cond.instantiable R1 N ∈ TW) (hini : Cond.initialized R1 ∈ TW) (hfs : ∀ j, j < N → defaultValue (ty j) = vp_V fs j) (hr : cn + 1 ≤ rc ∧ sn + N ≤ rs) (d : decode cc pc = .ok (.new idx, 3)) (k : ∀ q : Nat, U X (cn + 1) (sn + N) (ws ++ [(q, .inr (ci, fs))]) (pc + 3) L (.ref q :: S)) : U X cn sn ws pc L S := by
  obtain ⟨p, l, e, R, s, m, args, below, meth, c, Q, A, D, cy⟩ := X
  obtain ⟨hx, hb, hml, hown, hts, hK, hA, hfr, hrc, hrs, hlo⟩ := C
  intro H locs ls hP hD hS hl
  exact va_new hx hb hts hin ty hty hown (hts _ hcl) (hts _ hinst) (hts _ hini) hK.1 hP hD hS hA hc hfs (by rw [hrc]; exact hr.1) (by rw [hrs]; exact hr.2) d (fun q H1 hP1 hD1 hS1 => k q H1 locs ls hP1 hD1 hS1 hl)
theorem va_pl_up {l : List Nat} {f : Nat → va_E} {v : va_E} : va_pl l (vr_up f l v) = l.map (fun a => (a, v)) := by
  unfold va_pl
  exact List.map_congr_left (fun a ha => by rw [vr_up_in ha])
set_option maxHeartbeats 4000000 in
theorem u_mna {X : UX} {own : String} {cc : ByteArray} {nL fr rc rs lo cn sn : Nat} {ws : va_W} {pc : Nat} {L : List (Nat × Value)} {S : List Value} {idx : Nat} (C : Ux X own cc nL fr rc rs lo) (hcl : Cond.classLink own idx "[[I" ∈ TW) (hr : cn + 13 ≤ rc ∧ sn + 168 ≤ rs) (d : decode cc pc = .ok (.multianewarray idx 2, 4)) (k : ∀ (q : Nat) (r : Nat → Nat), U X (cn + 13) (sn + 168) (ws ++ ([(q, .inl (uC X 4, 12, .inr (.inr (.inr (.inr (fun i => if i < 12 then some (r i) else none)))))), (r 0, .inl (uC X 1, 13, .inl (fun _ => 0))), (r 1, .inl (uC X 1, 13, .inl (fun _ => 0))), (r 2, .inl (uC X 1, 13, .inl (fun _ => 0))), (r 3, .inl (uC X 1, 13, .inl (fun _ => 0))), (r 4, .inl (uC X 1, 13, .inl (fun _ => 0))), (r 5, .inl (uC X 1, 13, .inl (fun _ => 0))), (r 6, .inl (uC X 1, 13, .inl (fun _ => 0))), (r 7, .inl (uC X 1, 13, .inl (fun _ => 0))), (r 8, .inl (uC X 1, 13, .inl (fun _ => 0))), (r 9, .inl (uC X 1, 13, .inl (fun _ => 0))), (r 10, .inl (uC X 1, 13, .inl (fun _ => 0))), (r 11, .inl (uC X 1, 13, .inl (fun _ => 0)))])) (pc + 4) L (.ref q :: S)) : U X cn sn ws pc L (.int 13 :: .int 12 :: S) := by
  obtain ⟨p, l, e, R, s, m, args, below, meth, c, Q, A, D, cy⟩ := X
  obtain ⟨hx, hb, hml, hown, hts, hK, hA, hfr, hrc, hrs, hlo⟩ := C
  intro H locs ls hP hD hS hl
  have hP0 : va_P D vwCl (ws ++ va_pl [] (fun _ => .inr (0, []))) H := by show va_P D vwCl (ws ++ []) H; rw [List.append_nil]; exact hP
  have hD0 : va_D A (ws ++ va_pl [] (fun _ => .inr (0, []))) := by show va_D A (ws ++ []); rw [List.append_nil]; exact hD
  refine va_mna (ty := .int) (cy := cy 1) (N' := 12) (K' := 13) (z := (13, .inl (fun _ => 0))) hx hb hown (hts _ hcl) hK.2.1 (hts (Cond.arrayClass .int) (TW_of 145 (by decide +kernel) (by decide +kernel))) ((hK.1.2 1 _ rfl).2) hK.1 hP0 hD0 hS hA (by decide) (by decide) (by decide) (by decide) (by decide) (by decide) (by decide) rfl rfl (by rw [hrc]; have := hr.1; omega) (by rw [hrs]; have := hr.2; omega) (fun c => by rw [vp_cell_i]; exact (arrV_new c 13 (.int 0))) d (fun q r cA H1 _ _ hK1 hP1 hD1 hS1 => ?_)
  have e1 : cA = cy 4 := Option.some.inj ((hK1.2 5 _ rfl).2.symm.trans (hK.1.2 4 _ rfl).2)
  subst e1
  rw [List.nil_append, va_pl_up, List.append_assoc] at hP1 hD1
  exact k q r H1 locs ls hP1 hD1 hS1 hl
/-- a constructor's contract: the object at a, with the fields fs0, gets the fields fs1, and the cells nw come -/
def Ctor (y : MethodName) (cc : ByteArray) (nL fr lo mc ms ci : Nat) (fs0 As : List Value) (fs1 : (Nat → Nat) → List Value) (nw : (Nat → ClassId) → (Nat → Nat) → va_W) : Prop := ∀ (l : Launch) (D : va_G) (cy : Nat → ClassId) (a sz : Nat), Met l y (.code y cc nL none :: TW) { frames := fr, cells := mc, slots := ms, locals := lo } (va_Pc (.ref a :: As) (fun U => U.heap.size = sz ∧ va_P D vwCl [(a, .inr (ci, fs0))] U.heap ∧ KA D cy U ∧ va_D (fun _ => True) [(a, .inr (ci, fs0))])) (fun _ s0 oc t => (oc = .returned none ∧ ∃ r : Nat → Nat, va_P D vwCl ((a, .inr (ci, fs1 r)) :: nw cy r) t.heap ∧ va_D (va_A [(a, .inr (ci, fs0))] sz) ((a, .inr (ci, fs1 r)) :: nw cy r)) ∧ va_F (va_A [(a, .inr (ci, fs0))] sz) s0 t) mc ms (va_A [(a, .inr (ci, fs0))] sz)
def UR (X : UX) (cc : ByteArray) (mc ms : Nat) (fin : (Nat → Nat) → va_W) : Prop := match X with
  | (p, l, e, R, s, m, args, below, meth, c, Q, A, D, cy) => ∀ (H : Heap) (locs : List Loc) (ls : Array Slot) (pc : Nat) (r : Nat → Nat), va_P D vwCl (fin r) H → va_D A (fin r) → va_S A s.heap H locs → decode cc pc = .ok (.return_, 1) → W p l e R s m args below meth c H locs mc ms Q (F0 m pc ls [])
theorem u_ret {X : UX} {cc : ByteArray} {mc ms cn sn : Nat} {fin : (Nat → Nat) → va_W} {ws : va_W} {pc : Nat} {L : List (Nat × Value)} (r : Nat → Nat) (R1 : UR X cc mc ms fin) (h1 : cn = mc) (h2 : sn = ms) (hw : ws = fin r) (d : decode cc pc = .ok (.return_, 1)) : U X cn sn ws pc L [] := by
  obtain ⟨p, l, e, R, s, m, args, below, meth, c, Q, A, D, cy⟩ := X
  intro H locs ls hP hD hS hl
  subst h1 h2
  exact R1 H locs ls pc r (by rw [← hw]; exact hP) (by rw [← hw]; exact hD) hS d
set_option maxHeartbeats 4000000 in
theorem Ctor.of {y : MethodName} {cc : ByteArray} {nL fr lo mc ms ci : Nat} {fs0 As : List Value} {fs1 : (Nat → Nat) → List Value} {nw : (Nat → ClassId) → (Nat → Nat) → va_W} (hy : plainName y.cls = true) (hyn : y.name = "<init>") (hle : ∀ a, (lg_sl (.ref a :: As)).length ≤ nL)
    (body : ∀ (X : UX) (a : Nat), Ux X y.cls cc nL fr mc ms lo → Um X → UR X cc mc ms (fun r => (a, .inr (ci, fs1 r)) :: nw (uC X) r) → U X 0 0 [(a, .inr (ci, fs0))] 0 (lv_args 0 (.ref a :: As)) []) : Ctor y cc nL fr lo mc ms ci fs0 As fs1 nw := by
  intro l D cy a sz
  refine Met.ofW (cc := cc) (maxL := nL) (ret := none) hy rfl ?_
  intro p e s m args below meth c s₁ B hml hv
  obtain ⟨rfl, hsz, hP, hK, hD0⟩ := hv
  subst hsz
  have hx := B.exec
  have hb := B.bytes
  have hr := B.returns
  have hts := atoms_spec (ws := .code y cc nL none :: TW) B.pre
  have hown : s.vm.findClass y.cls = some m.cls := findClass_of_methodNamed B.named
  have hlocks := B.notSynchronized
  have hin : meth.name = "<init>" := (name_of_methodNamed B.named B.method).1.trans hyn
  have hA : ∀ q : Nat, s.heap.size ≤ q → va_A [(a, .inr (ci, fs0))] s.heap.size q := fun q h => Or.inr h
  have hD := hD0.self (sz := s.heap.size)
  rw [lg_entry_eq]
  have hl := lv_entry (.ref a :: As) (hle a)
  have hl2 : lv_has ((lg_sl (.ref a :: As) ++ List.replicate (nL - (lg_sl (.ref a :: As)).length) Slot.unset).toArray) c.maxLocals (lv_args 0 (.ref a :: As)) := by
    rw [hml]
    exact hl
  refine body (p, l, e, _, s, m, _, below, meth, c, _, va_A [(a, .inr (ci, fs0))] s.heap.size, D, cy) a ⟨hx, hb, hml, hown, fun q hq => hts q (List.mem_cons_of_mem _ hq), hK, hA, rfl, rfl, rfl, rfl⟩ hin ?_ s.heap [] _ hP hD va_S.rf hl2
  intro H locs ls pc r hP1 hD1 hS1 hd
  exact W.vret hx hb hr (fun t ht hW => ⟨⟨rfl, r, by rw [ht]; exact hP1, hD1⟩, hS1.F ht⟩) hS1.2.2 hd hlocks
set_option maxHeartbeats 4000000 in
theorem u_callI {X : UX} {own : String} {cc : ByteArray} {nL fr rc rs lo cn sn : Nat} {ws : va_W} {pc : Nat} {L : List (Nat × Value)} {S : List Value} {stk : List Value} {y : MethodName} {cy1 : ByteArray} {nLy fry loy mc ms ci idx n a : Nat} {fs0 As : List Value} {fs1 : (Nat → Nat) → List Value} {nw : (Nat → ClassId) → (Nat → Nat) → va_W} {wr : va_W} (q : Nat) (isR : List Nat) (C : Ux X own cc nL fr rc rs lo) (hm : Ctor y cy1 nLy fry loy mc ms ci fs0 As fs1 nw) (hcd : Cond.code y cy1 nLy none ∈ TW) (hini : Cond.initialized y.cls ∈ TW) (hinm : Cond.instanceMethod y ∈ TW) (hyn : y.name = "<init>") (hdd : y.cls ≠ "java/lang/invoke/MethodHandle" ∧ y.cls ≠ "java/lang/invoke/VarHandle" ∧ (parseMethodDescriptor y.desc).map (fun d => d.parameters.length) = some n) (lk : Cond.methodLink own idx y ∈ TW) (hR : fry + 1 ≤ fr ∧ 8 + (nLy + 11) + loy ≤ lo) (hr : cn + mc ≤ rc ∧ sn + ms ≤ rs) (hn : As.length = n) (hS8 : (S.map fun v => v.category).sum ≤ 8) (hst : stk = As.reverse ++ .ref a :: S) (hC : [q].map (fun i => ws[i]?) = ([(a, .inr (ci, fs0))] : va_W).map some) (hRR : isR.map (fun i => ws[i]?) = wr.map some) (hnd : va_nd isR = true) (hdis : ∀ i ∈ isR, i ∉ [q]) (hsub : [q].filterMap (fun i => ws[i]?) = [(a, .inr (ci, fs0))]) (d : decode cc pc = .ok (.invokespecial idx, 3)) (k : ∀ r : Nat → Nat, U X (cn + mc) (sn + ms) (wr ++ ((a, .inr (ci, fs1 r)) :: nw (uC X) r)) (pc + 3) L S) : U X cn sn ws pc L stk := by
  obtain ⟨p, l, e, R, s, m, args, below, meth, c, Q, A, D, cy⟩ := X
  obtain ⟨hx, hb, hml, hown, hts, hK, hA, hfr, hrc, hrs, hlo⟩ := C
  intro H locs ls hP hD hS hl
  subst hst
  have hG : GoodIn TW (.code y cy1 nLy none :: TW) := fun z hz => by
    rcases List.mem_cons.mp hz with e1 | e1
    · rw [e1]; exact ⟨hcd, TW_good hcd⟩
    · exact ⟨e1, TW_good e1⟩
  have hPc := hP.sub (ws' := [(a, .inr (ci, fs0))]) [q] hsub
  have hDc := hD.sub (ws' := [(a, .inr (ci, fs0))]) [q] (by rfl) hC
  have hFc := va_free (wc := [(a, .inr (ci, fs0))]) hD hS hA [q] hC
  have hpre : PreS s H (va_Pc (.ref a :: As) (fun U => U.heap.size = H.size ∧ va_P D vwCl [(a, .inr (ci, fs0))] U.heap ∧ KA D cy U ∧ va_D (fun _ => True) [(a, .inr (ci, fs0))])) (.ref a :: As) := ⟨fun a1 U1 g mk q1 => by
    obtain ⟨q0, q1, qP, qK, qD⟩ := q1
    exact ⟨q0, q1, qP, qK.blind, qD⟩, fun U1 hU hW => ⟨rfl, by rw [hU], by rw [hU]; exact hPc, hK.warm hW, hDc.weaken (fun _ _ _ _ => trivial)⟩⟩
  have hrun := va_runI (l := l) (e := e) (below := below) (meth := meth) (locs := locs) (cells := cn) (slots := sn) (R := R) (b := a) (As := As) (rest := S) (nL := nL) (g := F0 m pc ls (As.reverse ++ .ref a :: S)) ⟨hx, hb, hml, hown, hts⟩ (hm l D cy a H.size) ⟨callB_of n hts hG rfl rfl rfl (hts _ hini) (hts _ lk) hdd (by rw [hfr, hlo]; exact hR), hyn, hts _ hinm⟩ hpre rfl hn (by rw [← hml]; exact hl.1) rfl (lv_room hS8) d (by rw [hrc, hrs]; exact hr)
  intro T hT X1
  obtain ⟨v1, st₀, t, T', L1, h0, X', hL, e1, e2, ⟨⟨hv, r, hP1, hD1⟩, hz, hk⟩, st⟩ := hrun T hT X1
  cases hv
  rw [h0] at hz hk
  rw [← e1] at hP1 hz hk
  obtain ⟨hP2, hD2⟩ := va_join (wr := wr) (w1 := (a, .inr (ci, fs1 r)) :: nw cy r) hP hD [q] isR hC hRR hnd hdis hk hFc hP1 hD1
  obtain ⟨t2, a1, b1⟩ := k r T'.heap (locs ++ L1) ls hP2 hD2
    ⟨Nat.le_trans hS.1 hz, fun x h1 h2 => by rw [hk x (Nat.lt_of_lt_of_le h1 hS.1) (fun z => h2 (hFc x z))]; exact hS.2.1 x h1 h2, fun x hq => by
      rcases List.mem_append.mp hq with h | h
      · exact hS.2.2 x h
      · exact hFc _ (hL x h)⟩ hl T' rfl X'
  exact ⟨t2, st t2 a1, b1⟩
set_option maxHeartbeats 4000000 in
theorem u_callIN {X : UX} {own : String} {cc : ByteArray} {nL fr rc rs lo cn sn : Nat} {ws : va_W} {pc : Nat} {L : List (Nat × Value)} {S : List Value} {stk : List Value} {y : MethodName} {cy1 : ByteArray} {nLy fry loy mc ms ci idx n a : Nat} {fs0 As : List Value} {fs1 : (Nat → Nat) → List Value} {nw : (Nat → ClassId) → (Nat → Nat) → va_W} {wr : va_W} (q : Nat) (isR : List Nat) (C : Ux X own cc nL fr rc rs lo) (hm : Ctor y cy1 nLy fry loy mc ms ci fs0 As fs1 nw) (hcd : Cond.code y cy1 nLy none ∈ TW) (hini : Cond.initialized y.cls ∈ TW) (hinm : Cond.instanceMethod y ∈ TW) (hyn : y.name = "<init>") (hdd : y.cls ≠ "java/lang/invoke/MethodHandle" ∧ y.cls ≠ "java/lang/invoke/VarHandle" ∧ (parseMethodDescriptor y.desc).map (fun d => d.parameters.length) = some n) (lk : (own, idx, y) ∈ nestI) (hR : fry + 1 ≤ fr ∧ 8 + (nLy + 11) + loy ≤ lo) (hr : cn + mc ≤ rc ∧ sn + ms ≤ rs) (hn : As.length = n) (hS8 : (S.map fun v => v.category).sum ≤ 8) (hst : stk = As.reverse ++ .ref a :: S) (hC : [q].map (fun i => ws[i]?) = ([(a, .inr (ci, fs0))] : va_W).map some) (hRR : isR.map (fun i => ws[i]?) = wr.map some) (hnd : va_nd isR = true) (hdis : ∀ i ∈ isR, i ∉ [q]) (hsub : [q].filterMap (fun i => ws[i]?) = [(a, .inr (ci, fs0))]) (d : decode cc pc = .ok (.invokespecial idx, 3)) (k : ∀ r : Nat → Nat, U X (cn + mc) (sn + ms) (wr ++ ((a, .inr (ci, fs1 r)) :: nw (uC X) r)) (pc + 3) L S) : U X cn sn ws pc L stk := by
  obtain ⟨p, l, e, R, s, m, args, below, meth, c, Q, A, D, cy⟩ := X
  obtain ⟨hx, hb, hml, hown, hts, hK, hA, hfr, hrc, hrs, hlo⟩ := C
  intro H locs ls hP hD hS hl
  subst hst
  have hG : GoodIn TW (.code y cy1 nLy none :: TW) := fun z hz => by
    rcases List.mem_cons.mp hz with e1 | e1
    · rw [e1]; exact ⟨hcd, TW_good hcd⟩
    · exact ⟨e1, TW_good e1⟩
  have hPc := hP.sub (ws' := [(a, .inr (ci, fs0))]) [q] hsub
  have hDc := hD.sub (ws' := [(a, .inr (ci, fs0))]) [q] (by rfl) hC
  have hFc := va_free (wc := [(a, .inr (ci, fs0))]) hD hS hA [q] hC
  have hpre : PreS s H (va_Pc (.ref a :: As) (fun U => U.heap.size = H.size ∧ va_P D vwCl [(a, .inr (ci, fs0))] U.heap ∧ KA D cy U ∧ va_D (fun _ => True) [(a, .inr (ci, fs0))])) (.ref a :: As) := ⟨fun a1 U1 g mk q1 => by
    obtain ⟨q0, q1, qP, qK, qD⟩ := q1
    exact ⟨q0, q1, qP, qK.blind, qD⟩, fun U1 hU hW => ⟨rfl, by rw [hU], by rw [hU]; exact hPc, hK.warm hW, hDc.weaken (fun _ _ _ _ => trivial)⟩⟩
  have hrun := va_runIN (l := l) (e := e) (below := below) (meth := meth) (locs := locs) (cells := cn) (slots := sn) (R := R) (b := a) (As := As) (rest := S) (nL := nL) (g := F0 m pc ls (As.reverse ++ .ref a :: S)) ⟨hx, hb, hml, hown, hts⟩ (hm l D cy a H.size) ⟨va_cnB (R := R) n hts hG rfl rfl rfl (hK.2.2 _ lk) (hts _ hini) hdd (by rw [hfr, hlo]; exact hR), hyn, hts _ hinm⟩ hpre rfl hn (by rw [← hml]; exact hl.1) rfl (lv_room hS8) d (by rw [hrc, hrs]; exact hr)
  intro T hT X1
  obtain ⟨v1, st₀, t, T', L1, h0, X', hL, e1, e2, ⟨⟨hv, r, hP1, hD1⟩, hz, hk⟩, st⟩ := hrun T hT X1
  cases hv
  rw [h0] at hz hk
  rw [← e1] at hP1 hz hk
  obtain ⟨hP2, hD2⟩ := va_join (wr := wr) (w1 := (a, .inr (ci, fs1 r)) :: nw cy r) hP hD [q] isR hC hRR hnd hdis hk hFc hP1 hD1
  obtain ⟨t2, a1, b1⟩ := k r T'.heap (locs ++ L1) ls hP2 hD2
    ⟨Nat.le_trans hS.1 hz, fun x h1 h2 => by rw [hk x (Nat.lt_of_lt_of_le h1 hS.1) (fun z => h2 (hFc x z))]; exact hS.2.1 x h1 h2, fun x hq => by
      rcases List.mem_append.mp hq with h | h
      · exact hS.2.2 x h
      · exact hFc _ (hL x h)⟩ hl T' rfl X'
  exact ⟨t2, st t2 a1, b1⟩
