/-! ===== the wall: what hangs on no place ===== -/
theorem dW_2 {D : Dt} {i j a : Nat} (h1 : a ≠ 11) (h2 : a ≠ 12) : (dW D i j).2 a = D.2 a := funext fun _ => dW_ne h1 h2
theorem sec_dW (D : Dt) (i j : Nat) (t : Nat → Nat) (a : Nat) : sec (dW D i j) t a = sec D t a := by
  unfold sec
  rw [dW_2 (a := 1) (by decide) (by decide), dW_2 (a := 3) (by decide) (by decide)]
theorem so_dW (D : Dt) (i j : Nat) (t : Nat → Nat) (p : Nat) : ∀ a, so (dW D i j) t a p = so D t a p
  | 0 => rfl
  | a + 1 => by
    have ih := so_dW D i j t p a
    show (if (dW D i j).2 2 a = p then min (so (dW D i j) t a p) (sec (dW D i j) t a) else so (dW D i j) t a p) = (if D.2 2 a = p then min (so D t a p) (sec D t a) else so D t a p)
    rw [ih, sec_dW, dW_2 (a := 2) (by decide) (by decide)]
theorem la_dW (D : Dt) (i j : Nat) (t : Nat → Nat) (p : Nat) : ∀ a, la (dW D i j) t a p = la D t a p
  | 0 => rfl
  | a + 1 => by
    have ih := la_dW D i j t p a
    show (if (dW D i j).2 2 a = p then max (la (dW D i j) t a p) (sec (dW D i j) t a + 1) else la (dW D i j) t a p) = (if D.2 2 a = p then max (la D t a p) (sec D t a + 1) else la D t a p)
    rw [ih, sec_dW, dW_2 (a := 2) (by decide) (by decide)]
theorem Fw_dW (D : Dt) (i j : Nat) (t : Nat → Nat) : Fw (dW D i j) t = Fw D t := funext fun p => by
  unfold Fw
  rw [so_dW, la_dW, dW_2 (a := 0) (by decide) (by decide), dW_1]
theorem it_dW (D : Dt) (i j : Nat) (t : Nat → Nat) : ∀ k, it (dW D i j) t k = it D t k
  | 0 => rfl
  | k + 1 => by
    have ih := it_dW D i j t k
    show nx (dW D i j) (it (dW D i j) t k) = nx D (it D t k)
    rw [ih]
    unfold nx
    rw [Fw_dW]
theorem lw_dW (D : Dt) (i j : Nat) : lw (dW D i j) = lw D := funext fun h => funext fun w => by
  unfold lw lu fl
  rw [it_dW, dW_2 (a := 4) (by decide) (by decide), dW_2 (a := 5) (by decide) (by decide), dW_2 (a := 9) (by decide) (by decide), dW_1]
theorem lb_dW (D : Dt) (i j : Nat) : lb (dW D i j) = lb D := funext fun h => funext fun w => by
  unfold lb
  rw [lw_dW, dW_1]
theorem wh_dW (D : Dt) (i j : Nat) : wh (dW D i j) = wh D := funext fun p => by
  unfold wh
  rw [lb_dW, dW_1]
theorem zr_dW (D : Dt) (i j : Nat) : zr (dW D i j) = zr D := funext fun r => by
  unfold zr
  rw [dW_2 (a := 10) (by decide) (by decide)]
theorem ap_dW (D : Dt) (i j : Nat) (x : Int32) (r : Nat) : ap (dW D i j) x r = ap D x r := by
  unfold ap
  rw [dW_2 (a := 7) (by decide) (by decide), dW_2 (a := 8) (by decide) (by decide)]
theorem hid_dW (D : Dt) (i j : Nat) (x : Int32) (z : Nat → Bool) : ∀ n, hid (dW D i j) x z n = hid D x z n
  | 0 => rfl
  | n + 1 => funext fun k => by
    have ih := hid_dW D i j x z n
    unfold hid
    rw [ih, ap_dW, dW_2 (a := 6) (by decide) (by decide)]
theorem shI_dW (D : Dt) (i j : Nat) (x : Int32) (z : Nat → Bool) : shI (dW D i j) x z = shI D x z := by
  unfold shI
  rw [dW_1, hid_dW]
theorem sv_dW (D : Dt) (i j : Nat) : sv (dW D i j) = sv D := funext fun p => funext fun v => by
  unfold sv
  rw [shI_dW, lb_dW, zr_dW]
theorem skB_dW (D : Dt) (i j : Nat) : skB (dW D i j) = skB D := by
  unfold skB
  rw [dW_2 (a := 9) (by decide) (by decide), dW_1]
theorem ncN_dW (D : Dt) (i j : Nat) (h : Int32) (v : Nat) : ∀ n, ncN (dW D i j) h v n = ncN D h v n
  | 0 => rfl
  | n + 1 => by
    have ih := ncN_dW D i j h v n
    unfold ncN
    rw [ih, lw_dW]
theorem stg_dW (D : Dt) (i j : Nat) (h : Int32) : ∀ k, stg (dW D i j) h k = stg D h k
  | 0 => rfl
  | k + 1 => by
    have ih := stg_dW D i j h k
    show nc (dW D i j) h (stg (dW D i j) h k) = nc D h (stg D h k)
    rw [ih]
    unfold nc
    rw [ncN_dW, dW_1]
theorem StP_dW {D : Dt} {i j p : Nat} {s : St} {ns : Nat} (h : StP D p s ns) : StP (dW D i j) p s ns := by
  obtain ⟨h1, h2, h3, h4, h5⟩ := h
  refine ⟨h1, h2, h3, by rw [stg_dW]; exact h4, fun k hk => ?_⟩
  rw [stg_dW, sv_dW]
  exact h5 k hk
theorem Prp_dW {D : Dt} {i j : Nat} {s : St} (h : Prp D s) : Prp (dW D i j) s := by
  obtain ⟨h1, h2, h3⟩ := h
  refine ⟨fun p hp => by rw [wh_dW]; exact h1 p hp, by rw [skB_dW]; exact h2, fun p hp => ?_⟩
  obtain ⟨ns, h⟩ := h3 p hp
  exact ⟨ns, StP_dW h⟩
theorem StP_keep {D : Dt} {p : Nat} {s t : St} {ns : Nat} (hp : p < 12) (h : StP D p s ns) {ks : List Nat} (hk : Kp ks s t) (hd : ∀ k, k ∈ [49, 50, 51, 52, 53, 54, 55, 56, 57, 58, 59, 60, 61, 62, 63, 64, 65, 66, 67, 68, 69, 70, 71, 72, 73] → k ∉ ks) : StP D p t ns := by
  obtain ⟨h1, h2, h3, h4, h5⟩ := h
  have e : ∀ k, 49 ≤ k → k ≤ 73 → ∀ j, rI t k j = rI s k j := fun k l1 l2 j => Kp_rI hk (hd k (by
    simp only [List.mem_cons, List.not_mem_nil, or_false]
    omega)) j
  refine ⟨h1, h2, by rw [e 49 (by omega) (by omega)]; exact h3, h4, fun k hk2 => ?_⟩
  rw [e (50 + p) (by omega) (by omega), e (62 + p) (by omega) (by omega)]
  exact h5 k hk2
theorem Prp_keep {D : Dt} (hb : Bw D) {s t : St} (h : Prp D s) {ks : List Nat} (hk : Kp ks s t) (hd : ∀ k, k ∈ [49, 50, 51, 52, 53, 54, 55, 56, 57, 58, 59, 60, 61, 62, 63, 64, 65, 66, 67, 68, 69, 70, 71, 72, 73] → k ∉ ks) (h43 : 43 ∉ ks) (h45 : rI t 45 7 = rI s 45 7) : Prp D t := by
  have hP := hb.1.1
  obtain ⟨h1, h2, h3⟩ := h
  refine ⟨fun p hp => by rw [Kp_rI hk h43]; exact h1 p hp, h45.trans h2, fun p hp => ?_⟩
  obtain ⟨ns, h⟩ := h3 p hp
  exact ⟨ns, StP_keep (by omega) h hk hd⟩
theorem dW_dW {D : Dt} (hB : Bd D) {i j : Nat} (hi : i < D.1 2) (hj : j < D.1 2) (hij : i ≠ j) : dW (dW D i j) i j = D := by
  have hpi := (hB.2.2.2.1 i hi).2.2.2.1
  have hpj := (hB.2.2.2.1 j hj).2.2.2.1
  apply Prod.ext
  · rfl
  · funext a
    by_cases e1 : a = 11
    · subst e1
      funext k
      rw [dW_11, dW_11, dW_11, dW_11, if_neg hij]
      by_cases ek : k = j
      · subst ek; simp
      · by_cases ek2 : k = i
        · subst ek2; simp [ek]
        · simp [ek, ek2]
    · by_cases e2 : a = 12
      · subst e2
        funext k
        rw [dW_12, dW_11, dW_11, if_pos rfl, if_neg hij, if_pos rfl]
        by_cases ek : k = D.2 11 i
        · subst ek; rw [if_pos rfl]; exact hpi.2.symm
        · rw [if_neg ek]
          by_cases ek2 : k = D.2 11 j
          · subst ek2; rw [if_pos rfl]; exact hpj.2.symm
          · rw [if_neg ek2, dW_12, if_neg ek2, if_neg ek]
      · rw [dW_2 e1 e2, dW_2 e1 e2]
/-! the sums -/
def tvI (D : Dt) (g p : Nat) : Int32 := if td D p g 0 0 = -1 then nI (D.1 6) else td D p g 0 0
def smI (D : Dt) (g : Nat) : Nat → Int32
  | 0 => 0
  | p + 1 => smI D g p + tvI D g p
theorem sum_cl {D : Dt} {tx : Nat → Int32} {s : St} (hR : RC D tx s) (hb : Bw D) (hpr : Prp D s) {g : Nat} (hg1 : 1 ≤ g) (hg2 : g ≤ 30) : ∀ (d i n : Nat), i + d = D.1 0 → d < n → l_X0_sum_4 n (nI g) (smI D g i) (nI i) s = some (smI D g (D.1 0), s) := by
  have hP := hb.1.1
  intro d
  induction d with
  | zero =>
    intro i n hi hn
    obtain ⟨n, rfl⟩ : ∃ m, n = m + 1 := ⟨n - 1, by omega⟩
    have e : i = D.1 0 := by omega
    subst e
    show b_X0_sum_4 (l_X0_sum_4 n) _ _ (nI (D.1 0)) s = _
    unfold b_X0_sum_4
    rw [hR.1 (8, 0, 0) (by decide), if_pos (nI_le (Nat.le_refl (D.1 0)) (by omega))]
  | succ d ih =>
    intro i n hi hn
    obtain ⟨n, rfl⟩ : ∃ m, n = m + 1 := ⟨n - 1, by omega⟩
    have hlt : i < D.1 0 := by omega
    have hnext := ih (i + 1) n (by omega) (by omega)
    have hsu : smI D g (i + 1) = smI D g i + (if td D i g 0 0 = -1 then nI (D.1 6) else td D i g 0 0) := rfl
    show b_X0_sum_4 (l_X0_sum_4 n) _ _ (nI i) s = _
    unfold b_X0_sum_4
    rw [hR.1 (8, 0, 0) (by decide), if_neg (nI_ge (a := i) (b := D.1 0) hlt (by omega)), tell_c hR hb hpr hlt hg1 hg2, bd_ok, hR.1 (42, 4, 6) (by decide), nI_1, ← hnext, hsu]
    by_cases c : td D i g 0 0 = -1
    · rw [if_pos c, if_pos c]
    · rw [if_neg c, if_neg c]
theorem sum_c {D : Dt} {tx : Nat → Int32} {s : St} (hR : RC D tx s) (hb : Bw D) (hpr : Prp D s) {g : Nat} (hg1 : 1 ≤ g) (hg2 : g ≤ 30) : f_X0_sum (nI g) s = some (smI D g (D.1 0), s) := by
  have hP := hb.1.1
  exact sum_cl hR hb hpr hg1 hg2 (D.1 0) 0 FU (by omega) (FU_lt (by omega))
/-- the reference has prepared -/
def Qrp (D : Dt) (s : St) : Prop := (∀ p, p < D.1 0 → rI s 99 p = wh D p) ∧ ∀ p, p < D.1 0 → ∀ v, v ≤ D.1 6 → rI s 100 (601 * p + v) = sv D p v
theorem Qrp_dW {D : Dt} {i j : Nat} {s : St} (h : Qrp D s) : Qrp (dW D i j) s := by
  obtain ⟨h1, h2⟩ := h
  exact ⟨fun p hp => by rw [wh_dW]; exact h1 p hp, fun p hp v hv => by rw [sv_dW]; exact h2 p hp v hv⟩
theorem Qrp_keep {D : Dt} {s t : St} (h : Qrp D s) {ks : List Nat} (hk : Kp ks s t) (h99 : 99 ∉ ks) (h100 : 100 ∉ ks) : Qrp D t := by
  obtain ⟨h1, h2⟩ := h
  exact ⟨fun p hp => by rw [Kp_rI hk h99]; exact h1 p hp, fun p hp v hv => by rw [Kp_rI hk h100]; exact h2 p hp v hv⟩
theorem sum_ml {D : Dt} {tx : Nat → Int32} {s : St} (hS : RM D tx s) (hb : Bw D) (hpr : Qrp D s) {g : Nat} (hg1 : 1 ≤ g) (hg2 : g ≤ 30) : ∀ (d i n : Nat), i + d = D.1 0 → d < n → l_X11_sum_4 n (nI g) (smI D g i) (nI i) s = some (smI D g (D.1 0), s) := by
  have hP := hb.1.1
  intro d
  induction d with
  | zero =>
    intro i n hi hn
    obtain ⟨n, rfl⟩ : ∃ m, n = m + 1 := ⟨n - 1, by omega⟩
    have e : i = D.1 0 := by omega
    subst e
    show b_X11_sum_4 (l_X11_sum_4 n) _ _ (nI (D.1 0)) s = _
    unfold b_X11_sum_4
    rw [hS.1 (74, 18, 0) (by decide), if_pos (nI_le (Nat.le_refl (D.1 0)) (by omega))]
  | succ d ih =>
    intro i n hi hn
    obtain ⟨n, rfl⟩ : ∃ m, n = m + 1 := ⟨n - 1, by omega⟩
    have hlt : i < D.1 0 := by omega
    have hnext := ih (i + 1) n (by omega) (by omega)
    have hsu : smI D g (i + 1) = smI D g i + (if td D i g 0 0 = -1 then nI (D.1 6) else td D i g 0 0) := rfl
    show b_X11_sum_4 (l_X11_sum_4 n) _ _ (nI i) s = _
    unfold b_X11_sum_4
    rw [hS.1 (74, 18, 0) (by decide), if_neg (nI_ge (a := i) (b := D.1 0) hlt (by omega)), toldAt_m hS hb hpr.1 hlt (hpr.2 i hlt) hg1 hg2, bd_ok, hS.1 (74, 36, 6) (by decide), nI_1, ← hnext, hsu]
    by_cases c : td D i g 0 0 = -1
    · rw [if_pos c, if_pos c]
    · rw [if_neg c, if_neg c]
theorem sum_m {D : Dt} {tx : Nat → Int32} {s : St} (hS : RM D tx s) (hb : Bw D) (hpr : Qrp D s) {g : Nat} (hg1 : 1 ≤ g) (hg2 : g ≤ 30) : f_X11_sum (nI g) s = some (smI D g (D.1 0), s) := by
  have hP := hb.1.1
  exact sum_ml hS hb hpr hg1 hg2 (D.1 0) 0 FU (by omega) (FU_lt (by omega))
