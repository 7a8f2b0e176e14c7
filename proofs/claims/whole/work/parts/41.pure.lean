/-! ===== altered ===== -/
theorem x_sec (D : Dt) (i v : Nat) (t : Nat → Nat) (a : Nat) : sec (dA D 14 i v) t a = sec D t a := rfl
theorem x_so (D : Dt) (i v : Nat) (t : Nat → Nat) (p : Nat) : ∀ a, so (dA D 14 i v) t a p = so D t a p
  | 0 => rfl
  | a + 1 => by
    have ih := x_so D i v t p a
    show (if D.2 2 a = p then min (so (dA D 14 i v) t a p) (sec D t a) else so (dA D 14 i v) t a p) = (if D.2 2 a = p then min (so D t a p) (sec D t a) else so D t a p)
    rw [ih]
theorem x_la (D : Dt) (i v : Nat) (t : Nat → Nat) (p : Nat) : ∀ a, la (dA D 14 i v) t a p = la D t a p
  | 0 => rfl
  | a + 1 => by
    have ih := x_la D i v t p a
    show (if D.2 2 a = p then max (la (dA D 14 i v) t a p) (sec D t a + 1) else la (dA D 14 i v) t a p) = (if D.2 2 a = p then max (la D t a p) (sec D t a + 1) else la D t a p)
    rw [ih]
theorem x_Fw (D : Dt) (i v : Nat) (t : Nat → Nat) (p : Nat) : Fw (dA D 14 i v) t p = Fw D t p := by
  show (if D.2 0 p = 1 ∧ la (dA D 14 i v) t (D.1 1) p ≠ 0 then la (dA D 14 i v) t (D.1 1) p - 1 else so (dA D 14 i v) t (D.1 1) p) = _
  rw [x_la, x_so]
  rfl
theorem x_it (D : Dt) (i v : Nat) (t : Nat → Nat) : ∀ k, it (dA D 14 i v) t k = it D t k
  | 0 => rfl
  | k + 1 => by
    have ih := x_it D i v t k
    show nx (dA D 14 i v) (it (dA D 14 i v) t k) = nx D (it D t k)
    rw [ih]
    funext p
    show min (it D t k p) (Fw (dA D 14 i v) (it D t k) p) = min (it D t k p) (Fw D (it D t k) p)
    rw [x_Fw]
theorem x_fl (D : Dt) (i v : Nat) (h : Int32) : fl (dA D 14 i v) h = fl D h := x_it D i v (t0 h) (D.1 0 + 1)
theorem x_lu (D : Dt) (i v : Nat) (h : Int32) (w : Nat) : lu (dA D 14 i v) h w = lu D h w := by
  show min (fl (dA D 14 i v) h (D.2 4 w) + D.2 5 w) 1000000 = _
  rw [x_fl]
  rfl
theorem x_fs (D : Dt) (i v : Nat) (ra : Nat → Nat) (w : Nat) : ∀ k, fsU (dA D 14 i v) ra k w = fsU D ra k w
  | 0 => rfl
  | k + 1 => by
    have ih := x_fs D i v ra w k
    show (if D.2 13 k = w ∧ fsU (dA D 14 i v) ra k w = 0 then ra k + 1 else fsU (dA D 14 i v) ra k w) = (if D.2 13 k = w ∧ fsU D ra k w = 0 then ra k + 1 else fsU D ra k w)
    rw [ih]
theorem x_wrB (D : Dt) (i v : Nat) (ra : Nat → Nat) (h : Int32) (b : Nat) : wrB (dA D 14 i v) ra h b = wrB D ra h b := by
  funext w
  show decide ((b : Int) < loS (fsU (dA D 14 i v) ra (D.1 4) w) (La D ra (D.1 4)) (D.1 5) (lu (dA D 14 i v) h w) ∨ hiS (fsU (dA D 14 i v) ra (D.1 4) w) (D.1 5) (lu (dA D 14 i v) h w) < (b : Int)) = _
  rw [x_fs, x_lu]
  rfl
theorem x_cn (D : Dt) (i v : Nat) (ra : Nat → Nat) (h : Int32) (b : Nat) : cn (dA D 14 i v) ra h b = cn D ra h b := by
  show fb_ct (wrB (dA D 14 i v) ra h b) (D.1 2) = _
  rw [x_wrB]
  rfl
theorem x_WR (D : Dt) (i v : Nat) (ra : Nat → Nat) (h : Int32) (b : Nat) : WR (dA D 14 i v) ra h b = WR D ra h b := by
  show bitsI (wrB (dA D 14 i v) ra h b) (D.1 2) = _
  rw [x_wrB]
  rfl
theorem x_bb (D : Dt) (i v : Nat) (ra : Nat → Nat) (h : Int32) : ∀ k, bb (dA D 14 i v) ra h k = bb D ra h k
  | 0 => rfl
  | k + 1 => by
    have ih := x_bb D i v ra h k
    show (if cn (dA D 14 i v) ra h (k + 1) < cn (dA D 14 i v) ra h (bb (dA D 14 i v) ra h k) then k + 1 else bb (dA D 14 i v) ra h k) = (if cn D ra h (k + 1) < cn D ra h (bb D ra h k) then k + 1 else bb D ra h k)
    rw [ih, x_cn, x_cn]
theorem x_bgn (D : Dt) (i v : Nat) (ra : Nat → Nat) (c : Nat) : bgn (dA D 14 i v) ra c = bgn D ra c := x_bb D i v ra (nI c) (La D ra (D.1 4))
theorem x_cst (D : Dt) (i v : Nat) (ra : Nat → Nat) (c k : Nat) : cst (dA D 14 i v) ra c k = cst D ra c k := by
  unfold cst
  rw [x_bgn, x_cn]
theorem x_stp (D : Dt) (i v : Nat) (ra : Nat → Nat) : stp (dA D 14 i v) ra = stp D ra := by
  funext A q
  unfold stp
  rw [x_cst, x_bgn, x_WR]
theorem x_xp (D : Dt) (i v : Nat) (ra : Nat → Nat) : xp (dA D 14 i v) ra = xp D ra := by
  unfold xp
  rw [x_stp]
  rfl
theorem dA_back (D : Dt) (i v : Nat) : dA (dA D 14 i v) 14 i (D.2 14 i) = D := by
  unfold dA
  refine Prod.ext rfl ?_
  funext a j
  by_cases e : a = 14
  · subst e
    by_cases e2 : j = i
    · subst e2; simp [va_up]
    · simp [va_up, e2]
  · simp [va_up, e]
theorem call_altered {D : Dt} {tx : Nat → Int32} {s : St} (h : Rel D tx s) (x1 x2 : Int32) : Ok (f_X10_altered x1 x2) (f_X11_altered x1 x2) s := by
  obtain ⟨hB, hR, hS⟩ := id h
  have hb : Bw D := Bd_w hB
  have hN := hb.1.2.2.2.2.1
  have hw : ∀ i, i < D.1 4 → D.2 13 i < D.1 2 := fun i hi => (hB.2.2.2.2.2 i hi).1
  have hle : ∀ i, i < D.1 4 → D.2 14 i ≤ 999 := fun i hi => (hB.2.2.2.2.2 i hi).2.1
  rcases three x1 (n := D.1 4) (by omega) with hx | ⟨i, hi, rfl⟩
  · refine rel0 h (r := -1) ?_ ?_
    · unfold f_X10_altered
      rw [hR.1 (35, 2, 4) (by decide)]
      by_cases n0 : x1 < 0
      · rw [if_pos n0]
      · rw [if_neg n0, if_pos (hx.resolve_left n0)]
    · unfold f_X11_altered
      rw [hS.1 (74, 32, 4) (by decide), inM0 (hx.imp id (pred_lt (by show D.1 4 < 2 ^ 31; omega))), bd_ok, if_pos rfl]
  · have hc1 : ∀ k : Option (Int32 × St), (if nI i < 0 then some (-1, s) else if rI s 35 2 ≤ nI i then some (-1, s) else k) = k := fun k => by
      rw [hR.1 (35, 2, 4) (by decide), if_neg (nI_pos (by omega)), if_neg (nI_ge (a := i) (b := D.1 4) hi (by omega))]
    have hm1 : ∀ t : St, RM D tx t → f_X11_in (nI i) 0 (rI t 74 32 - 1) t = some (1, t) := fun t ht => by
      rw [ht.1 (74, 32, 4) (by decide), inM1 (nI_pos (by omega)) (pred_nlt (n := D.1 4) (by omega) hi)]
    rcases sec3 x2 with hx | ⟨v, hv, rfl⟩
    · refine rel0 h (r := -1) ?_ ?_
      · unfold f_X10_altered
        rw [hc1, isSec0 hx, bd_ok, if_pos rfl]
      · unfold f_X11_altered
        rw [hm1 s hS, bd_ok, if_neg (by decide), inM0 hx, bd_ok, if_pos rfl]
    · have hb2 : Bw (dA D 14 i v) := hb
      have hra : ∀ j, j < D.1 4 → (if nI j = nI i then nI v else nI (D.2 14 j)) = nI ((dA D 14 i v).2 14 j) := fun j hj => by
        by_cases e : j = i
        · subst e; rw [if_pos rfl, dA_eq]
        · rw [if_neg (fun q => e ((nI_eq (by omega) (by omega)).mp q)), dA_nj e]
      have hle2 : ∀ j, j < D.1 4 → (dA D 14 i v).2 14 j ≤ 999 := fun j hj => by
        by_cases e : j = i
        · subst e; rw [dA_eq]; exact hv
        · rw [dA_nj e]; exact hle j hj
      obtain ⟨u, a1, a2, a3⟩ := search_c (x1 := nI i) (x2 := nI v) hR hb hw (ra := (dA D 14 i v).2 14) hra hle2
      have hSu : RM D tx u := RM_kpC hS a2.1 (by decide)
      have hRu := RC_x hR a2
      have hS2 : RM (dA D 14 i v) tx (wI u 95 i (nI v)) := RM_dA hSu (c := 95) (a := 14) (n := 4) (by decide)
      obtain ⟨t, b1, b2, b3⟩ := explains_m hS2 hb2 hw hle2
      rw [x_xp] at b3
      have hS3 : RM D tx (wI t 95 i (nI (D.2 14 i))) := by
        have := RM_dA (v := D.2 14 i) (RM_y hS2 b2) (c := 95) (a := 14) (n := 4) (j := i) (by decide)
        rw [dA_back] at this
        exact this
      have kk : Kp [74, 95, 97, 98] u (wI t 95 i (nI (D.2 14 i))) := Kp_wI (Kp.tr (Kp_wI Kp.rf (by decide) _ _) (b2.1.mono (by decide))) (by decide) _ _
      refine ⟨nI (xp D ((dA D 14 i v).2 14)).1, u, wI t 95 i (nI (D.2 14 i)), D, tx, ?_, ?_, hB, RC_kpM hRu kk (by decide), hS3⟩
      · unfold f_X10_altered
        rw [hc1, isSec1 hv, bd_ok, if_neg (by decide), a1, bd_ok, a3.1]
      · unfold f_X11_altered
        rw [hm1 u hSu, bd_ok, if_neg (by decide), inM1 (nI_pos (by omega)) (show ¬ (999 : Int32) < nI v from nI_nlt (a := 999) (b := v) hv (by omega)), bd_ok, if_neg (by decide)]
        show gi (nI i) 60 (gi (nI i) 60 (bd (f_X11_explains (wI u 95 (nI i).toNatClampNeg (nI v))) fun _ t => gi (nI i) 60 (some (rI (wI t 95 (nI i).toNatClampNeg (rI u 95 (nI i).toNatClampNeg)) 74 40, wI t 95 (nI i).toNatClampNeg (rI u 95 (nI i).toNatClampNeg))))) = _
        rw [gi_nI (lt_n hi hN) (by decide), gi_nI (lt_n hi hN) (by decide), cl_nI (n := i) (by omega), b1, bd_ok, gi_nI (lt_n hi hN) (by decide), gArrM hSu (c := 95) (a := 14) (n := 4) (by decide) hi, rI_nk (by decide), b3.1]
