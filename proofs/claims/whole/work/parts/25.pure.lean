/-! ===== counted bits; rest; count ===== -/
theorem hasBit_c (x : Int32) {j : Nat} (hj : j < 32) (s : St) : f_X10_hasBit x (nI j) s = some (if bt x j then 1 else 0, s) := by
  unfold f_X10_hasBit
  cases h : bt x j with
  | false => rw [if_pos ((b_at x hj).mpr h)]; rfl
  | true => rw [if_neg (fun q => by rw [(b_at x hj).mp q] at h; cases h)]; rfl
/-- the same bits as a plain number -/
def bitsN (p : Nat → Bool) : Nat → Nat
  | 0 => 0
  | n + 1 => bitsN p n + (if p n then 2 ^ n else 0)
theorem bitsN_lt (p : Nat → Bool) : ∀ n, bitsN p n < 2 ^ n
  | 0 => Nat.zero_lt_one
  | n + 1 => by
    have := bitsN_lt p n
    unfold bitsN
    rw [Nat.pow_succ]
    split <;> omega
theorem bitsN_test (p : Nat → Bool) : ∀ n i, (bitsN p n).testBit i = (decide (i < n) && p i)
  | 0, i => by simp [bitsN]
  | n + 1, i => by
    have ih := bitsN_test p n
    have hl := bitsN_lt p n
    unfold bitsN
    by_cases hp : p n = true
    · rw [if_pos hp, Nat.add_comm]
      by_cases h1 : i < n
      · rw [Nat.testBit_two_pow_add_gt h1, ih i]
        have : i < n + 1 := by omega
        simp [h1, this]
      · by_cases h2 : i = n
        · subst h2
          rw [Nat.testBit_two_pow_add_eq, ih i]
          simp [hp]
        · have h3 : ¬ i < n + 1 := by omega
          have : 2 ^ n + bitsN p n < 2 ^ i := by
            have h4 : 2 ^ (n + 1) ≤ 2 ^ i := Nat.pow_le_pow_right (by decide) (by omega)
            rw [Nat.pow_succ] at h4
            omega
          rw [Nat.testBit_lt_two_pow this]
          simp [h3]
    · have hp0 : p n = false := by simpa using hp
      rw [if_neg hp, Nat.add_zero, ih i]
      by_cases h2 : i = n
      · subst h2; simp [hp0]
      · by_cases h1 : i < n
        · have : i < n + 1 := by omega
          simp [h1, this]
        · have : ¬ i < n + 1 := by omega
          simp [h1, this]
theorem bt_nI {m : Nat} (i : Nat) (hi : i < 32) : bt (nI m) i = m.testBit i := by
  show (BitVec.ofNat 32 m).getLsbD i = _
  rw [BitVec.getLsbD_ofNat]
  simp [hi]
theorem bitsI_N (p : Nat → Bool) {n : Nat} (hn : n ≤ 31) : bitsI p n = nI (bitsN p n) := by
  apply b_ext
  intro i hi
  rw [b_bitsI p (by omega) i hi, bt_nI i hi, bitsN_test]
/-- Integer.bitCount -/
def bcI (x0 : Int32) : Int32 :=
  let x0_9 : Int32 := x0 - (((x0.toUInt32 >>> ((1 : Int32).toUInt32 &&& Int32.toUInt32 31)).toInt32) &&& 1431655765)
  let x0_23 : Int32 := (x0_9 &&& 858993459) + (((x0_9.toUInt32 >>> ((2 : Int32).toUInt32 &&& Int32.toUInt32 31)).toInt32) &&& 858993459)
  let x0_33 : Int32 := (x0_23 + ((x0_23.toUInt32 >>> ((4 : Int32).toUInt32 &&& Int32.toUInt32 31)).toInt32)) &&& 252645135
  let x0_40 : Int32 := x0_33 + ((x0_33.toUInt32 >>> ((8 : Int32).toUInt32 &&& Int32.toUInt32 31)).toInt32)
  let x0_47 : Int32 := x0_40 + ((x0_40.toUInt32 >>> ((16 : Int32).toUInt32 &&& Int32.toUInt32 31)).toInt32)
  x0_47 &&& 63
theorem bc_f (x : Int32) (s : St) : f_J6_bitCount_0f7a4 x s = some (bcI x, s) := rfl
theorem bc_tab : (List.range 4096).all (fun n => decide (bcI (nI n) = nI (fb_ct (fun i => n.testBit i) 12))) = true := by decide +kernel
theorem bc_nI {n : Nat} (h : n < 4096) : bcI (nI n) = nI (fb_ct (fun i => n.testBit i) 12) := by
  have := List.all_eq_true.mp bc_tab n (List.mem_range.mpr h)
  simpa using this
theorem ct_cut (p : Nat → Bool) {n : Nat} (hn : n ≤ 12) : fb_ct (fun i => decide (i < n) && p i) 12 = fb_ct p n := by
  have e : (12 : Nat) = n + (12 - n) := by omega
  rw [e, fb_ct_split]
  have h1 : fb_ct (fun i => decide (i < n) && p i) n = fb_ct p n := fb_ct_cong (fun k hk => by simp [hk])
  have h2 : fb_ct (fun k => decide (n + k < n) && p (n + k)) (n + (12 - n) - n) = 0 := fb_ct_zero.mpr (fun k _ => by
    have : ¬ n + k < n := by omega
    simp [this])
  have e2 : n + (12 - n) - n = 12 - n := by omega
  rw [e2] at h2
  omega
theorem bc_bits (p : Nat → Bool) {n : Nat} (hn : n ≤ 12) : bcI (bitsI p n) = nI (fb_ct p n) := by
  rw [bitsI_N p (by omega), bc_nI]
  · rw [← ct_cut p hn]
    congr 1
    exact fb_ct_cong (fun k _ => bitsN_test p n k)
  · have h1 := bitsN_lt p n
    have h2 : 2 ^ n ≤ 2 ^ 12 := Nat.pow_le_pow_right (by decide) hn
    have : (2 : Nat) ^ 12 = 4096 := by decide
    omega
theorem RM_rest {D : Dt} {tx : Nat → Int32} {s : St} (hm : RM D tx s) {j v : Nat} : RM (dA D 10 j v) tx (wI s 93 j (nI v)) := RM_dA hm (c := 93) (a := 10) (n := 3) (by decide)
theorem call_rest {D : Dt} {tx : Nat → Int32} {s : St} (h : Rel D tx s) (x1 x2 : Int32) (h2 : x2 = 0 ∨ x2 = 1) : Ok (f_X10_rest x1 x2) (f_X11_rest x1 x2) s := by
  obtain ⟨hb, hc, hm⟩ := id h
  have hR := hb.1.2.2.2.1
  obtain ⟨v, hv, rfl⟩ : ∃ v : Nat, v ≤ 1 ∧ x2 = nI v := by
    rcases h2 with rfl | rfl
    · exact ⟨0, by omega, rfl⟩
    · exact ⟨1, by omega, rfl⟩
  rcases three x1 (n := D.1 3) (by omega) with hx | ⟨j, hj, rfl⟩
  · refine rel0 h (r := 0) ?_ ?_
    · unfold f_X10_rest
      rw [hc.1 (8, 3, 3) (by decide)]
      by_cases h0 : x1 < 0
      · rw [if_pos h0]
      · rw [if_neg h0, if_pos (hx.resolve_left h0)]
    · unfold f_X11_rest
      rw [hm.1 (74, 29, 3) (by decide), inM0 (hx.imp id (pred_lt (by show D.1 3 < 2 ^ 31; omega))), bd_ok, if_pos rfl]
  · have hrs := (hb.2.2.2.2.1 j hj).2.2.2
    have hbt : bt (rI s 32 4) j = decide (D.2 10 j = 1) := by
      rw [hc.2.2.2.1, b_bitsI _ (by omega) j (by omega)]
      simp [hj]
    have hbit : (if bt (rI s 32 4) j then (1 : Int32) else 0) = nI (D.2 10 j) := by
      rw [hbt]
      rcases (show D.2 10 j = 0 ∨ D.2 10 j = 1 by omega) with e | e <;> rw [e] <;> decide
    have hc1 : ∀ k : St → Option (Int32 × St), (if nI j < 0 then some (0, s) else if rI s 8 3 ≤ nI j then some (0, s) else k s) = k s := fun k => by
      rw [hc.1 (8, 3, 3) (by decide), if_neg (nI_pos (by omega)), if_neg (nI_ge (a := j) (b := D.1 3) hj (by omega))]
    by_cases e : D.2 10 j = v
    · refine rel0 h (r := 0) ?_ ?_
      · unfold f_X10_rest
        rw [hc1 (fun s => bd (f_X10_hasBit (rI s 32 4) (nI j) s) _), hasBit_c _ (by omega), bd_ok, hbit, e, if_pos rfl]
      · unfold f_X11_rest
        rw [hm.1 (74, 29, 3) (by decide), inM1 (nI_pos (by omega)) (pred_nlt (n := D.1 3) (by omega) hj), bd_ok, if_neg (by decide), gi_nI (lt_n hj hR) (by decide), cl_nI (by omega), gArrM hm (c := 93) (a := 10) (n := 3) (by decide) hj, e, if_pos rfl]
    · have hne : ¬ nI (D.2 10 j) = nI v := fun q => e ((nI_eq (by omega) (by omega)).mp q)
      refine ⟨1, wI s 32 4 (rI s 32 4 ^^^ ((1 : Int32) <<< (nI j &&& 31))), wI (wI s 32 4 (rI s 32 4 ^^^ ((1 : Int32) <<< (nI j &&& 31)))) 93 j (nI v), dA D 10 j v, tx, ?_, ?_, ?_, ?_, ?_⟩
      · unfold f_X10_rest
        rw [hc1 (fun s => bd (f_X10_hasBit (rI s 32 4) (nI j) s) _), hasBit_c _ (by omega), bd_ok, hbit, if_neg hne]
      · have hm1 : RM D tx (wI s 32 4 (rI s 32 4 ^^^ ((1 : Int32) <<< (nI j &&& 31)))) := RM_ext hm (wI_hi (by decide))
        have hnz : vp_nar .boolean (nI v) = nI v := by
          rcases (show v = 0 ∨ v = 1 by omega) with e | e <;> subst e <;> decide
        unfold f_X11_rest
        rw [hm1.1 (74, 29, 3) (by decide), inM1 (nI_pos (by omega)) (pred_nlt (n := D.1 3) (by omega) hj), bd_ok, if_neg (by decide), gi_nI (lt_n hj hR) (by decide), cl_nI (by omega), gArrM hm1 (c := 93) (a := 10) (n := 3) (by decide) hj, if_neg hne, gi_nI (lt_n hj hR) (by decide), hnz]
      · obtain ⟨h1, h2, h3, h4, h5, h6⟩ := hb
        refine ⟨h1, fun p hp => ?_, fun a ha => ?_, fun w hw => ?_, fun r hr => ?_, fun i hi => ?_⟩
        · rw [dA_ne (by decide)]; exact h2 p hp
        · rw [dA_ne (by decide), dA_ne (by decide), dA_ne (by decide)]; exact h3 a ha
        · rw [dA_ne (by decide), dA_ne (by decide), dA_ne (by decide), dA_ne (by decide), dA_ne (by decide), dA_ne (by decide), dA_ne (by decide)]; exact h4 w hw
        · have := h5 r hr
          refine ⟨by rw [dA_ne (by decide)]; exact this.1, by rw [dA_ne (by decide)]; exact this.2.1, by rw [dA_ne (by decide)]; exact this.2.2.1, ?_⟩
          by_cases er : r = j
          · subst er; rw [dA_eq]; exact hv
          · rw [dA_nj er]; exact this.2.2.2
        · have := h6 i hi
          refine ⟨by rw [dA_ne (by decide)]; exact this.1, by rw [dA_ne (by decide)]; exact this.2.1, fun j1 hj1 => ?_⟩
          rw [dA_ne (by decide), dA_ne (by decide)]; exact this.2.2 j1 hj1
      · refine RC_ext ?_ (wI_lo (by decide))
        obtain ⟨k1, k2, k3, k4, k5⟩ := hc
        refine ⟨fun q hq => ?_, fun q hq i hi => ?_, fun i hi => ?_, ?_, fun i hi => ?_⟩
        · rw [rI_nk]
          · exact k1 q hq
          · simp only [scalC, List.mem_cons, List.not_mem_nil, or_false] at hq
            rcases hq with rfl | rfl | rfl | rfl | rfl | rfl | rfl | rfl <;> decide
        · rw [rI_nk, dA_ne]
          · exact k2 q hq i hi
          · simp only [arrC, List.mem_cons, List.not_mem_nil, or_false] at hq
            rcases hq with rfl | rfl | rfl | rfl | rfl | rfl | rfl | rfl | rfl | rfl | rfl | rfl <;> decide
          · simp only [arrC, List.mem_cons, List.not_mem_nil, or_false] at hq
            rcases hq with rfl | rfl | rfl | rfl | rfl | rfl | rfl | rfl | rfl | rfl | rfl | rfl <;> decide
        · rw [rI_nk (by decide), dA_ne (by decide)]; exact k3 i hi
        · rw [rI_same, k4]
          show _ = bitsI (fun r => decide ((dA D 10 j v).2 10 r = 1)) (D.1 3)
          apply b_ext
          intro i hi
          rw [b_xor, b_bitsI _ (by omega) i hi, b_one (by omega) hi, b_bitsI _ (by omega) i hi]
          by_cases ei : i = j
          · subst ei
            rw [dA_eq]
            rcases (show (D.2 10 i = 0 ∧ v = 1) ∨ (D.2 10 i = 1 ∧ v = 0) by omega) with q | q <;> simp [hj, q.1, q.2]
          · rw [dA_nj ei]
            simp [ei]
        · rw [rI_nk (by decide)]; exact k5 i hi
      · exact RM_rest (RM_ext hm (wI_hi (by decide)))
theorem countStuck_l {D : Dt} {tx : Nat → Int32} {s : St} (hc : RC D tx s) (hb : Bd D) : ∀ (d i n : Nat), i + d = D.1 2 → d < n → l_X2_countStuck_4 n (nI (fb_ct (fun w => decide (D.2 9 w ≠ 0)) i)) (nI i) s = some (nI (fb_ct (fun w => decide (D.2 9 w ≠ 0)) (D.1 2)), s) := by
  have hW := hb.1.2.2.1
  intro d
  induction d with
  | zero =>
    intro i n hi hn
    obtain ⟨n, rfl⟩ : ∃ m, n = m + 1 := ⟨n - 1, by omega⟩
    show b_X2_countStuck_4 (l_X2_countStuck_4 n) _ (nI i) s = _
    unfold b_X2_countStuck_4
    rw [hc.1 (8, 2, 2) (by decide), show i = D.1 2 by omega, if_pos (nI_le (Nat.le_refl (D.1 2)) (by omega))]
  | succ d ih =>
    intro i n hi hn
    obtain ⟨n, rfl⟩ : ∃ m, n = m + 1 := ⟨n - 1, by omega⟩
    show b_X2_countStuck_4 (l_X2_countStuck_4 n) _ (nI i) s = _
    have hlt : i < D.1 2 := by omega
    have hnext := ih (i + 1) n (by omega) (by omega)
    unfold b_X2_countStuck_4
    rw [hc.1 (8, 2, 2) (by decide), if_neg (nI_ge (a := i) (b := D.1 2) hlt (by omega)), gi_nI (lt_n hlt hW) (by decide), cl_nI (by omega), gArr hc (c := 33) (a := 9) (n := 2) (by decide) hlt]
    have h9 := (hb.2.2.2.1 i hlt).2.2.1
    by_cases h0 : D.2 9 i = 0
    · rw [if_pos (by rw [h0]; rfl)]
      show l_X2_countStuck_4 n _ (nI i + 1) s = _
      rw [nI_1, ← hnext, fb_ct_succ, if_neg (by simp [h0])]
      rfl
    · rw [if_neg (nI_ne0 (by omega) (by omega))]
      show l_X2_countStuck_4 n (nI _ + 1) (nI i + 1) s = _
      rw [nI_1, nI_1, ← hnext, fb_ct_succ, if_pos (by simp [h0])]
theorem count110_l {D : Dt} {tx : Nat → Int32} {s : St} (hm : RM D tx s) (hb : Bd D) : ∀ (d i n : Nat), i + d = D.1 2 → d < n → l_X11_count_110 n (nI (fb_ct (fun w => decide (D.2 9 w ≠ 0)) i)) (nI i) s = some (nI (fb_ct (fun w => decide (D.2 9 w ≠ 0)) (D.1 2)), s) := by
  have hW := hb.1.2.2.1
  intro d
  induction d with
  | zero =>
    intro i n hi hn
    obtain ⟨n, rfl⟩ : ∃ m, n = m + 1 := ⟨n - 1, by omega⟩
    show b_X11_count_110 (l_X11_count_110 n) _ (nI i) s = _
    unfold b_X11_count_110
    rw [hm.1 (74, 24, 2) (by decide), show i = D.1 2 by omega, if_pos (nI_le (Nat.le_refl (D.1 2)) (by omega))]
  | succ d ih =>
    intro i n hi hn
    obtain ⟨n, rfl⟩ : ∃ m, n = m + 1 := ⟨n - 1, by omega⟩
    show b_X11_count_110 (l_X11_count_110 n) _ (nI i) s = _
    have hlt : i < D.1 2 := by omega
    have hnext := ih (i + 1) n (by omega) (by omega)
    unfold b_X11_count_110
    rw [hm.1 (74, 24, 2) (by decide), if_neg (nI_ge (a := i) (b := D.1 2) hlt (by omega)), gi_nI (lt_n hlt hW) (by decide), cl_nI (by omega), gArrM hm (c := 90) (a := 9) (n := 2) (by decide) hlt]
    have h9 := (hb.2.2.2.1 i hlt).2.2.1
    by_cases h0 : D.2 9 i = 0
    · rw [if_pos (by rw [h0]; rfl)]
      show l_X11_count_110 n (nI _ + 0) (nI i + 1) s = _
      rw [show ∀ x : Int32, x + 0 = x from Int32.add_zero, nI_1, ← hnext, fb_ct_succ, if_neg (by simp [h0])]
      rfl
    · rw [if_neg (nI_ne0 (by omega) (by omega))]
      show l_X11_count_110 n (nI _ + 1) (nI i + 1) s = _
      rw [nI_1, nI_1, ← hnext, fb_ct_succ, if_pos (by simp [h0])]
theorem count75_l {D : Dt} {tx : Nat → Int32} {s : St} (hm : RM D tx s) (hb : Bd D) : ∀ (d i n : Nat), i + d = D.1 3 → d < n → l_X11_count_75 n (nI (fb_ct (fun r => decide (D.2 10 r = 1)) i)) (nI i) s = some (nI (fb_ct (fun r => decide (D.2 10 r = 1)) (D.1 3)), s) := by
  have hR := hb.1.2.2.2.1
  intro d
  induction d with
  | zero =>
    intro i n hi hn
    obtain ⟨n, rfl⟩ : ∃ m, n = m + 1 := ⟨n - 1, by omega⟩
    show b_X11_count_75 (l_X11_count_75 n) _ (nI i) s = _
    unfold b_X11_count_75
    rw [hm.1 (74, 29, 3) (by decide), show i = D.1 3 by omega, if_pos (nI_le (Nat.le_refl (D.1 3)) (by omega))]
  | succ d ih =>
    intro i n hi hn
    obtain ⟨n, rfl⟩ : ∃ m, n = m + 1 := ⟨n - 1, by omega⟩
    show b_X11_count_75 (l_X11_count_75 n) _ (nI i) s = _
    have hlt : i < D.1 3 := by omega
    have hnext := ih (i + 1) n (by omega) (by omega)
    unfold b_X11_count_75
    rw [hm.1 (74, 29, 3) (by decide), if_neg (nI_ge (a := i) (b := D.1 3) hlt (by omega)), gi_nI (lt_n hlt hR) (by decide), cl_nI (by omega), gArrM hm (c := 93) (a := 10) (n := 3) (by decide) hlt]
    have h9 := (hb.2.2.2.2.1 i hlt).2.2.2
    by_cases h0 : D.2 10 i = 0
    · rw [if_pos (by rw [h0]; rfl)]
      show l_X11_count_75 n (nI _ + 0) (nI i + 1) s = _
      rw [show ∀ x : Int32, x + 0 = x from Int32.add_zero, nI_1, ← hnext, fb_ct_succ, if_neg (by simp [h0])]
      rfl
    · rw [if_neg (nI_ne0 (by omega) (by omega))]
      show l_X11_count_75 n (nI _ + 1) (nI i + 1) s = _
      rw [nI_1, nI_1, ← hnext, fb_ct_succ, if_pos (by simp; omega)]
theorem call_count {D : Dt} {tx : Nat → Int32} {s : St} (h : Rel D tx s) (x : Int32) : Ok (f_X10_count x) (f_X11_count x) s := by
  obtain ⟨hb, hc, hm⟩ := id h
  have hW := hb.1.2.2.1
  have hR := hb.1.2.2.2.1
  by_cases h0 : x = 0
  · subst h0
    exact rel0 h (r := nI (D.1 0)) (by unfold f_X10_count; rw [if_pos rfl, hc.1 (8, 0, 0) (by decide)]) (by unfold f_X11_count; rw [if_pos rfl, hm.1 (74, 18, 0) (by decide)])
  by_cases h1 : x = 1
  · subst h1
    exact rel0 h (r := nI (D.1 1)) (by unfold f_X10_count; rw [if_neg h0, if_pos rfl, hc.1 (8, 1, 1) (by decide)]) (by unfold f_X11_count; rw [if_neg h0, if_pos rfl, hm.1 (74, 20, 1) (by decide)])
  by_cases h2 : x = 2
  · subst h2
    exact rel0 h (r := nI (D.1 2)) (by unfold f_X10_count; rw [if_neg h0, if_neg h1, if_pos rfl, hc.1 (8, 2, 2) (by decide)]) (by unfold f_X11_count; rw [if_neg h0, if_neg h1, if_pos rfl, hm.1 (74, 24, 2) (by decide)])
  by_cases h3 : x = 3
  · subst h3
    exact rel0 h (r := nI (D.1 3)) (by unfold f_X10_count; rw [if_neg h0, if_neg h1, if_neg h2, if_pos rfl, hc.1 (8, 3, 3) (by decide)]) (by unfold f_X11_count; rw [if_neg h0, if_neg h1, if_neg h2, if_pos rfl, hm.1 (74, 29, 3) (by decide)])
  by_cases h4 : x = 4
  · subst h4
    exact rel0 h (r := nI (D.1 4)) (by unfold f_X10_count; rw [if_neg h0, if_neg h1, if_neg h2, if_neg h3, if_pos rfl, hc.1 (35, 2, 4) (by decide)]) (by unfold f_X11_count; rw [if_neg h0, if_neg h1, if_neg h2, if_neg h3, if_pos rfl, hm.1 (74, 32, 4) (by decide)])
  by_cases h5 : x = 5
  · subst h5
    exact rel0 h (r := nI (fb_ct (fun r => decide (D.2 10 r = 1)) (D.1 3))) (by unfold f_X10_count; rw [if_neg h0, if_neg h1, if_neg h2, if_neg h3, if_neg h4, if_pos rfl, bc_f, bd_ok, hc.2.2.2.1, bc_bits _ (by omega)]) (by unfold f_X11_count; rw [if_neg h0, if_neg h1, if_neg h2, if_neg h3, if_neg h4, if_pos rfl]; exact count75_l hm hb (D.1 3) 0 FU (by omega) (FU_lt (by omega)))
  by_cases h6 : x = 6
  · subst h6
    exact rel0 h (r := nI (fb_ct (fun w => decide (D.2 9 w ≠ 0)) (D.1 2))) (by unfold f_X10_count; rw [if_neg h0, if_neg h1, if_neg h2, if_neg h3, if_neg h4, if_neg h5, if_pos rfl, show f_X2_countStuck s = _ from countStuck_l hc hb (D.1 2) 0 FU (by omega) (FU_lt (by omega)), bd_ok]) (by unfold f_X11_count; rw [if_neg h0, if_neg h1, if_neg h2, if_neg h3, if_neg h4, if_neg h5, if_pos rfl]; exact count110_l hm hb (D.1 2) 0 FU (by omega) (FU_lt (by omega)))
  by_cases h7 : x = 7
  · subst h7
    exact rel0 h (r := nI (D.1 7)) (by unfold f_X10_count; rw [if_neg h0, if_neg h1, if_neg h2, if_neg h3, if_neg h4, if_neg h5, if_neg h6, if_pos rfl, hc.1 (1, 1, 7) (by decide)]) (by unfold f_X11_count; rw [if_neg h0, if_neg h1, if_neg h2, if_neg h3, if_neg h4, if_neg h5, if_neg h6, if_pos rfl, hm.1 (74, 1, 7) (by decide)])
  · exact rel0 h (r := -1) (by unfold f_X10_count; rw [if_neg h0, if_neg h1, if_neg h2, if_neg h3, if_neg h4, if_neg h5, if_neg h6, if_neg h7]) (by unfold f_X11_count; rw [if_neg h0, if_neg h1, if_neg h2, if_neg h3, if_neg h4, if_neg h5, if_neg h6, if_neg h7])
