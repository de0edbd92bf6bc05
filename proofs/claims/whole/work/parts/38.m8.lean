/-! the reference: drill -/
theorem in_16 {n : Int32} : (lN 1 ≤ n.toInt64 ∧ n.toInt64 ≤ lN 6) ↔ ∃ k, 0 < k ∧ k < 7 ∧ n = nI k := by
  have h9 := isR_iff (n := 7) (x := n) (by decide)
  rw [Int64.le_iff_toInt_le, Int64.le_iff_toInt_le, pk_lT (by decide), pk_lT (by decide), Int32.toInt_toInt64]
  constructor
  · intro h
    have h2 : isR 7 n := h9.mpr ⟨by rw [Int32.le_iff_toInt_le]; have e0 : (0 : Int32).toInt = 0 := by decide
                                    omega, by rw [Int32.lt_iff_toInt_lt, nI_toInt (by decide)]; omega⟩
    obtain ⟨k, hk, rfl⟩ := h2
    rw [nI_toInt (by omega)] at h
    exact ⟨k, by omega, hk, rfl⟩
  · rintro ⟨k, h0, h1, rfl⟩
    rw [nI_toInt (by omega)]
    omega
theorem isR_lt {x : Nat} (h : isR 5 (nI x)) (hx : x < 2147483648) : x < 5 := by
  obtain ⟨k, hk, e⟩ := h
  have := (nI_eq hx (by omega)).mp e
  omega
theorem dg_10 (x : Nat) : x % 10 < 10 := Nat.mod_lt _ (by decide)
section
variable {n1 i w k rk m1 i3 i2 : Nat} {kd tn : Nat → Nat} {row : Int32} {pg t2 q1 q2 t3 : Nat → Int32} {sd e2 e3 : Int64}
theorem dr_r (h : n1 < 7) (z : ∃ n2, 0 < n2 ∧ n2 < 7 ∧ nI n1 = nI n2 ∧ rowOk n2 row) : isR (10 ^ n1) row := by
  obtain ⟨n2, h0, h7, e, w, hw, e2, h3, -⟩ := z
  have := (nI_eq (by omega) (by omega)).mp e
  subst this
  exact ⟨w, h3, e2⟩
theorem dr_d (h : i < n1) (h7 : n1 < 7) (hw : w < 10 ^ n1) (hp : 10 ^ n1 ≤ 1000000) (z : ∃ n2, 0 < n2 ∧ n2 < 7 ∧ nI n1 = nI n2 ∧ rowOk n2 (nI w)) : isR 5 (nI (w / 10 ^ (n1 - 1 - i) % 10)) := by
  obtain ⟨n2, h0, h27, e, w2, hw2, e2, -, h4⟩ := z
  have := (nI_eq (by omega) (by omega)).mp e
  subst this
  have := (nI_eq (by omega) (by omega)).mp e2
  subst this
  exact ⟨_, h4 (n1 - 1 - i) (by omega), rfl⟩
theorem dr_p (h : i < n1) : lN (10 ^ (n1 - i) / 10) = lN (10 ^ (n1 - 1 - i)) := by
  rw [show n1 - i = (n1 - 1 - i) + 1 by omega, Nat.pow_succ, Nat.mul_div_cancel _ (by decide)]
theorem dr_n (h : ∀ j, j < n1 → w / 10 ^ (n1 - 1 - j) % 10 < 5) : ∀ j, j < n1 → w / 10 ^ j % 10 < 5 := by
  intro j hj
  have := h (n1 - 1 - j) (by omega)
  rwa [show n1 - 1 - (n1 - 1 - j) = j by omega] at this
theorem dr_v (h : ∀ z, z < 50 → t2 z = pg z) : vOf t2 = vOf pg := by
  funext f j
  unfold vOf
  by_cases c : f < 7 ∧ j < 7
  · rw [if_pos c, if_pos c]; exact h _ (by omega)
  · rw [if_neg c, if_neg c]
theorem dr_c (h : ∀ z, z < 50 → t2 z = pg z) : AgR rk (vOf t2) (vOf pg) := by
  rw [dr_v h]; exact ag_refl
theorem dr_o (h : ∀ z, z < 50 → t2 z = pg z) (ho : ¬ vOf pg 6 0 = 0 → vOf pg 5 0 = -9) : ¬ vOf t2 6 0 = 0 → vOf t2 5 0 = -9 := by
  rw [dr_v h]; exact ho
theorem dr_a (ha : AgR rk (vOf t2) (drL kd tn rk w n1 i2 (vOf pg, sd)).1) (he : e2 = (drL kd tn rk w n1 i2 (vOf pg, sd)).2) (h1 : vOf q1 = giveV (kd 0) (vOf t2) (w / 10 ^ (n1 - 1 - i2) % 10)) (h2 : AgR rk (vOf q2) (minV kd tn rk (vOf q1) e2)) (hr : 0 < rk) : AgR rk (vOf q2) (drL kd tn rk w n1 (i2 + 1) (vOf pg, sd)).1 := by
  rw [drL, ← he]
  refine ag_trans h2 ?_
  rw [h1]
  exact ag_min (ag_give ha hr)
theorem dr_b (ha : AgR rk (vOf t2) (drL kd tn rk w n1 i2 (vOf pg, sd)).1) (he : e2 = (drL kd tn rk w n1 i2 (vOf pg, sd)).2) (h1 : vOf q1 = giveV (kd 0) (vOf t2) (w / 10 ^ (n1 - 1 - i2) % 10)) (hr : 0 < rk) : minS kd tn rk (vOf q1) e2 = (drL kd tn rk w n1 (i2 + 1) (vOf pg, sd)).2 := by
  rw [drL, ← he, h1]
  exact ag_minS (ag_give ha hr)
theorem dr_e (h : AgR rk (vOf t2) (drL kd tn rk w n1 i2 (vOf pg, sd)).1) (e : i2 = n1) : AgR rk (vOf t2) (drM kd tn rk 0 (drL kd tn rk w n1 n1 (vOf pg, sd))).1 := by
  rw [e] at h; exact h
theorem dr_f (h : e2 = (drL kd tn rk w n1 i2 (vOf pg, sd)).2) (e : i2 = n1) : e2 = (drM kd tn rk 0 (drL kd tn rk w n1 n1 (vOf pg, sd))).2 := by
  rw [e] at h; exact h
theorem dr_g {q : (Nat → Nat → Int32) × Int64} (ha : AgR rk (vOf t3) (drM kd tn rk i3 q).1) (he : e3 = (drM kd tn rk i3 q).2) (h2 : AgR rk (vOf q2) (minV kd tn rk (vOf t3) e3)) : AgR rk (vOf q2) (drM kd tn rk (i3 + 1) q).1 := by
  rw [drM, ← he]
  exact ag_trans h2 (ag_min ha)
theorem dr_h {q : (Nat → Nat → Int32) × Int64} (ha : AgR rk (vOf t3) (drM kd tn rk i3 q).1) (he : e3 = (drM kd tn rk i3 q).2) : minS kd tn rk (vOf t3) e3 = (drM kd tn rk (i3 + 1) q).2 := by
  rw [drM, ← he]
  exact ag_minS ha
theorem dr_z {q : (Nat → Nat → Int32) × Int64} (ha : AgR rk (vOf t3) (drM kd tn rk i3 q).1) (e : i3 = m1) (hk : k < rk) (h7 : k < 7) : nI 1000 * (nI 1000 + t3 (21 + k)) + t3 (28 + k) = drR k (drM kd tn rk m1 q).1 := by
  subst e
  rw [← ag_drR ha hk, drR, vp3 h7, vp4 h7]
end
set_option maxHeartbeats 4000000 in
set_option maxRecDepth 100000 in
theorem c_X10_drill {l : Launch} {G : va_G} {cI cJ cZ cS : ClassId} (g : Nat → Nat) (ts : Nat) (pl : Nat) (rk : Nat) (sl : Nat) (rr : Nat) (rs : Nat) (ac : Nat) (tc : Nat) (sd : Int64) (td9 : Int64) (kd : Nat → Nat) (tn : Nat → Nat) (pg : Nat → Int32) (tw : Nat → Int32) (th : Nat → Int32) (r : Int32) (n : Int32) (row : Int32) (q : Int32) (hrk : rk < 8) (hok : ArmyOk kd tn) (hdg : ∀ k u, k < 7 → u < 5 → slT tn k u u = 0) (hsc : SceneOk rk (vOf pg)) (hso : 0 < rk → ¬ vOf pg 6 0 = 0 → vOf pg 5 0 = -9) : CI l G (kT cI cJ cZ cS) (S := (Nat → Int32) × Int64 × (Nat → Int32)) yX10_drill wsX10_drill { frames := 3, cells := 0, slots := 0, locals := 73 } [.ref (g 0), .int r, .int n, .int row, .int q] [(g 0, .inr (10, [.int (nI 0), .ref (g 1), .int (nI ts), .int (nI pl), .int (nI rk), .ref (g 5), .int (nI sl), .ref (g 7), .int (nI rr), .int (nI rs), .ref (g 10), .ref (g 11), .ref (g 12), .long sd, .ref (g 14), .ref (g 15), .int (nI ac), .ref (g 17), .ref (g 18), .ref (g 19), .int (nI tc), .ref (g 21), .ref (g 22), .ref (g 23), .ref (g 24), .long td9, .ref (g 26), .ref (g 27), .ref (g 28), .ref (g 29), .ref (g 30)])), (g 5, .inl (cI, 7, .inl (fun i9 => nI (kd i9)))), (g 7, .inl (cI, 175, .inl (fun i9 => nI (tn i9)))), (g 12, .inl (cI, 50, .inl pg)), (g 24, .inl (cI, 50, .inl tw)), (g 26, .inl (cI, 7, .inl th))] (fun res uu9 => match uu9 with | (tw1, te1, th1) => DrP kd tn rk (vOf pg) sd r n row q res) (fun uu9 => match uu9 with | (tw1, te1, th1) => [(g 0, .inr (10, [.int (nI 0), .ref (g 1), .int (nI ts), .int (nI pl), .int (nI rk), .ref (g 5), .int (nI sl), .ref (g 7), .int (nI rr), .int (nI rs), .ref (g 10), .ref (g 11), .ref (g 12), .long sd, .ref (g 14), .ref (g 15), .int (nI ac), .ref (g 17), .ref (g 18), .ref (g 19), .int (nI tc), .ref (g 21), .ref (g 22), .ref (g 23), .ref (g 24), .long te1, .ref (g 26), .ref (g 27), .ref (g 28), .ref (g 29), .ref (g 30)])), (g 5, .inl (cI, 7, .inl (fun i9 => nI (kd i9)))), (g 7, .inl (cI, 175, .inl (fun i9 => nI (tn i9)))), (g 12, .inl (cI, 50, .inl pg)), (g 24, .inl (cI, 50, .inl tw1)), (g 26, .inl (cI, 7, .inl th1))]) := by
  refine CI.of (cc := cX10_drill) (maxL := 8) (by decide) rfl (Nat.le_of_ble_eq_true rfl) ?_
  intro p9 e9 s m below meth co9 A ls hB
  obtain ⟨hx, hb, hml, hr, hts, hown, hlocks, hmn, hK, hP, hD, hS, hA, hl⟩ := hB
  have hP : va_P G vwCl [(g 0, .inr (10, [.int (nI 0), .ref (g 1), .int (nI ts), .int (nI pl), .int (nI rk), .ref (g 5), .int (nI sl), .ref (g 7), .int (nI rr), .int (nI rs), .ref (g 10), .ref (g 11), .ref (g 12), .long sd, .ref (g 14), .ref (g 15), .int (nI ac), .ref (g 17), .ref (g 18), .ref (g 19), .int (nI tc), .ref (g 21), .ref (g 22), .ref (g 23), .ref (g 24), .long td9, .ref (g 26), .ref (g 27), .ref (g 28), .ref (g 29), .ref (g 30)])), (g 5, .inl (cI, 7, .inl (fun i9 => nI (kd i9)))), (g 7, .inl (cI, 175, .inl (fun i9 => nI (tn i9)))), (g 12, .inl (cI, 50, .inl pg)), (g 24, .inl (cI, 50, .inl tw)), (g 26, .inl (cI, 7, .inl th))] s.heap := hP
  have hD : va_D A [(g 0, .inr (10, [.int (nI 0), .ref (g 1), .int (nI ts), .int (nI pl), .int (nI rk), .ref (g 5), .int (nI sl), .ref (g 7), .int (nI rr), .int (nI rs), .ref (g 10), .ref (g 11), .ref (g 12), .long sd, .ref (g 14), .ref (g 15), .int (nI ac), .ref (g 17), .ref (g 18), .ref (g 19), .int (nI tc), .ref (g 21), .ref (g 22), .ref (g 23), .ref (g 24), .long td9, .ref (g 26), .ref (g 27), .ref (g 28), .ref (g 29), .ref (g 30)])), (g 5, .inl (cI, 7, .inl (fun i9 => nI (kd i9)))), (g 7, .inl (cI, 175, .inl (fun i9 => nI (tn i9)))), (g 12, .inl (cI, 50, .inl pg)), (g 24, .inl (cI, 50, .inl tw)), (g 26, .inl (cI, 7, .inl th))] := hD
  have hl : lv_has ls 8 [(0, .ref (g 0)), (1, .int r), (2, .int n), (3, .int row), (4, .int q)] := hl
  have k_0 := hts (.fieldLink RX10 72 "HearsayMarchModel" "thrown" "I") (by decide +kernel)
  have k_1 := hts (.constantLong RX10 223 (6)) (by decide +kernel)
  have k_2 := hts (.constantLong RX10 225 (9)) (by decide +kernel)
  have k_3 := hts (.fieldLink RX10 146 "HearsayMarchModel" "seed" "J") (by decide +kernel)
  have k_4 := hts (.fieldLink RX10 161 "HearsayMarchModel" "triedSeed" "J") (by decide +kernel)
  have k_5 := hts (.fieldLink RX10 54 "HearsayMarchModel" "tried" "[I") (by decide +kernel)
  have k_6 := hts (.constantLong RX10 168 (10)) (by decide +kernel)
  have k_7 := hts (.fieldLink RX10 25 "HearsayMarchModel" "page" "[I") (by decide +kernel)
  have hin10 : ∀ w ∈ wsX100, w ∈ wsX10_drill := by decide +kernel
  refine lv_aload_n hx hb dX10_drill_0 rfl (lv_at hl 0 rfl) ?_
  refine lv_iconst (v := nI 0) hx hb dX10_drill_1 (by decide) ?_
  refine va_put (D := G) (ci := 10) (v := .int (nI 0)) (ty := tyX10 0) (C := RX10) (T := TX10) (N := 31) hx hb hts hin10 tyX10 tyX10_ok nmX10 hown hK.1 hP hD hS 0 rfl rfl 0 (by decide) k_0 (fun _ h9 => h9) rfl (by decide +kernel) rfl rfl (Nat.le_of_ble_eq_true rfl) dX10_drill_2 (fun H locs hP hD hS => ?_)
  have hP : va_P G vwCl [(g 0, .inr (10, [.int (nI 0), .ref (g 1), .int (nI ts), .int (nI pl), .int (nI rk), .ref (g 5), .int (nI sl), .ref (g 7), .int (nI rr), .int (nI rs), .ref (g 10), .ref (g 11), .ref (g 12), .long sd, .ref (g 14), .ref (g 15), .int (nI ac), .ref (g 17), .ref (g 18), .ref (g 19), .int (nI tc), .ref (g 21), .ref (g 22), .ref (g 23), .ref (g 24), .long td9, .ref (g 26), .ref (g 27), .ref (g 28), .ref (g 29), .ref (g 30)])), (g 5, .inl (cI, 7, .inl (fun i9 => nI (kd i9)))), (g 7, .inl (cI, 175, .inl (fun i9 => nI (tn i9)))), (g 12, .inl (cI, 50, .inl pg)), (g 24, .inl (cI, 50, .inl tw)), (g 26, .inl (cI, 7, .inl th))] _ := hP
  have hD : va_D A [(g 0, .inr (10, [.int (nI 0), .ref (g 1), .int (nI ts), .int (nI pl), .int (nI rk), .ref (g 5), .int (nI sl), .ref (g 7), .int (nI rr), .int (nI rs), .ref (g 10), .ref (g 11), .ref (g 12), .long sd, .ref (g 14), .ref (g 15), .int (nI ac), .ref (g 17), .ref (g 18), .ref (g 19), .int (nI tc), .ref (g 21), .ref (g 22), .ref (g 23), .ref (g 24), .long td9, .ref (g 26), .ref (g 27), .ref (g 28), .ref (g 29), .ref (g 30)])), (g 5, .inl (cI, 7, .inl (fun i9 => nI (kd i9)))), (g 7, .inl (cI, 175, .inl (fun i9 => nI (tn i9)))), (g 12, .inl (cI, 50, .inl pg)), (g 24, .inl (cI, 50, .inl tw)), (g 26, .inl (cI, 7, .inl th))] := hD
  refine lv_aload_n hx hb dX10_drill_5 rfl (lv_at hl 0 rfl) ?_
  refine lv_iload_n hx hb dX10_drill_6 rfl (lv_at hl 1 rfl) ?_
  refine aft_i (wr := [(g 5, .inl (cI, 7, .inl (fun i9 => nI (kd i9)))), (g 7, .inl (cI, 175, .inl (fun i9 => nI (tn i9)))), (g 12, .inl (cI, 50, .inl pg)), (g 24, .inl (cI, 50, .inl tw)), (g 26, .inl (cI, 7, .inl th))]) (va_runV (As := [.int r]) (rest := []) ⟨hx, hb, hml, hown, hts⟩ (c_X10_noRank (g := g) (ts := ts) (pl := pl) (rk := rk) (sl := sl) (rr := rr) (rs := rs) (ac := ac) (tc := tc) (sd := sd) (td9 := td9) (r := r) (hrk := by first | assumption | omega | exact hok.1 _ (by omega) | exact hok.2.2 _ _ (by omega) (by omega) | exact hok.2.1) _) (cwV 1 hts gX10_drill_X10_noRank rfl rfl rfl (by decide +kernel) ⟨Nat.le_of_ble_eq_true rfl, Nat.le_of_ble_eq_true rfl⟩) (preV (cq := (RX10, TX10, 31)) (q0 := 0) (ci := 10) hK hP hD [0] rfl rfl rfl rfl) rfl rfl hl.1 rfl (lv_room (Nat.le_of_ble_eq_true rfl)) dX10_drill_7 ⟨Nat.le_of_ble_eq_true rfl, Nat.le_of_ble_eq_true rfl⟩) hP hD hS hA [0] [1, 2, 3, 4, 5] rfl rfl rfl (by decide) (fun r_7 uu9 H locs hw hP hD hS => ?_)
  have hP : va_P G vwCl [(g 5, .inl (cI, 7, .inl (fun i9 => nI (kd i9)))), (g 7, .inl (cI, 175, .inl (fun i9 => nI (tn i9)))), (g 12, .inl (cI, 50, .inl pg)), (g 24, .inl (cI, 50, .inl tw)), (g 26, .inl (cI, 7, .inl th)), (g 0, .inr (10, [.int (nI 0), .ref (g 1), .int (nI ts), .int (nI pl), .int (nI rk), .ref (g 5), .int (nI sl), .ref (g 7), .int (nI rr), .int (nI rs), .ref (g 10), .ref (g 11), .ref (g 12), .long sd, .ref (g 14), .ref (g 15), .int (nI ac), .ref (g 17), .ref (g 18), .ref (g 19), .int (nI tc), .ref (g 21), .ref (g 22), .ref (g 23), .ref (g 24), .long td9, .ref (g 26), .ref (g 27), .ref (g 28), .ref (g 29), .ref (g 30)]))] _ := hP
  have hD : va_D A [(g 5, .inl (cI, 7, .inl (fun i9 => nI (kd i9)))), (g 7, .inl (cI, 175, .inl (fun i9 => nI (tn i9)))), (g 12, .inl (cI, 50, .inl pg)), (g 24, .inl (cI, 50, .inl tw)), (g 26, .inl (cI, 7, .inl th)), (g 0, .inr (10, [.int (nI 0), .ref (g 1), .int (nI ts), .int (nI pl), .int (nI rk), .ref (g 5), .int (nI sl), .ref (g 7), .int (nI rr), .int (nI rs), .ref (g 10), .ref (g 11), .ref (g 12), .long sd, .ref (g 14), .ref (g 15), .int (nI ac), .ref (g 17), .ref (g 18), .ref (g 19), .int (nI tc), .ref (g 21), .ref (g 22), .ref (g 23), .ref (g 24), .long td9, .ref (g 26), .ref (g 27), .ref (g 28), .ref (g 29), .ref (g 30)]))] := hD
  obtain rfl := hw
  refine top_i (y := bI (¬ isR rk r)) rfl ?_
  refine lv_if_eq (tgt := 15) hx hb dX10_drill_10 (by decide) (fun c_10 => ?_) (fun c_10 => ?_)
  · skip
    have c_10 := bI_f c_10
    have c_10 := Classical.not_not.mp c_10
    obtain ⟨k, hk, rfl⟩ := c_10
    refine lv_iload_n hx hb dX10_drill_15 rfl (lv_at hl 2 rfl) ?_
    refine lv_i2l (v := (n).toInt64) hx hb dX10_drill_16 rfl ?_
    refine lv_lconst (v := lN 1) hx hb dX10_drill_17 (by decide) ?_
    refine lv_ldc2 (v := (6 : Int64)) hx hb hown k_1 dX10_drill_18 ?_
    refine top_l (y := lN 6) (by decide) ?_
    refine aft_i (wr := [(g 5, .inl (cI, 7, .inl (fun i9 => nI (kd i9)))), (g 7, .inl (cI, 175, .inl (fun i9 => nI (tn i9)))), (g 12, .inl (cI, 50, .inl pg)), (g 24, .inl (cI, 50, .inl tw)), (g 26, .inl (cI, 7, .inl th)), (g 0, .inr (10, [.int (nI 0), .ref (g 1), .int (nI ts), .int (nI pl), .int (nI rk), .ref (g 5), .int (nI sl), .ref (g 7), .int (nI rr), .int (nI rs), .ref (g 10), .ref (g 11), .ref (g 12), .long sd, .ref (g 14), .ref (g 15), .int (nI ac), .ref (g 17), .ref (g 18), .ref (g 19), .int (nI tc), .ref (g 21), .ref (g 22), .ref (g 23), .ref (g 24), .long td9, .ref (g 26), .ref (g 27), .ref (g 28), .ref (g 29), .ref (g 30)]))]) (va_runS (As := [.long ((n).toInt64), .long (lN 1), .long (lN 6)]) (rest := []) ⟨hx, hb, hml, hown, hts⟩ (c_X10_in (x := (n).toInt64) (y := lN 1) (z := lN 6) _) (va_cwS 3 hts gX10_drill_X10_in rfl rfl rfl (by decide +kernel) ⟨Nat.le_of_ble_eq_true rfl, Nat.le_of_ble_eq_true rfl⟩) (preS hK hP hD [] rfl rfl) rfl rfl hl.1 rfl (lv_room (Nat.le_of_ble_eq_true rfl)) dX10_drill_21 ⟨Nat.le_of_ble_eq_true rfl, Nat.le_of_ble_eq_true rfl⟩) hP hD hS hA [] [0, 1, 2, 3, 4, 5] rfl rfl rfl (by decide) (fun r_21 uu9 H locs hw hP hD hS => ?_)
    have hP : va_P G vwCl [(g 5, .inl (cI, 7, .inl (fun i9 => nI (kd i9)))), (g 7, .inl (cI, 175, .inl (fun i9 => nI (tn i9)))), (g 12, .inl (cI, 50, .inl pg)), (g 24, .inl (cI, 50, .inl tw)), (g 26, .inl (cI, 7, .inl th)), (g 0, .inr (10, [.int (nI 0), .ref (g 1), .int (nI ts), .int (nI pl), .int (nI rk), .ref (g 5), .int (nI sl), .ref (g 7), .int (nI rr), .int (nI rs), .ref (g 10), .ref (g 11), .ref (g 12), .long sd, .ref (g 14), .ref (g 15), .int (nI ac), .ref (g 17), .ref (g 18), .ref (g 19), .int (nI tc), .ref (g 21), .ref (g 22), .ref (g 23), .ref (g 24), .long td9, .ref (g 26), .ref (g 27), .ref (g 28), .ref (g 29), .ref (g 30)]))] _ := hP
    have hD : va_D A [(g 5, .inl (cI, 7, .inl (fun i9 => nI (kd i9)))), (g 7, .inl (cI, 175, .inl (fun i9 => nI (tn i9)))), (g 12, .inl (cI, 50, .inl pg)), (g 24, .inl (cI, 50, .inl tw)), (g 26, .inl (cI, 7, .inl th)), (g 0, .inr (10, [.int (nI 0), .ref (g 1), .int (nI ts), .int (nI pl), .int (nI rk), .ref (g 5), .int (nI sl), .ref (g 7), .int (nI rr), .int (nI rs), .ref (g 10), .ref (g 11), .ref (g 12), .long sd, .ref (g 14), .ref (g 15), .int (nI ac), .ref (g 17), .ref (g 18), .ref (g 19), .int (nI tc), .ref (g 21), .ref (g 22), .ref (g 23), .ref (g 24), .long td9, .ref (g 26), .ref (g 27), .ref (g 28), .ref (g 29), .ref (g 30)]))] := hD
    obtain rfl := hw
    refine top_i (y := bI ((lN 1) ≤ ((n).toInt64) ∧ ((n).toInt64) ≤ (lN 6))) rfl ?_
    refine lv_if_eq (tgt := 55) hx hb dX10_drill_24 (by decide) (fun c_24 => ?_) (fun c_24 => ?_)
    · skip
      have c_24 := bI_f c_24
      refine lv_bipush (v := (-2)) hx hb dX10_drill_55 (by decide) ?_
      exact endI hx hb hr hlocks ((tw, td9, th)) (DrP_bad hk (fun z => by obtain ⟨⟨n1, h1, h2, h3, -⟩, -⟩ := z; exact c_24 (in_16.mpr ⟨n1, h1, h2, h3⟩))) (hP.sub [5, 0, 1, 2, 3, 4] rfl) (hD.sub [5, 0, 1, 2, 3, 4] (by decide) rfl) hS dX10_drill_57
    · skip
      have c_24 := bI_t c_24
      obtain ⟨n1, hn0, hn7, rfl⟩ := in_16.mp c_24
      refine lv_iload hx hb dX10_drill_27 (lv_at hl 4 rfl) ?_
      refine lv_i2l (v := (q).toInt64) hx hb dX10_drill_29 rfl ?_
      refine lv_lconst (v := lN 0) hx hb dX10_drill_30 (by decide) ?_
      refine lv_ldc2 (v := (9 : Int64)) hx hb hown k_2 dX10_drill_31 ?_
      refine top_l (y := lN 9) (by decide) ?_
      refine aft_i (wr := [(g 5, .inl (cI, 7, .inl (fun i9 => nI (kd i9)))), (g 7, .inl (cI, 175, .inl (fun i9 => nI (tn i9)))), (g 12, .inl (cI, 50, .inl pg)), (g 24, .inl (cI, 50, .inl tw)), (g 26, .inl (cI, 7, .inl th)), (g 0, .inr (10, [.int (nI 0), .ref (g 1), .int (nI ts), .int (nI pl), .int (nI rk), .ref (g 5), .int (nI sl), .ref (g 7), .int (nI rr), .int (nI rs), .ref (g 10), .ref (g 11), .ref (g 12), .long sd, .ref (g 14), .ref (g 15), .int (nI ac), .ref (g 17), .ref (g 18), .ref (g 19), .int (nI tc), .ref (g 21), .ref (g 22), .ref (g 23), .ref (g 24), .long td9, .ref (g 26), .ref (g 27), .ref (g 28), .ref (g 29), .ref (g 30)]))]) (va_runS (As := [.long ((q).toInt64), .long (lN 0), .long (lN 9)]) (rest := []) ⟨hx, hb, hml, hown, hts⟩ (c_X10_in (x := (q).toInt64) (y := lN 0) (z := lN 9) _) (va_cwS 3 hts gX10_drill_X10_in rfl rfl rfl (by decide +kernel) ⟨Nat.le_of_ble_eq_true rfl, Nat.le_of_ble_eq_true rfl⟩) (preS hK hP hD [] rfl rfl) rfl rfl hl.1 rfl (lv_room (Nat.le_of_ble_eq_true rfl)) dX10_drill_34 ⟨Nat.le_of_ble_eq_true rfl, Nat.le_of_ble_eq_true rfl⟩) hP hD hS hA [] [0, 1, 2, 3, 4, 5] rfl rfl rfl (by decide) (fun r_34 uu9 H locs hw hP hD hS => ?_)
      have hP : va_P G vwCl [(g 5, .inl (cI, 7, .inl (fun i9 => nI (kd i9)))), (g 7, .inl (cI, 175, .inl (fun i9 => nI (tn i9)))), (g 12, .inl (cI, 50, .inl pg)), (g 24, .inl (cI, 50, .inl tw)), (g 26, .inl (cI, 7, .inl th)), (g 0, .inr (10, [.int (nI 0), .ref (g 1), .int (nI ts), .int (nI pl), .int (nI rk), .ref (g 5), .int (nI sl), .ref (g 7), .int (nI rr), .int (nI rs), .ref (g 10), .ref (g 11), .ref (g 12), .long sd, .ref (g 14), .ref (g 15), .int (nI ac), .ref (g 17), .ref (g 18), .ref (g 19), .int (nI tc), .ref (g 21), .ref (g 22), .ref (g 23), .ref (g 24), .long td9, .ref (g 26), .ref (g 27), .ref (g 28), .ref (g 29), .ref (g 30)]))] _ := hP
      have hD : va_D A [(g 5, .inl (cI, 7, .inl (fun i9 => nI (kd i9)))), (g 7, .inl (cI, 175, .inl (fun i9 => nI (tn i9)))), (g 12, .inl (cI, 50, .inl pg)), (g 24, .inl (cI, 50, .inl tw)), (g 26, .inl (cI, 7, .inl th)), (g 0, .inr (10, [.int (nI 0), .ref (g 1), .int (nI ts), .int (nI pl), .int (nI rk), .ref (g 5), .int (nI sl), .ref (g 7), .int (nI rr), .int (nI rs), .ref (g 10), .ref (g 11), .ref (g 12), .long sd, .ref (g 14), .ref (g 15), .int (nI ac), .ref (g 17), .ref (g 18), .ref (g 19), .int (nI tc), .ref (g 21), .ref (g 22), .ref (g 23), .ref (g 24), .long td9, .ref (g 26), .ref (g 27), .ref (g 28), .ref (g 29), .ref (g 30)]))] := hD
      obtain rfl := hw
      refine top_i (y := bI ((lN 0) ≤ ((q).toInt64) ∧ ((q).toInt64) ≤ (lN 9))) rfl ?_
      refine lv_if_eq (tgt := 55) hx hb dX10_drill_37 (by decide) (fun c_37 => ?_) (fun c_37 => ?_)
      · skip
        have c_37 := bI_f c_37
        refine lv_bipush (v := (-2)) hx hb dX10_drill_55 (by decide) ?_
        exact endI hx hb hr hlocks ((tw, td9, th)) (DrP_bad hk (fun z => c_37 ((in_iff 10 (by decide) rfl).mpr z.2))) (hP.sub [5, 0, 1, 2, 3, 4] rfl) (hD.sub [5, 0, 1, 2, 3, 4] (by decide) rfl) hS dX10_drill_57
      · skip
        have c_37 := bI_t c_37
        obtain ⟨m1, hm1, rfl⟩ := (in_iff 10 (by decide) rfl).mp c_37
        have hp9 := pow_b (n := n1) (by omega)
        refine lv_iload_n hx hb dX10_drill_40 rfl (lv_at hl 3 rfl) ?_
        refine lv_i2l (v := (row).toInt64) hx hb dX10_drill_41 rfl ?_
        refine lv_lconst (v := lN 0) hx hb dX10_drill_42 (by decide) ?_
        refine lv_iload_n hx hb dX10_drill_43 rfl (lv_at hl 2 rfl) ?_
        refine aft_l (wr := [(g 5, .inl (cI, 7, .inl (fun i9 => nI (kd i9)))), (g 7, .inl (cI, 175, .inl (fun i9 => nI (tn i9)))), (g 12, .inl (cI, 50, .inl pg)), (g 24, .inl (cI, 50, .inl tw)), (g 26, .inl (cI, 7, .inl th)), (g 0, .inr (10, [.int (nI 0), .ref (g 1), .int (nI ts), .int (nI pl), .int (nI rk), .ref (g 5), .int (nI sl), .ref (g 7), .int (nI rr), .int (nI rs), .ref (g 10), .ref (g 11), .ref (g 12), .long sd, .ref (g 14), .ref (g 15), .int (nI ac), .ref (g 17), .ref (g 18), .ref (g 19), .int (nI tc), .ref (g 21), .ref (g 22), .ref (g 23), .ref (g 24), .long td9, .ref (g 26), .ref (g 27), .ref (g 28), .ref (g 29), .ref (g 30)]))]) (va_runS (As := [.int (nI n1)]) (rest := [.long (lN 0), .long ((row).toInt64)]) ⟨hx, hb, hml, hown, hts⟩ (c_X10_ten (n := n1) (hn := by omega) _) (va_cwS 1 hts gX10_drill_X10_ten rfl rfl rfl (by decide +kernel) ⟨Nat.le_of_ble_eq_true rfl, Nat.le_of_ble_eq_true rfl⟩) (preS hK hP hD [] rfl rfl) rfl rfl hl.1 rfl (lv_room (Nat.le_of_ble_eq_true rfl)) dX10_drill_44 ⟨Nat.le_of_ble_eq_true rfl, Nat.le_of_ble_eq_true rfl⟩) hP hD hS hA [] [0, 1, 2, 3, 4, 5] rfl rfl rfl (by decide) (fun r_44 uu9 H locs hw hP hD hS => ?_)
        have hP : va_P G vwCl [(g 5, .inl (cI, 7, .inl (fun i9 => nI (kd i9)))), (g 7, .inl (cI, 175, .inl (fun i9 => nI (tn i9)))), (g 12, .inl (cI, 50, .inl pg)), (g 24, .inl (cI, 50, .inl tw)), (g 26, .inl (cI, 7, .inl th)), (g 0, .inr (10, [.int (nI 0), .ref (g 1), .int (nI ts), .int (nI pl), .int (nI rk), .ref (g 5), .int (nI sl), .ref (g 7), .int (nI rr), .int (nI rs), .ref (g 10), .ref (g 11), .ref (g 12), .long sd, .ref (g 14), .ref (g 15), .int (nI ac), .ref (g 17), .ref (g 18), .ref (g 19), .int (nI tc), .ref (g 21), .ref (g 22), .ref (g 23), .ref (g 24), .long td9, .ref (g 26), .ref (g 27), .ref (g 28), .ref (g 29), .ref (g 30)]))] _ := hP
        have hD : va_D A [(g 5, .inl (cI, 7, .inl (fun i9 => nI (kd i9)))), (g 7, .inl (cI, 175, .inl (fun i9 => nI (tn i9)))), (g 12, .inl (cI, 50, .inl pg)), (g 24, .inl (cI, 50, .inl tw)), (g 26, .inl (cI, 7, .inl th)), (g 0, .inr (10, [.int (nI 0), .ref (g 1), .int (nI ts), .int (nI pl), .int (nI rk), .ref (g 5), .int (nI sl), .ref (g 7), .int (nI rr), .int (nI rs), .ref (g 10), .ref (g 11), .ref (g 12), .long sd, .ref (g 14), .ref (g 15), .int (nI ac), .ref (g 17), .ref (g 18), .ref (g 19), .int (nI tc), .ref (g 21), .ref (g 22), .ref (g 23), .ref (g 24), .long td9, .ref (g 26), .ref (g 27), .ref (g 28), .ref (g 29), .ref (g 30)]))] := hD
        obtain rfl := hw
        refine top_l (y := lN (10 ^ n1)) rfl ?_
        refine lv_lconst (v := lN 1) hx hb dX10_drill_47 (by decide) ?_
        refine lv_lsub hx hb dX10_drill_48 ?_
        refine top_l (y := lN (10 ^ n1 - 1)) (lN_sub (by omega)) ?_
        refine aft_i (wr := [(g 5, .inl (cI, 7, .inl (fun i9 => nI (kd i9)))), (g 7, .inl (cI, 175, .inl (fun i9 => nI (tn i9)))), (g 12, .inl (cI, 50, .inl pg)), (g 24, .inl (cI, 50, .inl tw)), (g 26, .inl (cI, 7, .inl th)), (g 0, .inr (10, [.int (nI 0), .ref (g 1), .int (nI ts), .int (nI pl), .int (nI rk), .ref (g 5), .int (nI sl), .ref (g 7), .int (nI rr), .int (nI rs), .ref (g 10), .ref (g 11), .ref (g 12), .long sd, .ref (g 14), .ref (g 15), .int (nI ac), .ref (g 17), .ref (g 18), .ref (g 19), .int (nI tc), .ref (g 21), .ref (g 22), .ref (g 23), .ref (g 24), .long td9, .ref (g 26), .ref (g 27), .ref (g 28), .ref (g 29), .ref (g 30)]))]) (va_runS (As := [.long ((row).toInt64), .long (lN 0), .long (lN (10 ^ n1 - 1))]) (rest := []) ⟨hx, hb, hml, hown, hts⟩ (c_X10_in (x := (row).toInt64) (y := lN 0) (z := lN (10 ^ n1 - 1)) _) (va_cwS 3 hts gX10_drill_X10_in rfl rfl rfl (by decide +kernel) ⟨Nat.le_of_ble_eq_true rfl, Nat.le_of_ble_eq_true rfl⟩) (preS hK hP hD [] rfl rfl) rfl rfl hl.1 rfl (lv_room (Nat.le_of_ble_eq_true rfl)) dX10_drill_49 ⟨Nat.le_of_ble_eq_true rfl, Nat.le_of_ble_eq_true rfl⟩) hP hD hS hA [] [0, 1, 2, 3, 4, 5] rfl rfl rfl (by decide) (fun r_49 uu9 H locs hw hP hD hS => ?_)
        have hP : va_P G vwCl [(g 5, .inl (cI, 7, .inl (fun i9 => nI (kd i9)))), (g 7, .inl (cI, 175, .inl (fun i9 => nI (tn i9)))), (g 12, .inl (cI, 50, .inl pg)), (g 24, .inl (cI, 50, .inl tw)), (g 26, .inl (cI, 7, .inl th)), (g 0, .inr (10, [.int (nI 0), .ref (g 1), .int (nI ts), .int (nI pl), .int (nI rk), .ref (g 5), .int (nI sl), .ref (g 7), .int (nI rr), .int (nI rs), .ref (g 10), .ref (g 11), .ref (g 12), .long sd, .ref (g 14), .ref (g 15), .int (nI ac), .ref (g 17), .ref (g 18), .ref (g 19), .int (nI tc), .ref (g 21), .ref (g 22), .ref (g 23), .ref (g 24), .long td9, .ref (g 26), .ref (g 27), .ref (g 28), .ref (g 29), .ref (g 30)]))] _ := hP
        have hD : va_D A [(g 5, .inl (cI, 7, .inl (fun i9 => nI (kd i9)))), (g 7, .inl (cI, 175, .inl (fun i9 => nI (tn i9)))), (g 12, .inl (cI, 50, .inl pg)), (g 24, .inl (cI, 50, .inl tw)), (g 26, .inl (cI, 7, .inl th)), (g 0, .inr (10, [.int (nI 0), .ref (g 1), .int (nI ts), .int (nI pl), .int (nI rk), .ref (g 5), .int (nI sl), .ref (g 7), .int (nI rr), .int (nI rs), .ref (g 10), .ref (g 11), .ref (g 12), .long sd, .ref (g 14), .ref (g 15), .int (nI ac), .ref (g 17), .ref (g 18), .ref (g 19), .int (nI tc), .ref (g 21), .ref (g 22), .ref (g 23), .ref (g 24), .long td9, .ref (g 26), .ref (g 27), .ref (g 28), .ref (g 29), .ref (g 30)]))] := hD
        obtain rfl := hw
        refine top_i (y := bI ((lN 0) ≤ ((row).toInt64) ∧ ((row).toInt64) ≤ (lN (10 ^ n1 - 1)))) rfl ?_
        refine lv_if_ne (tgt := 58) hx hb dX10_drill_52 (by decide) (fun c_52 => ?_) (fun c_52 => ?_)
        · skip
          have c_52 := bI_t c_52
          obtain ⟨w, hw9, rfl⟩ := (in_iff (10 ^ n1) (by omega) rfl (by omega)).mp c_52
          refine lv_iload_n hx hb dX10_drill_58 rfl (lv_at hl 2 rfl) ?_
          refine aft_l (wr := [(g 5, .inl (cI, 7, .inl (fun i9 => nI (kd i9)))), (g 7, .inl (cI, 175, .inl (fun i9 => nI (tn i9)))), (g 12, .inl (cI, 50, .inl pg)), (g 24, .inl (cI, 50, .inl tw)), (g 26, .inl (cI, 7, .inl th)), (g 0, .inr (10, [.int (nI 0), .ref (g 1), .int (nI ts), .int (nI pl), .int (nI rk), .ref (g 5), .int (nI sl), .ref (g 7), .int (nI rr), .int (nI rs), .ref (g 10), .ref (g 11), .ref (g 12), .long sd, .ref (g 14), .ref (g 15), .int (nI ac), .ref (g 17), .ref (g 18), .ref (g 19), .int (nI tc), .ref (g 21), .ref (g 22), .ref (g 23), .ref (g 24), .long td9, .ref (g 26), .ref (g 27), .ref (g 28), .ref (g 29), .ref (g 30)]))]) (va_runS (As := [.int (nI n1)]) (rest := []) ⟨hx, hb, hml, hown, hts⟩ (c_X10_ten (n := n1) (hn := by omega) _) (va_cwS 1 hts gX10_drill_X10_ten rfl rfl rfl (by decide +kernel) ⟨Nat.le_of_ble_eq_true rfl, Nat.le_of_ble_eq_true rfl⟩) (preS hK hP hD [] rfl rfl) rfl rfl hl.1 rfl (lv_room (Nat.le_of_ble_eq_true rfl)) dX10_drill_59 ⟨Nat.le_of_ble_eq_true rfl, Nat.le_of_ble_eq_true rfl⟩) hP hD hS hA [] [0, 1, 2, 3, 4, 5] rfl rfl rfl (by decide) (fun r_59 uu9 H locs hw hP hD hS => ?_)
          have hP : va_P G vwCl [(g 5, .inl (cI, 7, .inl (fun i9 => nI (kd i9)))), (g 7, .inl (cI, 175, .inl (fun i9 => nI (tn i9)))), (g 12, .inl (cI, 50, .inl pg)), (g 24, .inl (cI, 50, .inl tw)), (g 26, .inl (cI, 7, .inl th)), (g 0, .inr (10, [.int (nI 0), .ref (g 1), .int (nI ts), .int (nI pl), .int (nI rk), .ref (g 5), .int (nI sl), .ref (g 7), .int (nI rr), .int (nI rs), .ref (g 10), .ref (g 11), .ref (g 12), .long sd, .ref (g 14), .ref (g 15), .int (nI ac), .ref (g 17), .ref (g 18), .ref (g 19), .int (nI tc), .ref (g 21), .ref (g 22), .ref (g 23), .ref (g 24), .long td9, .ref (g 26), .ref (g 27), .ref (g 28), .ref (g 29), .ref (g 30)]))] _ := hP
          have hD : va_D A [(g 5, .inl (cI, 7, .inl (fun i9 => nI (kd i9)))), (g 7, .inl (cI, 175, .inl (fun i9 => nI (tn i9)))), (g 12, .inl (cI, 50, .inl pg)), (g 24, .inl (cI, 50, .inl tw)), (g 26, .inl (cI, 7, .inl th)), (g 0, .inr (10, [.int (nI 0), .ref (g 1), .int (nI ts), .int (nI pl), .int (nI rk), .ref (g 5), .int (nI sl), .ref (g 7), .int (nI rr), .int (nI rs), .ref (g 10), .ref (g 11), .ref (g 12), .long sd, .ref (g 14), .ref (g 15), .int (nI ac), .ref (g 17), .ref (g 18), .ref (g 19), .int (nI tc), .ref (g 21), .ref (g 22), .ref (g 23), .ref (g 24), .long td9, .ref (g 26), .ref (g 27), .ref (g 28), .ref (g 29), .ref (g 30)]))] := hD
          obtain rfl := hw
          refine top_l (y := lN (10 ^ n1)) rfl ?_
          refine lv_lstore (lv' := [(5, .long (lN (10 ^ n1))), (0, .ref (g 0)), (1, .int (nI k)), (2, .int (nI n1)), (3, .int (nI w)), (4, .int (nI m1))]) hx hb dX10_drill_62 hl (by decide) rfl (fun ls hl => ?_)
          refine lv_iconst (v := nI 0) hx hb dX10_drill_64 (by decide) ?_
          refine lv_istore (lv' := [(7, .int (nI 0)), (5, .long (lN (10 ^ n1))), (0, .ref (g 0)), (1, .int (nI k)), (2, .int (nI n1)), (3, .int (nI w)), (4, .int (nI m1))]) hx hb dX10_drill_65 hl (by decide) rfl (fun ls hl => ?_)
          have hl : lv_has ls 8 [(7, .int (nI 0)), (5, .long (lN (10 ^ (n1 - 0)))), (0, .ref (g 0)), (1, .int (nI k)), (2, .int (nI n1)), (3, .int (nI w)), (4, .int (nI m1))] := hl
          refine loopW (σ := Nat) 67 (fun (i : Nat) H locs ls => (i ≤ n1) ∧ (∀ j, j < i → w / 10 ^ (n1 - 1 - j) % 10 < 5) ∧ va_P G vwCl [(g 5, .inl (cI, 7, .inl (fun i9 => nI (kd i9)))), (g 7, .inl (cI, 175, .inl (fun i9 => nI (tn i9)))), (g 12, .inl (cI, 50, .inl pg)), (g 24, .inl (cI, 50, .inl tw)), (g 26, .inl (cI, 7, .inl th)), (g 0, .inr (10, [.int (nI 0), .ref (g 1), .int (nI ts), .int (nI pl), .int (nI rk), .ref (g 5), .int (nI sl), .ref (g 7), .int (nI rr), .int (nI rs), .ref (g 10), .ref (g 11), .ref (g 12), .long sd, .ref (g 14), .ref (g 15), .int (nI ac), .ref (g 17), .ref (g 18), .ref (g 19), .int (nI tc), .ref (g 21), .ref (g 22), .ref (g 23), .ref (g 24), .long td9, .ref (g 26), .ref (g 27), .ref (g 28), .ref (g 29), .ref (g 30)]))] H ∧ va_D A [(g 5, .inl (cI, 7, .inl (fun i9 => nI (kd i9)))), (g 7, .inl (cI, 175, .inl (fun i9 => nI (tn i9)))), (g 12, .inl (cI, 50, .inl pg)), (g 24, .inl (cI, 50, .inl tw)), (g 26, .inl (cI, 7, .inl th)), (g 0, .inr (10, [.int (nI 0), .ref (g 1), .int (nI ts), .int (nI pl), .int (nI rk), .ref (g 5), .int (nI sl), .ref (g 7), .int (nI rr), .int (nI rs), .ref (g 10), .ref (g 11), .ref (g 12), .long sd, .ref (g 14), .ref (g 15), .int (nI ac), .ref (g 17), .ref (g 18), .ref (g 19), .int (nI tc), .ref (g 21), .ref (g 22), .ref (g 23), .ref (g 24), .long td9, .ref (g 26), .ref (g 27), .ref (g 28), .ref (g 29), .ref (g 30)]))] ∧ va_S A s.heap H locs ∧ lv_has ls 8 [(7, .int (nI i)), (5, .long (lN (10 ^ (n1 - i)))), (0, .ref (g 0)), (1, .int (nI k)), (2, .int (nI n1)), (3, .int (nI w)), (4, .int (nI m1))]) (fun (i : Nat) => []) (fun (i : Nat) => n1 - i) ?_ 0 ⟨by first | assumption | omega | (simp; done), fun j hj => absurd hj (Nat.not_lt_zero _), hP.sub [0, 1, 2, 3, 4, 5] rfl, hD.sub [0, 1, 2, 3, 4, 5] (by decide) rfl, hS, lv_sub hl [0, 1, 2, 3, 4, 5, 6] rfl⟩
          intro xx9 H locs ls hI ih_67
          obtain ⟨i, rfl⟩ : ∃ z, z = xx9 := ⟨_, rfl⟩
          obtain ⟨hi, hro, hP, hD, hS, hl⟩ := hI
          have hi : i ≤ n1 := hi
          have hro : ∀ j, j < i → w / 10 ^ (n1 - 1 - j) % 10 < 5 := hro
          have hP : va_P G vwCl [(g 5, .inl (cI, 7, .inl (fun i9 => nI (kd i9)))), (g 7, .inl (cI, 175, .inl (fun i9 => nI (tn i9)))), (g 12, .inl (cI, 50, .inl pg)), (g 24, .inl (cI, 50, .inl tw)), (g 26, .inl (cI, 7, .inl th)), (g 0, .inr (10, [.int (nI 0), .ref (g 1), .int (nI ts), .int (nI pl), .int (nI rk), .ref (g 5), .int (nI sl), .ref (g 7), .int (nI rr), .int (nI rs), .ref (g 10), .ref (g 11), .ref (g 12), .long sd, .ref (g 14), .ref (g 15), .int (nI ac), .ref (g 17), .ref (g 18), .ref (g 19), .int (nI tc), .ref (g 21), .ref (g 22), .ref (g 23), .ref (g 24), .long td9, .ref (g 26), .ref (g 27), .ref (g 28), .ref (g 29), .ref (g 30)]))] _ := hP
          have hD : va_D A [(g 5, .inl (cI, 7, .inl (fun i9 => nI (kd i9)))), (g 7, .inl (cI, 175, .inl (fun i9 => nI (tn i9)))), (g 12, .inl (cI, 50, .inl pg)), (g 24, .inl (cI, 50, .inl tw)), (g 26, .inl (cI, 7, .inl th)), (g 0, .inr (10, [.int (nI 0), .ref (g 1), .int (nI ts), .int (nI pl), .int (nI rk), .ref (g 5), .int (nI sl), .ref (g 7), .int (nI rr), .int (nI rs), .ref (g 10), .ref (g 11), .ref (g 12), .long sd, .ref (g 14), .ref (g 15), .int (nI ac), .ref (g 17), .ref (g 18), .ref (g 19), .int (nI tc), .ref (g 21), .ref (g 22), .ref (g 23), .ref (g 24), .long td9, .ref (g 26), .ref (g 27), .ref (g 28), .ref (g 29), .ref (g 30)]))] := hD
          have hl : lv_has ls 8 [(7, .int (nI i)), (5, .long (lN (10 ^ (n1 - i)))), (0, .ref (g 0)), (1, .int (nI k)), (2, .int (nI n1)), (3, .int (nI w)), (4, .int (nI m1))] := hl
          refine lv_iload hx hb dX10_drill_67 (lv_at hl 0 rfl) ?_
          refine lv_iload_n hx hb dX10_drill_69 rfl (lv_at hl 4 rfl) ?_
          refine lv_icmp_ge (tgt := 106) hx hb dX10_drill_70 (by decide) (fun c_70 => ?_) (fun c_70 => ?_)
          · skip
            have c_70 := n_geT c_70 (by omega) (by omega)
            refine lv_iconst (v := nI 0) hx hb dX10_drill_106 (by decide) ?_
            refine lv_istore (lv' := [(7, .int (nI 0)), (5, .long (lN (10 ^ (n1 - i)))), (0, .ref (g 0)), (1, .int (nI k)), (2, .int (nI n1)), (3, .int (nI w)), (4, .int (nI m1))]) hx hb dX10_drill_107 hl (by decide) rfl (fun ls hl => ?_)
            refine loopW (σ := Nat × (Nat → Int32)) 109 (fun xx9 H locs ls => match xx9 with | (c, tc9) => (c ≤ 50) ∧ (∀ z, z < c → tc9 z = pg z) ∧ va_P G vwCl [(g 5, .inl (cI, 7, .inl (fun i9 => nI (kd i9)))), (g 7, .inl (cI, 175, .inl (fun i9 => nI (tn i9)))), (g 12, .inl (cI, 50, .inl pg)), (g 24, .inl (cI, 50, .inl tc9)), (g 26, .inl (cI, 7, .inl th)), (g 0, .inr (10, [.int (nI 0), .ref (g 1), .int (nI ts), .int (nI pl), .int (nI rk), .ref (g 5), .int (nI sl), .ref (g 7), .int (nI rr), .int (nI rs), .ref (g 10), .ref (g 11), .ref (g 12), .long sd, .ref (g 14), .ref (g 15), .int (nI ac), .ref (g 17), .ref (g 18), .ref (g 19), .int (nI tc), .ref (g 21), .ref (g 22), .ref (g 23), .ref (g 24), .long td9, .ref (g 26), .ref (g 27), .ref (g 28), .ref (g 29), .ref (g 30)]))] H ∧ va_D A [(g 5, .inl (cI, 7, .inl (fun i9 => nI (kd i9)))), (g 7, .inl (cI, 175, .inl (fun i9 => nI (tn i9)))), (g 12, .inl (cI, 50, .inl pg)), (g 24, .inl (cI, 50, .inl tc9)), (g 26, .inl (cI, 7, .inl th)), (g 0, .inr (10, [.int (nI 0), .ref (g 1), .int (nI ts), .int (nI pl), .int (nI rk), .ref (g 5), .int (nI sl), .ref (g 7), .int (nI rr), .int (nI rs), .ref (g 10), .ref (g 11), .ref (g 12), .long sd, .ref (g 14), .ref (g 15), .int (nI ac), .ref (g 17), .ref (g 18), .ref (g 19), .int (nI tc), .ref (g 21), .ref (g 22), .ref (g 23), .ref (g 24), .long td9, .ref (g 26), .ref (g 27), .ref (g 28), .ref (g 29), .ref (g 30)]))] ∧ va_S A s.heap H locs ∧ lv_has ls 8 [(7, .int (nI c)), (0, .ref (g 0)), (1, .int (nI k)), (2, .int (nI n1)), (3, .int (nI w)), (4, .int (nI m1))]) (fun xx9 => match xx9 with | (c, tc9) => []) (fun xx9 => match xx9 with | (c, tc9) => 50 - c) ?_ (0, tw) ⟨by first | assumption | omega | (simp; done), fun z hz => absurd hz (Nat.not_lt_zero _), hP.sub [0, 1, 2, 3, 4, 5] rfl, hD.sub [0, 1, 2, 3, 4, 5] (by decide) rfl, hS, lv_sub hl [0, 2, 3, 4, 5, 6] rfl⟩
            intro xx9 H locs ls hI ih_109
            obtain ⟨c, tc9⟩ := xx9
            obtain ⟨hc, hcp, hP, hD, hS, hl⟩ := hI
            have hc : c ≤ 50 := hc
            have hcp : ∀ z, z < c → tc9 z = pg z := hcp
            have hP : va_P G vwCl [(g 5, .inl (cI, 7, .inl (fun i9 => nI (kd i9)))), (g 7, .inl (cI, 175, .inl (fun i9 => nI (tn i9)))), (g 12, .inl (cI, 50, .inl pg)), (g 24, .inl (cI, 50, .inl tc9)), (g 26, .inl (cI, 7, .inl th)), (g 0, .inr (10, [.int (nI 0), .ref (g 1), .int (nI ts), .int (nI pl), .int (nI rk), .ref (g 5), .int (nI sl), .ref (g 7), .int (nI rr), .int (nI rs), .ref (g 10), .ref (g 11), .ref (g 12), .long sd, .ref (g 14), .ref (g 15), .int (nI ac), .ref (g 17), .ref (g 18), .ref (g 19), .int (nI tc), .ref (g 21), .ref (g 22), .ref (g 23), .ref (g 24), .long td9, .ref (g 26), .ref (g 27), .ref (g 28), .ref (g 29), .ref (g 30)]))] _ := hP
            have hD : va_D A [(g 5, .inl (cI, 7, .inl (fun i9 => nI (kd i9)))), (g 7, .inl (cI, 175, .inl (fun i9 => nI (tn i9)))), (g 12, .inl (cI, 50, .inl pg)), (g 24, .inl (cI, 50, .inl tc9)), (g 26, .inl (cI, 7, .inl th)), (g 0, .inr (10, [.int (nI 0), .ref (g 1), .int (nI ts), .int (nI pl), .int (nI rk), .ref (g 5), .int (nI sl), .ref (g 7), .int (nI rr), .int (nI rs), .ref (g 10), .ref (g 11), .ref (g 12), .long sd, .ref (g 14), .ref (g 15), .int (nI ac), .ref (g 17), .ref (g 18), .ref (g 19), .int (nI tc), .ref (g 21), .ref (g 22), .ref (g 23), .ref (g 24), .long td9, .ref (g 26), .ref (g 27), .ref (g 28), .ref (g 29), .ref (g 30)]))] := hD
            have hl : lv_has ls 8 [(7, .int (nI c)), (0, .ref (g 0)), (1, .int (nI k)), (2, .int (nI n1)), (3, .int (nI w)), (4, .int (nI m1))] := hl
            refine lv_iload hx hb dX10_drill_109 (lv_at hl 0 rfl) ?_
            refine lv_bipush (v := nI 50) hx hb dX10_drill_111 (by decide) ?_
            refine lv_icmp_ge (tgt := 136) hx hb dX10_drill_113 (by decide) (fun c_113 => ?_) (fun c_113 => ?_)
            · skip
              have c_113 := n_geT c_113 (by omega) (by omega)
              refine lv_aload_n hx hb dX10_drill_136 rfl (lv_at hl 1 rfl) ?_
              refine lv_aload_n hx hb dX10_drill_137 rfl (lv_at hl 1 rfl) ?_
              refine va_get (D := G) (ci := 10) (v := .long sd) (C := RX10) (T := TX10) (N := 31) hx hb hts hin10 hown hK.1 hP 5 rfl rfl 13 (by decide) k_3 (fun _ h9 => h9) rfl dX10_drill_138 ?_
              refine va_put (D := G) (ci := 10) (v := .long sd) (ty := tyX10 25) (C := RX10) (T := TX10) (N := 31) hx hb hts hin10 tyX10 tyX10_ok nmX10 hown hK.1 hP hD hS 5 rfl rfl 25 (by decide) k_4 (fun _ h9 => h9) rfl (by decide +kernel) rfl rfl (Nat.le_of_ble_eq_true rfl) dX10_drill_141 (fun H locs hP hD hS => ?_)
              have hP : va_P G vwCl [(g 5, .inl (cI, 7, .inl (fun i9 => nI (kd i9)))), (g 7, .inl (cI, 175, .inl (fun i9 => nI (tn i9)))), (g 12, .inl (cI, 50, .inl pg)), (g 24, .inl (cI, 50, .inl tc9)), (g 26, .inl (cI, 7, .inl th)), (g 0, .inr (10, [.int (nI 0), .ref (g 1), .int (nI ts), .int (nI pl), .int (nI rk), .ref (g 5), .int (nI sl), .ref (g 7), .int (nI rr), .int (nI rs), .ref (g 10), .ref (g 11), .ref (g 12), .long sd, .ref (g 14), .ref (g 15), .int (nI ac), .ref (g 17), .ref (g 18), .ref (g 19), .int (nI tc), .ref (g 21), .ref (g 22), .ref (g 23), .ref (g 24), .long sd, .ref (g 26), .ref (g 27), .ref (g 28), .ref (g 29), .ref (g 30)]))] _ := hP
              have hD : va_D A [(g 5, .inl (cI, 7, .inl (fun i9 => nI (kd i9)))), (g 7, .inl (cI, 175, .inl (fun i9 => nI (tn i9)))), (g 12, .inl (cI, 50, .inl pg)), (g 24, .inl (cI, 50, .inl tc9)), (g 26, .inl (cI, 7, .inl th)), (g 0, .inr (10, [.int (nI 0), .ref (g 1), .int (nI ts), .int (nI pl), .int (nI rk), .ref (g 5), .int (nI sl), .ref (g 7), .int (nI rr), .int (nI rs), .ref (g 10), .ref (g 11), .ref (g 12), .long sd, .ref (g 14), .ref (g 15), .int (nI ac), .ref (g 17), .ref (g 18), .ref (g 19), .int (nI tc), .ref (g 21), .ref (g 22), .ref (g 23), .ref (g 24), .long sd, .ref (g 26), .ref (g 27), .ref (g 28), .ref (g 29), .ref (g 30)]))] := hD
              refine lv_iload_n hx hb dX10_drill_144 rfl (lv_at hl 3 rfl) ?_
              refine aft_l (wr := [(g 5, .inl (cI, 7, .inl (fun i9 => nI (kd i9)))), (g 7, .inl (cI, 175, .inl (fun i9 => nI (tn i9)))), (g 12, .inl (cI, 50, .inl pg)), (g 24, .inl (cI, 50, .inl tc9)), (g 26, .inl (cI, 7, .inl th)), (g 0, .inr (10, [.int (nI 0), .ref (g 1), .int (nI ts), .int (nI pl), .int (nI rk), .ref (g 5), .int (nI sl), .ref (g 7), .int (nI rr), .int (nI rs), .ref (g 10), .ref (g 11), .ref (g 12), .long sd, .ref (g 14), .ref (g 15), .int (nI ac), .ref (g 17), .ref (g 18), .ref (g 19), .int (nI tc), .ref (g 21), .ref (g 22), .ref (g 23), .ref (g 24), .long sd, .ref (g 26), .ref (g 27), .ref (g 28), .ref (g 29), .ref (g 30)]))]) (va_runS (As := [.int (nI n1)]) (rest := []) ⟨hx, hb, hml, hown, hts⟩ (c_X10_ten (n := n1) (hn := by omega) _) (va_cwS 1 hts gX10_drill_X10_ten rfl rfl rfl (by decide +kernel) ⟨Nat.le_of_ble_eq_true rfl, Nat.le_of_ble_eq_true rfl⟩) (preS hK hP hD [] rfl rfl) rfl rfl hl.1 rfl (lv_room (Nat.le_of_ble_eq_true rfl)) dX10_drill_145 ⟨Nat.le_of_ble_eq_true rfl, Nat.le_of_ble_eq_true rfl⟩) hP hD hS hA [] [0, 1, 2, 3, 4, 5] rfl rfl rfl (by decide) (fun r_145 uu9 H locs hw hP hD hS => ?_)
              have hP : va_P G vwCl [(g 5, .inl (cI, 7, .inl (fun i9 => nI (kd i9)))), (g 7, .inl (cI, 175, .inl (fun i9 => nI (tn i9)))), (g 12, .inl (cI, 50, .inl pg)), (g 24, .inl (cI, 50, .inl tc9)), (g 26, .inl (cI, 7, .inl th)), (g 0, .inr (10, [.int (nI 0), .ref (g 1), .int (nI ts), .int (nI pl), .int (nI rk), .ref (g 5), .int (nI sl), .ref (g 7), .int (nI rr), .int (nI rs), .ref (g 10), .ref (g 11), .ref (g 12), .long sd, .ref (g 14), .ref (g 15), .int (nI ac), .ref (g 17), .ref (g 18), .ref (g 19), .int (nI tc), .ref (g 21), .ref (g 22), .ref (g 23), .ref (g 24), .long sd, .ref (g 26), .ref (g 27), .ref (g 28), .ref (g 29), .ref (g 30)]))] _ := hP
              have hD : va_D A [(g 5, .inl (cI, 7, .inl (fun i9 => nI (kd i9)))), (g 7, .inl (cI, 175, .inl (fun i9 => nI (tn i9)))), (g 12, .inl (cI, 50, .inl pg)), (g 24, .inl (cI, 50, .inl tc9)), (g 26, .inl (cI, 7, .inl th)), (g 0, .inr (10, [.int (nI 0), .ref (g 1), .int (nI ts), .int (nI pl), .int (nI rk), .ref (g 5), .int (nI sl), .ref (g 7), .int (nI rr), .int (nI rs), .ref (g 10), .ref (g 11), .ref (g 12), .long sd, .ref (g 14), .ref (g 15), .int (nI ac), .ref (g 17), .ref (g 18), .ref (g 19), .int (nI tc), .ref (g 21), .ref (g 22), .ref (g 23), .ref (g 24), .long sd, .ref (g 26), .ref (g 27), .ref (g 28), .ref (g 29), .ref (g 30)]))] := hD
              obtain rfl := hw
              refine top_l (y := lN (10 ^ n1)) rfl ?_
              refine lv_lstore (lv' := [(5, .long (lN (10 ^ n1))), (7, .int (nI c)), (0, .ref (g 0)), (1, .int (nI k)), (2, .int (nI n1)), (3, .int (nI w)), (4, .int (nI m1))]) hx hb dX10_drill_148 hl (by decide) rfl (fun ls hl => ?_)
              refine lv_iconst (v := nI 0) hx hb dX10_drill_150 (by decide) ?_
              refine lv_istore (lv' := [(7, .int (nI 0)), (5, .long (lN (10 ^ n1))), (0, .ref (g 0)), (1, .int (nI k)), (2, .int (nI n1)), (3, .int (nI w)), (4, .int (nI m1))]) hx hb dX10_drill_151 hl (by decide) rfl (fun ls hl => ?_)
              have hl : lv_has ls 8 [(7, .int (nI 0)), (5, .long (lN (10 ^ (n1 - 0)))), (0, .ref (g 0)), (1, .int (nI k)), (2, .int (nI n1)), (3, .int (nI w)), (4, .int (nI m1))] := hl
              refine loopW (σ := Nat × (Nat → Int32) × Int64 × (Nat → Int32)) 153 (fun xx9 H locs ls => match xx9 with | (i2, t2, e2, h2) => (i2 ≤ n1) ∧ (AgR rk (vOf t2) (drL kd tn rk w n1 i2 (vOf pg, sd)).1) ∧ (e2 = (drL kd tn rk w n1 i2 (vOf pg, sd)).2) ∧ (SceneOk rk (vOf t2)) ∧ (¬ vOf t2 6 0 = 0 → vOf t2 5 0 = -9) ∧ va_P G vwCl [(g 5, .inl (cI, 7, .inl (fun i9 => nI (kd i9)))), (g 7, .inl (cI, 175, .inl (fun i9 => nI (tn i9)))), (g 12, .inl (cI, 50, .inl pg)), (g 24, .inl (cI, 50, .inl t2)), (g 26, .inl (cI, 7, .inl h2)), (g 0, .inr (10, [.int (nI 0), .ref (g 1), .int (nI ts), .int (nI pl), .int (nI rk), .ref (g 5), .int (nI sl), .ref (g 7), .int (nI rr), .int (nI rs), .ref (g 10), .ref (g 11), .ref (g 12), .long sd, .ref (g 14), .ref (g 15), .int (nI ac), .ref (g 17), .ref (g 18), .ref (g 19), .int (nI tc), .ref (g 21), .ref (g 22), .ref (g 23), .ref (g 24), .long e2, .ref (g 26), .ref (g 27), .ref (g 28), .ref (g 29), .ref (g 30)]))] H ∧ va_D A [(g 5, .inl (cI, 7, .inl (fun i9 => nI (kd i9)))), (g 7, .inl (cI, 175, .inl (fun i9 => nI (tn i9)))), (g 12, .inl (cI, 50, .inl pg)), (g 24, .inl (cI, 50, .inl t2)), (g 26, .inl (cI, 7, .inl h2)), (g 0, .inr (10, [.int (nI 0), .ref (g 1), .int (nI ts), .int (nI pl), .int (nI rk), .ref (g 5), .int (nI sl), .ref (g 7), .int (nI rr), .int (nI rs), .ref (g 10), .ref (g 11), .ref (g 12), .long sd, .ref (g 14), .ref (g 15), .int (nI ac), .ref (g 17), .ref (g 18), .ref (g 19), .int (nI tc), .ref (g 21), .ref (g 22), .ref (g 23), .ref (g 24), .long e2, .ref (g 26), .ref (g 27), .ref (g 28), .ref (g 29), .ref (g 30)]))] ∧ va_S A s.heap H locs ∧ lv_has ls 8 [(7, .int (nI i2)), (5, .long (lN (10 ^ (n1 - i2)))), (0, .ref (g 0)), (1, .int (nI k)), (2, .int (nI n1)), (3, .int (nI w)), (4, .int (nI m1))]) (fun xx9 => match xx9 with | (i2, t2, e2, h2) => []) (fun xx9 => match xx9 with | (i2, t2, e2, h2) => n1 - i2) ?_ (0, tc9, sd, th) ⟨by first | assumption | omega | (simp; done), dr_c (fun z hz => hcp z (by omega)), rfl, ag_ok (ag_symm (dr_c (fun z hz => hcp z (by omega)))) hsc, dr_o (fun z hz => hcp z (by omega)) (hso (by omega)), hP.sub [0, 1, 2, 3, 4, 5] rfl, hD.sub [0, 1, 2, 3, 4, 5] (by decide) rfl, hS, lv_sub hl [0, 1, 2, 3, 4, 5, 6] rfl⟩
              intro xx9 H locs ls hI ih_153
              obtain ⟨i2, t2, e2, h2⟩ := xx9
              obtain ⟨hi2, ha2, he2, hs2, ho2, hP, hD, hS, hl⟩ := hI
              have hi2 : i2 ≤ n1 := hi2
              have ha2 : AgR rk (vOf t2) (drL kd tn rk w n1 i2 (vOf pg, sd)).1 := ha2
              have he2 : e2 = (drL kd tn rk w n1 i2 (vOf pg, sd)).2 := he2
              have hs2 : SceneOk rk (vOf t2) := hs2
              have ho2 : ¬ vOf t2 6 0 = 0 → vOf t2 5 0 = -9 := ho2
              have hP : va_P G vwCl [(g 5, .inl (cI, 7, .inl (fun i9 => nI (kd i9)))), (g 7, .inl (cI, 175, .inl (fun i9 => nI (tn i9)))), (g 12, .inl (cI, 50, .inl pg)), (g 24, .inl (cI, 50, .inl t2)), (g 26, .inl (cI, 7, .inl h2)), (g 0, .inr (10, [.int (nI 0), .ref (g 1), .int (nI ts), .int (nI pl), .int (nI rk), .ref (g 5), .int (nI sl), .ref (g 7), .int (nI rr), .int (nI rs), .ref (g 10), .ref (g 11), .ref (g 12), .long sd, .ref (g 14), .ref (g 15), .int (nI ac), .ref (g 17), .ref (g 18), .ref (g 19), .int (nI tc), .ref (g 21), .ref (g 22), .ref (g 23), .ref (g 24), .long e2, .ref (g 26), .ref (g 27), .ref (g 28), .ref (g 29), .ref (g 30)]))] _ := hP
              have hD : va_D A [(g 5, .inl (cI, 7, .inl (fun i9 => nI (kd i9)))), (g 7, .inl (cI, 175, .inl (fun i9 => nI (tn i9)))), (g 12, .inl (cI, 50, .inl pg)), (g 24, .inl (cI, 50, .inl t2)), (g 26, .inl (cI, 7, .inl h2)), (g 0, .inr (10, [.int (nI 0), .ref (g 1), .int (nI ts), .int (nI pl), .int (nI rk), .ref (g 5), .int (nI sl), .ref (g 7), .int (nI rr), .int (nI rs), .ref (g 10), .ref (g 11), .ref (g 12), .long sd, .ref (g 14), .ref (g 15), .int (nI ac), .ref (g 17), .ref (g 18), .ref (g 19), .int (nI tc), .ref (g 21), .ref (g 22), .ref (g 23), .ref (g 24), .long e2, .ref (g 26), .ref (g 27), .ref (g 28), .ref (g 29), .ref (g 30)]))] := hD
              have hl : lv_has ls 8 [(7, .int (nI i2)), (5, .long (lN (10 ^ (n1 - i2)))), (0, .ref (g 0)), (1, .int (nI k)), (2, .int (nI n1)), (3, .int (nI w)), (4, .int (nI m1))] := hl
              refine lv_iload hx hb dX10_drill_153 (lv_at hl 0 rfl) ?_
              refine lv_iload_n hx hb dX10_drill_155 rfl (lv_at hl 4 rfl) ?_
              refine lv_icmp_ge (tgt := 199) hx hb dX10_drill_156 (by decide) (fun c_156 => ?_) (fun c_156 => ?_)
              · skip
                have c_156 := n_geT c_156 (by omega) (by omega)
                refine lv_iconst (v := nI 0) hx hb dX10_drill_199 (by decide) ?_
                refine lv_istore (lv' := [(7, .int (nI 0)), (5, .long (lN (10 ^ (n1 - i2)))), (0, .ref (g 0)), (1, .int (nI k)), (2, .int (nI n1)), (3, .int (nI w)), (4, .int (nI m1))]) hx hb dX10_drill_200 hl (by decide) rfl (fun ls hl => ?_)
                refine loopW (σ := Nat × (Nat → Int32) × Int64 × (Nat → Int32)) 202 (fun xx9 H locs ls => match xx9 with | (i3, t3, e3, h3) => (i3 ≤ m1) ∧ (AgR rk (vOf t3) (drM kd tn rk i3 (drL kd tn rk w n1 n1 (vOf pg, sd))).1) ∧ (e3 = (drM kd tn rk i3 (drL kd tn rk w n1 n1 (vOf pg, sd))).2) ∧ (SceneOk rk (vOf t3)) ∧ va_P G vwCl [(g 5, .inl (cI, 7, .inl (fun i9 => nI (kd i9)))), (g 7, .inl (cI, 175, .inl (fun i9 => nI (tn i9)))), (g 12, .inl (cI, 50, .inl pg)), (g 24, .inl (cI, 50, .inl t3)), (g 26, .inl (cI, 7, .inl h3)), (g 0, .inr (10, [.int (nI 0), .ref (g 1), .int (nI ts), .int (nI pl), .int (nI rk), .ref (g 5), .int (nI sl), .ref (g 7), .int (nI rr), .int (nI rs), .ref (g 10), .ref (g 11), .ref (g 12), .long sd, .ref (g 14), .ref (g 15), .int (nI ac), .ref (g 17), .ref (g 18), .ref (g 19), .int (nI tc), .ref (g 21), .ref (g 22), .ref (g 23), .ref (g 24), .long e3, .ref (g 26), .ref (g 27), .ref (g 28), .ref (g 29), .ref (g 30)]))] H ∧ va_D A [(g 5, .inl (cI, 7, .inl (fun i9 => nI (kd i9)))), (g 7, .inl (cI, 175, .inl (fun i9 => nI (tn i9)))), (g 12, .inl (cI, 50, .inl pg)), (g 24, .inl (cI, 50, .inl t3)), (g 26, .inl (cI, 7, .inl h3)), (g 0, .inr (10, [.int (nI 0), .ref (g 1), .int (nI ts), .int (nI pl), .int (nI rk), .ref (g 5), .int (nI sl), .ref (g 7), .int (nI rr), .int (nI rs), .ref (g 10), .ref (g 11), .ref (g 12), .long sd, .ref (g 14), .ref (g 15), .int (nI ac), .ref (g 17), .ref (g 18), .ref (g 19), .int (nI tc), .ref (g 21), .ref (g 22), .ref (g 23), .ref (g 24), .long e3, .ref (g 26), .ref (g 27), .ref (g 28), .ref (g 29), .ref (g 30)]))] ∧ va_S A s.heap H locs ∧ lv_has ls 8 [(7, .int (nI i3)), (0, .ref (g 0)), (1, .int (nI k)), (2, .int (nI n1)), (3, .int (nI w)), (4, .int (nI m1))]) (fun xx9 => match xx9 with | (i3, t3, e3, h3) => []) (fun xx9 => match xx9 with | (i3, t3, e3, h3) => m1 - i3) ?_ (0, t2, e2, h2) ⟨by first | assumption | omega | (simp; done), dr_e ha2 (show i2 = n1 by omega), dr_f he2 (show i2 = n1 by omega), hs2, hP.sub [0, 1, 2, 3, 4, 5] rfl, hD.sub [0, 1, 2, 3, 4, 5] (by decide) rfl, hS, lv_sub hl [0, 2, 3, 4, 5, 6] rfl⟩
                intro xx9 H locs ls hI ih_202
                obtain ⟨i3, t3, e3, h3⟩ := xx9
                obtain ⟨hi3, ha3, he3, hs3, hP, hD, hS, hl⟩ := hI
                have hi3 : i3 ≤ m1 := hi3
                have ha3 : AgR rk (vOf t3) (drM kd tn rk i3 (drL kd tn rk w n1 n1 (vOf pg, sd))).1 := ha3
                have he3 : e3 = (drM kd tn rk i3 (drL kd tn rk w n1 n1 (vOf pg, sd))).2 := he3
                have hs3 : SceneOk rk (vOf t3) := hs3
                have hP : va_P G vwCl [(g 5, .inl (cI, 7, .inl (fun i9 => nI (kd i9)))), (g 7, .inl (cI, 175, .inl (fun i9 => nI (tn i9)))), (g 12, .inl (cI, 50, .inl pg)), (g 24, .inl (cI, 50, .inl t3)), (g 26, .inl (cI, 7, .inl h3)), (g 0, .inr (10, [.int (nI 0), .ref (g 1), .int (nI ts), .int (nI pl), .int (nI rk), .ref (g 5), .int (nI sl), .ref (g 7), .int (nI rr), .int (nI rs), .ref (g 10), .ref (g 11), .ref (g 12), .long sd, .ref (g 14), .ref (g 15), .int (nI ac), .ref (g 17), .ref (g 18), .ref (g 19), .int (nI tc), .ref (g 21), .ref (g 22), .ref (g 23), .ref (g 24), .long e3, .ref (g 26), .ref (g 27), .ref (g 28), .ref (g 29), .ref (g 30)]))] _ := hP
                have hD : va_D A [(g 5, .inl (cI, 7, .inl (fun i9 => nI (kd i9)))), (g 7, .inl (cI, 175, .inl (fun i9 => nI (tn i9)))), (g 12, .inl (cI, 50, .inl pg)), (g 24, .inl (cI, 50, .inl t3)), (g 26, .inl (cI, 7, .inl h3)), (g 0, .inr (10, [.int (nI 0), .ref (g 1), .int (nI ts), .int (nI pl), .int (nI rk), .ref (g 5), .int (nI sl), .ref (g 7), .int (nI rr), .int (nI rs), .ref (g 10), .ref (g 11), .ref (g 12), .long sd, .ref (g 14), .ref (g 15), .int (nI ac), .ref (g 17), .ref (g 18), .ref (g 19), .int (nI tc), .ref (g 21), .ref (g 22), .ref (g 23), .ref (g 24), .long e3, .ref (g 26), .ref (g 27), .ref (g 28), .ref (g 29), .ref (g 30)]))] := hD
                have hl : lv_has ls 8 [(7, .int (nI i3)), (0, .ref (g 0)), (1, .int (nI k)), (2, .int (nI n1)), (3, .int (nI w)), (4, .int (nI m1))] := hl
                refine lv_iload hx hb dX10_drill_202 (lv_at hl 0 rfl) ?_
                refine lv_iload hx hb dX10_drill_204 (lv_at hl 5 rfl) ?_
                refine lv_icmp_ge (tgt := 223) hx hb dX10_drill_206 (by decide) (fun c_206 => ?_) (fun c_206 => ?_)
                · skip
                  have c_206 := n_geT c_206 (by omega) (by omega)
                  refine lv_sipush (v := nI 1000) hx hb dX10_drill_223 (by decide) ?_
                  refine lv_sipush (v := nI 1000) hx hb dX10_drill_226 (by decide) ?_
                  refine lv_aload_n hx hb dX10_drill_229 rfl (lv_at hl 1 rfl) ?_
                  refine va_get (D := G) (ci := 10) (v := .ref (g 24)) (C := RX10) (T := TX10) (N := 31) hx hb hts hin10 hown hK.1 hP 5 rfl rfl 24 (by decide) k_5 (fun _ h9 => h9) rfl dX10_drill_230 ?_
                  refine lv_bipush (v := nI 21) hx hb dX10_drill_233 (by decide) ?_
                  refine lv_iload_n hx hb dX10_drill_235 rfl (lv_at hl 2 rfl) ?_
                  refine lv_iadd hx hb dX10_drill_236 ?_
                  refine top_i (y := nI (21 + k)) (nI_add _ _) ?_
                  refine ald hx hb hK hP 3 0 rfl rfl (j := 21 + k) (by omega) (by omega) dX10_drill_237 ?_
                  refine lv_iadd hx hb dX10_drill_238 ?_
                  refine lv_imul hx hb dX10_drill_239 ?_
                  refine lv_aload_n hx hb dX10_drill_240 rfl (lv_at hl 1 rfl) ?_
                  refine va_get (D := G) (ci := 10) (v := .ref (g 24)) (C := RX10) (T := TX10) (N := 31) hx hb hts hin10 hown hK.1 hP 5 rfl rfl 24 (by decide) k_5 (fun _ h9 => h9) rfl dX10_drill_241 ?_
                  refine lv_bipush (v := nI 28) hx hb dX10_drill_244 (by decide) ?_
                  refine lv_iload_n hx hb dX10_drill_246 rfl (lv_at hl 2 rfl) ?_
                  refine lv_iadd hx hb dX10_drill_247 ?_
                  refine top_i (y := nI (28 + k)) (nI_add _ _) ?_
                  refine ald hx hb hK hP 3 0 rfl rfl (j := 28 + k) (by omega) (by omega) dX10_drill_248 ?_
                  refine lv_iadd hx hb dX10_drill_249 ?_
                  exact endI hx hb hr hlocks ((t3, e3, h3)) (DrP_ok hk hn0 hn7 (by omega) ⟨hw9, dr_n (fun j hj => hro j (by omega))⟩ hm1 hrk ⟨vOf pg, fun _ _ _ _ => rfl, dr_z ha3 (show i3 = m1 by omega) hk (by omega)⟩) (hP.sub [5, 0, 1, 2, 3, 4] rfl) (hD.sub [5, 0, 1, 2, 3, 4] (by decide) rfl) hS dX10_drill_250
                · skip
                  have c_206 := n_geF c_206 (by omega) (by omega)
                  refine lv_aload_n hx hb dX10_drill_209 rfl (lv_at hl 1 rfl) ?_
                  refine lv_aload_n hx hb dX10_drill_210 rfl (lv_at hl 1 rfl) ?_
                  refine va_get (D := G) (ci := 10) (v := .ref (g 24)) (C := RX10) (T := TX10) (N := 31) hx hb hts hin10 hown hK.1 hP 5 rfl rfl 24 (by decide) k_5 (fun _ h9 => h9) rfl dX10_drill_211 ?_
                  refine aft_v (wr := [(g 12, .inl (cI, 50, .inl pg))]) (va_runV (As := [.ref (g 24)]) (rest := []) ⟨hx, hb, hml, hown, hts⟩ (c_X10_goMinute (g := g) (ts := ts) (pl := pl) (rk := rk) (sl := sl) (rr := rr) (rs := rs) (ac := ac) (tc := tc) (sd := sd) (td9 := e3) (kd := kd) (tn := tn) (pa := g 24) (pg := t3) (th := h3) (hrk := hrk) (hok := hok) (hdg := hdg) (hsc := hs3) _) (cwV 1 hts gX10_drill_X10_goMinute rfl rfl rfl (by decide +kernel) ⟨Nat.le_of_ble_eq_true rfl, Nat.le_of_ble_eq_true rfl⟩) (preV (cq := (RX10, TX10, 31)) (q0 := 5) (ci := 10) hK hP hD [5, 0, 1, 3, 4] rfl rfl rfl rfl) rfl rfl hl.1 rfl (lv_room (Nat.le_of_ble_eq_true rfl)) dX10_drill_214 ⟨Nat.le_of_ble_eq_true rfl, Nat.le_of_ble_eq_true rfl⟩) hP hD hS hA [5, 0, 1, 3, 4] [2] rfl rfl rfl (by decide) (fun uu9 H locs hw hP hD hS => ?_)
                  obtain ⟨q1_214, t1_214⟩ := uu9
                  have hP : va_P G vwCl [(g 12, .inl (cI, 50, .inl pg)), (g 0, .inr (10, [.int (nI 0), .ref (g 1), .int (nI ts), .int (nI pl), .int (nI rk), .ref (g 5), .int (nI sl), .ref (g 7), .int (nI rr), .int (nI rs), .ref (g 10), .ref (g 11), .ref (g 12), .long sd, .ref (g 14), .ref (g 15), .int (nI ac), .ref (g 17), .ref (g 18), .ref (g 19), .int (nI tc), .ref (g 21), .ref (g 22), .ref (g 23), .ref (g 24), .long (minS kd tn rk (vOf t3) e3), .ref (g 26), .ref (g 27), .ref (g 28), .ref (g 29), .ref (g 30)])), (g 5, .inl (cI, 7, .inl (fun i9 => nI (kd i9)))), (g 7, .inl (cI, 175, .inl (fun i9 => nI (tn i9)))), (g 24, .inl (cI, 50, .inl q1_214)), (g 26, .inl (cI, 7, .inl t1_214))] _ := hP
                  have hD : va_D A [(g 12, .inl (cI, 50, .inl pg)), (g 0, .inr (10, [.int (nI 0), .ref (g 1), .int (nI ts), .int (nI pl), .int (nI rk), .ref (g 5), .int (nI sl), .ref (g 7), .int (nI rr), .int (nI rs), .ref (g 10), .ref (g 11), .ref (g 12), .long sd, .ref (g 14), .ref (g 15), .int (nI ac), .ref (g 17), .ref (g 18), .ref (g 19), .int (nI tc), .ref (g 21), .ref (g 22), .ref (g 23), .ref (g 24), .long (minS kd tn rk (vOf t3) e3), .ref (g 26), .ref (g 27), .ref (g 28), .ref (g 29), .ref (g 30)])), (g 5, .inl (cI, 7, .inl (fun i9 => nI (kd i9)))), (g 7, .inl (cI, 175, .inl (fun i9 => nI (tn i9)))), (g 24, .inl (cI, 50, .inl q1_214)), (g 26, .inl (cI, 7, .inl t1_214))] := hD
                  have hw_214 : (∀ f j, f < 7 → j < rk → vOf q1_214 f j = minV kd tn rk (vOf t3) e3 f j) ∧ q1_214 49 = t3 49 + nI 1 := hw
                  refine lv_iinc (v := nI (i3 + 1)) (lv' := [(7, .int (nI (i3 + 1))), (0, .ref (g 0)), (1, .int (nI k)), (2, .int (nI n1)), (3, .int (nI w)), (4, .int (nI m1))]) hx hb dX10_drill_217 hl (k := 0) rfl (nI_inc _ 1 1 (by decide)) (by decide) rfl (fun ls hl => ?_)
                  refine lv_goto (tgt := 202) hx hb dX10_drill_220 (by decide) ?_
                  exact ih_202 ((i3 + 1), q1_214, (minS kd tn rk (vOf t3) e3), t1_214) _ _ _ (by first | omega | (simp only []; omega) | (show _ < _; omega)) ⟨by first | assumption | omega | (simp; done), dr_g ha3 he3 (fun f j hf hj => hw_214.1 f j hf hj), dr_h ha3 he3, ag_ok (ag_symm (fun f j hf hj => hw_214.1 f j hf hj)) (SceneOk_min hs3), hP.sub [2, 3, 0, 4, 5, 1] rfl, hD.sub [2, 3, 0, 4, 5, 1] (by decide) rfl, hS, lv_sub hl [0, 1, 2, 3, 4, 5] rfl⟩
              · skip
                have c_156 := n_geF c_156 (by omega) (by omega)
                have hp8 := pow_b (n := n1 - i2) (by omega)
                have hp7 := pow_b (n := n1 - 1 - i2) (by omega)
                refine lv_lload hx hb dX10_drill_159 (lv_at hl 1 rfl) ?_
                refine lv_ldc2 (v := (10 : Int64)) hx hb hown k_6 dX10_drill_161 ?_
                refine top_l (y := lN 10) (by decide) ?_
                refine lv_ldiv hx hb dX10_drill_164 (by decide) ?_
                refine top_l (y := lN ((10 ^ (n1 - i2)) / 10)) (pk_lDiv (by omega) (by omega) (by omega)) ?_
                refine top_l (y := lN (10 ^ (n1 - 1 - i2))) (dr_p (by omega)) ?_
                refine lv_lstore (lv' := [(5, .long (lN (10 ^ (n1 - 1 - i2)))), (7, .int (nI i2)), (0, .ref (g 0)), (1, .int (nI k)), (2, .int (nI n1)), (3, .int (nI w)), (4, .int (nI m1))]) hx hb dX10_drill_165 hl (by decide) rfl (fun ls hl => ?_)
                refine lv_aload_n hx hb dX10_drill_167 rfl (lv_at hl 2 rfl) ?_
                refine lv_aload_n hx hb dX10_drill_168 rfl (lv_at hl 2 rfl) ?_
                refine va_get (D := G) (ci := 10) (v := .ref (g 24)) (C := RX10) (T := TX10) (N := 31) hx hb hts hin10 hown hK.1 hP 5 rfl rfl 24 (by decide) k_5 (fun _ h9 => h9) rfl dX10_drill_169 ?_
                refine lv_iload_n hx hb dX10_drill_172 rfl (lv_at hl 5 rfl) ?_
                refine lv_i2l (v := lN w) hx hb dX10_drill_173 (nI_l (by omega)) ?_
                refine lv_lload hx hb dX10_drill_174 (lv_at hl 0 rfl) ?_
                refine lv_ldiv hx hb dX10_drill_176 (lN_ne0 (by omega) (by omega)) ?_
                refine top_l (y := lN (w / (10 ^ (n1 - 1 - i2)))) (pk_lDiv (by omega) (by omega) (by omega)) ?_
                have hq7 := Nat.div_le_self w (10 ^ (n1 - 1 - i2))
                have hd5 : w / 10 ^ (n1 - 1 - i2) % 10 < 5 := hro i2 (by omega)
                refine lv_ldc2 (v := (10 : Int64)) hx hb hown k_6 dX10_drill_177 ?_
                refine top_l (y := lN 10) (by decide) ?_
                refine lv_lrem hx hb dX10_drill_180 (by decide) ?_
                refine top_l (y := lN ((w / (10 ^ (n1 - 1 - i2))) % 10)) (pk_lRem (by omega) (by omega) (by omega)) ?_
                refine lv_l2i (v := nI ((w / (10 ^ (n1 - 1 - i2))) % 10)) hx hb dX10_drill_181 (lN_i _) ?_
                refine aft_v (wr := [(g 7, .inl (cI, 175, .inl (fun i9 => nI (tn i9)))), (g 12, .inl (cI, 50, .inl pg)), (g 26, .inl (cI, 7, .inl h2))]) (va_runV (As := [.ref (g 24), .int (nI ((w / (10 ^ (n1 - 1 - i2))) % 10))]) (rest := []) ⟨hx, hb, hml, hown, hts⟩ (c_X10_sayTo (g := g) (ts := ts) (pl := pl) (rk := rk) (sl := sl) (rr := rr) (rs := rs) (ac := ac) (tc := tc) (sd := sd) (td9 := e2) (kd := kd) (pa := g 24) (pg := t2) (o := (w / (10 ^ (n1 - 1 - i2))) % 10) (ho := hd5) (hzk := (hs2 0 (by omega)).2) (hkd := hok.1) (hso := ho2) _) (cwV 2 hts gX10_drill_X10_sayTo rfl rfl rfl (by decide +kernel) ⟨Nat.le_of_ble_eq_true rfl, Nat.le_of_ble_eq_true rfl⟩) (preV (cq := (RX10, TX10, 31)) (q0 := 5) (ci := 10) hK hP hD [5, 0, 3] rfl rfl rfl rfl) rfl rfl hl.1 rfl (lv_room (Nat.le_of_ble_eq_true rfl)) dX10_drill_182 ⟨Nat.le_of_ble_eq_true rfl, Nat.le_of_ble_eq_true rfl⟩) hP hD hS hA [5, 0, 3] [1, 2, 4] rfl rfl rfl (by decide) (fun uu9 H locs hw hP hD hS => ?_)
                obtain ⟨q1_182, rfl⟩ : ∃ z, z = uu9 := ⟨_, rfl⟩
                have hP : va_P G vwCl [(g 7, .inl (cI, 175, .inl (fun i9 => nI (tn i9)))), (g 12, .inl (cI, 50, .inl pg)), (g 26, .inl (cI, 7, .inl h2)), (g 0, .inr (10, [.int (nI 0), .ref (g 1), .int (nI ts), .int (nI pl), .int (nI rk), .ref (g 5), .int (nI sl), .ref (g 7), .int (nI rr), .int (nI rs), .ref (g 10), .ref (g 11), .ref (g 12), .long sd, .ref (g 14), .ref (g 15), .int (nI ac), .ref (g 17), .ref (g 18), .ref (g 19), .int (nI tc), .ref (g 21), .ref (g 22), .ref (g 23), .ref (g 24), .long e2, .ref (g 26), .ref (g 27), .ref (g 28), .ref (g 29), .ref (g 30)])), (g 5, .inl (cI, 7, .inl (fun i9 => nI (kd i9)))), (g 24, .inl (cI, 50, .inl q1_182))] _ := hP
                have hD : va_D A [(g 7, .inl (cI, 175, .inl (fun i9 => nI (tn i9)))), (g 12, .inl (cI, 50, .inl pg)), (g 26, .inl (cI, 7, .inl h2)), (g 0, .inr (10, [.int (nI 0), .ref (g 1), .int (nI ts), .int (nI pl), .int (nI rk), .ref (g 5), .int (nI sl), .ref (g 7), .int (nI rr), .int (nI rs), .ref (g 10), .ref (g 11), .ref (g 12), .long sd, .ref (g 14), .ref (g 15), .int (nI ac), .ref (g 17), .ref (g 18), .ref (g 19), .int (nI tc), .ref (g 21), .ref (g 22), .ref (g 23), .ref (g 24), .long e2, .ref (g 26), .ref (g 27), .ref (g 28), .ref (g 29), .ref (g 30)])), (g 5, .inl (cI, 7, .inl (fun i9 => nI (kd i9)))), (g 24, .inl (cI, 50, .inl q1_182))] := hD
                have hw_182 : vOf q1_182 = giveV (kd 0) (vOf t2) ((w / (10 ^ (n1 - 1 - i2))) % 10) ∧ q1_182 49 = t2 49 := hw
                refine lv_aload_n hx hb dX10_drill_185 rfl (lv_at hl 2 rfl) ?_
                refine lv_aload_n hx hb dX10_drill_186 rfl (lv_at hl 2 rfl) ?_
                refine va_get (D := G) (ci := 10) (v := .ref (g 24)) (C := RX10) (T := TX10) (N := 31) hx hb hts hin10 hown hK.1 hP 3 rfl rfl 24 (by decide) k_5 (fun _ h9 => h9) rfl dX10_drill_187 ?_
                refine aft_v (wr := [(g 12, .inl (cI, 50, .inl pg))]) (va_runV (As := [.ref (g 24)]) (rest := []) ⟨hx, hb, hml, hown, hts⟩ (c_X10_goMinute (g := g) (ts := ts) (pl := pl) (rk := rk) (sl := sl) (rr := rr) (rs := rs) (ac := ac) (tc := tc) (sd := sd) (td9 := e2) (kd := kd) (tn := tn) (pa := g 24) (pg := q1_182) (th := h2) (hrk := hrk) (hok := hok) (hdg := hdg) (hsc := by rw [hw_182.1]; exact SceneOk_give hs2 hd5) _) (cwV 1 hts gX10_drill_X10_goMinute rfl rfl rfl (by decide +kernel) ⟨Nat.le_of_ble_eq_true rfl, Nat.le_of_ble_eq_true rfl⟩) (preV (cq := (RX10, TX10, 31)) (q0 := 3) (ci := 10) hK hP hD [3, 4, 0, 5, 2] rfl rfl rfl rfl) rfl rfl hl.1 rfl (lv_room (Nat.le_of_ble_eq_true rfl)) dX10_drill_190 ⟨Nat.le_of_ble_eq_true rfl, Nat.le_of_ble_eq_true rfl⟩) hP hD hS hA [3, 4, 0, 5, 2] [1] rfl rfl rfl (by decide) (fun uu9 H locs hw hP hD hS => ?_)
                obtain ⟨q1_190, t1_190⟩ := uu9
                have hP : va_P G vwCl [(g 12, .inl (cI, 50, .inl pg)), (g 0, .inr (10, [.int (nI 0), .ref (g 1), .int (nI ts), .int (nI pl), .int (nI rk), .ref (g 5), .int (nI sl), .ref (g 7), .int (nI rr), .int (nI rs), .ref (g 10), .ref (g 11), .ref (g 12), .long sd, .ref (g 14), .ref (g 15), .int (nI ac), .ref (g 17), .ref (g 18), .ref (g 19), .int (nI tc), .ref (g 21), .ref (g 22), .ref (g 23), .ref (g 24), .long (minS kd tn rk (vOf q1_182) e2), .ref (g 26), .ref (g 27), .ref (g 28), .ref (g 29), .ref (g 30)])), (g 5, .inl (cI, 7, .inl (fun i9 => nI (kd i9)))), (g 7, .inl (cI, 175, .inl (fun i9 => nI (tn i9)))), (g 24, .inl (cI, 50, .inl q1_190)), (g 26, .inl (cI, 7, .inl t1_190))] _ := hP
                have hD : va_D A [(g 12, .inl (cI, 50, .inl pg)), (g 0, .inr (10, [.int (nI 0), .ref (g 1), .int (nI ts), .int (nI pl), .int (nI rk), .ref (g 5), .int (nI sl), .ref (g 7), .int (nI rr), .int (nI rs), .ref (g 10), .ref (g 11), .ref (g 12), .long sd, .ref (g 14), .ref (g 15), .int (nI ac), .ref (g 17), .ref (g 18), .ref (g 19), .int (nI tc), .ref (g 21), .ref (g 22), .ref (g 23), .ref (g 24), .long (minS kd tn rk (vOf q1_182) e2), .ref (g 26), .ref (g 27), .ref (g 28), .ref (g 29), .ref (g 30)])), (g 5, .inl (cI, 7, .inl (fun i9 => nI (kd i9)))), (g 7, .inl (cI, 175, .inl (fun i9 => nI (tn i9)))), (g 24, .inl (cI, 50, .inl q1_190)), (g 26, .inl (cI, 7, .inl t1_190))] := hD
                have hw_190 : (∀ f j, f < 7 → j < rk → vOf q1_190 f j = minV kd tn rk (vOf q1_182) e2 f j) ∧ q1_190 49 = q1_182 49 + nI 1 := hw
                have hl : lv_has ls 8 [(5, .long (lN (10 ^ (n1 - (i2 + 1))))), (7, .int (nI i2)), (0, .ref (g 0)), (1, .int (nI k)), (2, .int (nI n1)), (3, .int (nI w)), (4, .int (nI m1))] := by rw [show n1 - (i2 + 1) = n1 - 1 - i2 by omega]; exact hl
                refine lv_iinc (v := nI (i2 + 1)) (lv' := [(7, .int (nI (i2 + 1))), (5, .long (lN (10 ^ (n1 - (i2 + 1))))), (0, .ref (g 0)), (1, .int (nI k)), (2, .int (nI n1)), (3, .int (nI w)), (4, .int (nI m1))]) hx hb dX10_drill_193 hl (k := 1) rfl (nI_inc _ 1 1 (by decide)) (by decide) rfl (fun ls hl => ?_)
                refine lv_goto (tgt := 153) hx hb dX10_drill_196 (by decide) ?_
                exact ih_153 ((i2 + 1), q1_190, (minS kd tn rk (vOf q1_182) e2), t1_190) _ _ _ (by first | omega | (simp only []; omega) | (show _ < _; omega)) ⟨by first | assumption | omega | (simp; done), dr_a ha2 he2 hw_182.1 (fun f j hf hj => hw_190.1 f j hf hj) (by omega), dr_b ha2 he2 hw_182.1 (by omega), ag_ok (ag_symm (fun f j hf hj => hw_190.1 f j hf hj)) (SceneOk_min (by rw [hw_182.1]; exact SceneOk_give hs2 hd5)), fun _ => (hw_190.1 5 0 (by decide) (by omega)).trans min_50, hP.sub [2, 3, 0, 4, 5, 1] rfl, hD.sub [2, 3, 0, 4, 5, 1] (by decide) rfl, hS, lv_sub hl [0, 1, 2, 3, 4, 5, 6] rfl⟩
            · skip
              have c_113 := n_geF c_113 (by omega) (by omega)
              refine lv_aload_n hx hb dX10_drill_116 rfl (lv_at hl 1 rfl) ?_
              refine va_get (D := G) (ci := 10) (v := .ref (g 24)) (C := RX10) (T := TX10) (N := 31) hx hb hts hin10 hown hK.1 hP 5 rfl rfl 24 (by decide) k_5 (fun _ h9 => h9) rfl dX10_drill_117 ?_
              refine lv_iload hx hb dX10_drill_120 (lv_at hl 0 rfl) ?_
              refine lv_aload_n hx hb dX10_drill_122 rfl (lv_at hl 1 rfl) ?_
              refine va_get (D := G) (ci := 10) (v := .ref (g 12)) (C := RX10) (T := TX10) (N := 31) hx hb hts hin10 hown hK.1 hP 5 rfl rfl 12 (by decide) k_7 (fun _ h9 => h9) rfl dX10_drill_123 ?_
              refine lv_iload hx hb dX10_drill_126 (lv_at hl 0 rfl) ?_
              refine ald hx hb hK hP 2 0 rfl rfl (j := c) (by omega) (by omega) dX10_drill_128 ?_
              refine ast (f' := upd tc9 c (pg c)) hx hb hK hP hD hS 3 0 rfl rfl (j := c) (by omega) (by omega) (rfl) dX10_drill_129 (fun H locs hP hD hS => ?_)
              have hP : va_P G vwCl [(g 5, .inl (cI, 7, .inl (fun i9 => nI (kd i9)))), (g 7, .inl (cI, 175, .inl (fun i9 => nI (tn i9)))), (g 12, .inl (cI, 50, .inl pg)), (g 24, .inl (cI, 50, .inl (upd tc9 c (pg c)))), (g 26, .inl (cI, 7, .inl th)), (g 0, .inr (10, [.int (nI 0), .ref (g 1), .int (nI ts), .int (nI pl), .int (nI rk), .ref (g 5), .int (nI sl), .ref (g 7), .int (nI rr), .int (nI rs), .ref (g 10), .ref (g 11), .ref (g 12), .long sd, .ref (g 14), .ref (g 15), .int (nI ac), .ref (g 17), .ref (g 18), .ref (g 19), .int (nI tc), .ref (g 21), .ref (g 22), .ref (g 23), .ref (g 24), .long td9, .ref (g 26), .ref (g 27), .ref (g 28), .ref (g 29), .ref (g 30)]))] _ := hP
              have hD : va_D A [(g 5, .inl (cI, 7, .inl (fun i9 => nI (kd i9)))), (g 7, .inl (cI, 175, .inl (fun i9 => nI (tn i9)))), (g 12, .inl (cI, 50, .inl pg)), (g 24, .inl (cI, 50, .inl (upd tc9 c (pg c)))), (g 26, .inl (cI, 7, .inl th)), (g 0, .inr (10, [.int (nI 0), .ref (g 1), .int (nI ts), .int (nI pl), .int (nI rk), .ref (g 5), .int (nI sl), .ref (g 7), .int (nI rr), .int (nI rs), .ref (g 10), .ref (g 11), .ref (g 12), .long sd, .ref (g 14), .ref (g 15), .int (nI ac), .ref (g 17), .ref (g 18), .ref (g 19), .int (nI tc), .ref (g 21), .ref (g 22), .ref (g 23), .ref (g 24), .long td9, .ref (g 26), .ref (g 27), .ref (g 28), .ref (g 29), .ref (g 30)]))] := hD
              refine lv_iinc (v := nI (c + 1)) (lv' := [(7, .int (nI (c + 1))), (0, .ref (g 0)), (1, .int (nI k)), (2, .int (nI n1)), (3, .int (nI w)), (4, .int (nI m1))]) hx hb dX10_drill_130 hl (k := 0) rfl (nI_inc _ 1 1 (by decide)) (by decide) rfl (fun ls hl => ?_)
              refine lv_goto (tgt := 109) hx hb dX10_drill_133 (by decide) ?_
              exact ih_109 ((c + 1), upd tc9 c (pg c)) _ _ _ (by first | omega | (simp only []; omega) | (show _ < _; omega)) ⟨by first | assumption | omega | (simp; done), fun z hz => by by_cases e : z = c; (rw [e]; exact if_pos rfl); exact (u_ne e).trans (hcp z (by omega)), hP.sub [0, 1, 2, 3, 4, 5] rfl, hD.sub [0, 1, 2, 3, 4, 5] (by decide) rfl, hS, lv_sub hl [0, 1, 2, 3, 4, 5] rfl⟩
          · skip
            have c_70 := n_geF c_70 (by omega) (by omega)
            have hp8 := pow_b (n := n1 - i) (by omega)
            have hp7 := pow_b (n := n1 - 1 - i) (by omega)
            refine lv_lload hx hb dX10_drill_73 (lv_at hl 1 rfl) ?_
            refine lv_ldc2 (v := (10 : Int64)) hx hb hown k_6 dX10_drill_75 ?_
            refine top_l (y := lN 10) (by decide) ?_
            refine lv_ldiv hx hb dX10_drill_78 (by decide) ?_
            refine top_l (y := lN ((10 ^ (n1 - i)) / 10)) (pk_lDiv (by omega) (by omega) (by omega)) ?_
            refine top_l (y := lN (10 ^ (n1 - 1 - i))) (dr_p (by omega)) ?_
            refine lv_lstore (lv' := [(5, .long (lN (10 ^ (n1 - 1 - i)))), (7, .int (nI i)), (0, .ref (g 0)), (1, .int (nI k)), (2, .int (nI n1)), (3, .int (nI w)), (4, .int (nI m1))]) hx hb dX10_drill_79 hl (by decide) rfl (fun ls hl => ?_)
            refine lv_iload_n hx hb dX10_drill_81 rfl (lv_at hl 5 rfl) ?_
            refine lv_i2l (v := lN w) hx hb dX10_drill_82 (nI_l (by omega)) ?_
            refine lv_lload hx hb dX10_drill_83 (lv_at hl 0 rfl) ?_
            refine lv_ldiv hx hb dX10_drill_85 (lN_ne0 (by omega) (by omega)) ?_
            refine top_l (y := lN (w / (10 ^ (n1 - 1 - i)))) (pk_lDiv (by omega) (by omega) (by omega)) ?_
            have hq7 := Nat.div_le_self w (10 ^ (n1 - 1 - i))
            refine lv_ldc2 (v := (10 : Int64)) hx hb hown k_6 dX10_drill_86 ?_
            refine top_l (y := lN 10) (by decide) ?_
            refine lv_lrem hx hb dX10_drill_89 (by decide) ?_
            refine top_l (y := lN ((w / (10 ^ (n1 - 1 - i))) % 10)) (pk_lRem (by omega) (by omega) (by omega)) ?_
            refine lv_l2i (v := nI ((w / (10 ^ (n1 - 1 - i))) % 10)) hx hb dX10_drill_90 (lN_i _) ?_
            refine aft_i (wr := [(g 5, .inl (cI, 7, .inl (fun i9 => nI (kd i9)))), (g 7, .inl (cI, 175, .inl (fun i9 => nI (tn i9)))), (g 12, .inl (cI, 50, .inl pg)), (g 24, .inl (cI, 50, .inl tw)), (g 26, .inl (cI, 7, .inl th)), (g 0, .inr (10, [.int (nI 0), .ref (g 1), .int (nI ts), .int (nI pl), .int (nI rk), .ref (g 5), .int (nI sl), .ref (g 7), .int (nI rr), .int (nI rs), .ref (g 10), .ref (g 11), .ref (g 12), .long sd, .ref (g 14), .ref (g 15), .int (nI ac), .ref (g 17), .ref (g 18), .ref (g 19), .int (nI tc), .ref (g 21), .ref (g 22), .ref (g 23), .ref (g 24), .long td9, .ref (g 26), .ref (g 27), .ref (g 28), .ref (g 29), .ref (g 30)]))]) (va_runS (As := [.int (nI ((w / (10 ^ (n1 - 1 - i))) % 10))]) (rest := []) ⟨hx, hb, hml, hown, hts⟩ (c_X10_noOrder (r := nI ((w / (10 ^ (n1 - 1 - i))) % 10)) _) (va_cwS 1 hts gX10_drill_X10_noOrder rfl rfl rfl (by decide +kernel) ⟨Nat.le_of_ble_eq_true rfl, Nat.le_of_ble_eq_true rfl⟩) (preS hK hP hD [] rfl rfl) rfl rfl hl.1 rfl (lv_room (Nat.le_of_ble_eq_true rfl)) dX10_drill_91 ⟨Nat.le_of_ble_eq_true rfl, Nat.le_of_ble_eq_true rfl⟩) hP hD hS hA [] [0, 1, 2, 3, 4, 5] rfl rfl rfl (by decide) (fun r_91 uu9 H locs hw hP hD hS => ?_)
            have hP : va_P G vwCl [(g 5, .inl (cI, 7, .inl (fun i9 => nI (kd i9)))), (g 7, .inl (cI, 175, .inl (fun i9 => nI (tn i9)))), (g 12, .inl (cI, 50, .inl pg)), (g 24, .inl (cI, 50, .inl tw)), (g 26, .inl (cI, 7, .inl th)), (g 0, .inr (10, [.int (nI 0), .ref (g 1), .int (nI ts), .int (nI pl), .int (nI rk), .ref (g 5), .int (nI sl), .ref (g 7), .int (nI rr), .int (nI rs), .ref (g 10), .ref (g 11), .ref (g 12), .long sd, .ref (g 14), .ref (g 15), .int (nI ac), .ref (g 17), .ref (g 18), .ref (g 19), .int (nI tc), .ref (g 21), .ref (g 22), .ref (g 23), .ref (g 24), .long td9, .ref (g 26), .ref (g 27), .ref (g 28), .ref (g 29), .ref (g 30)]))] _ := hP
            have hD : va_D A [(g 5, .inl (cI, 7, .inl (fun i9 => nI (kd i9)))), (g 7, .inl (cI, 175, .inl (fun i9 => nI (tn i9)))), (g 12, .inl (cI, 50, .inl pg)), (g 24, .inl (cI, 50, .inl tw)), (g 26, .inl (cI, 7, .inl th)), (g 0, .inr (10, [.int (nI 0), .ref (g 1), .int (nI ts), .int (nI pl), .int (nI rk), .ref (g 5), .int (nI sl), .ref (g 7), .int (nI rr), .int (nI rs), .ref (g 10), .ref (g 11), .ref (g 12), .long sd, .ref (g 14), .ref (g 15), .int (nI ac), .ref (g 17), .ref (g 18), .ref (g 19), .int (nI tc), .ref (g 21), .ref (g 22), .ref (g 23), .ref (g 24), .long td9, .ref (g 26), .ref (g 27), .ref (g 28), .ref (g 29), .ref (g 30)]))] := hD
            obtain rfl := hw
            refine top_i (y := bI (¬ isR 5 (nI ((w / (10 ^ (n1 - 1 - i))) % 10)))) rfl ?_
            refine lv_if_eq (tgt := 100) hx hb dX10_drill_94 (by decide) (fun c_94 => ?_) (fun c_94 => ?_)
            · skip
              have c_94 := bI_f c_94
              have c_94 := Classical.not_not.mp c_94
              have hd5 := isR_lt c_94 (by have := dg_10 (w / 10 ^ (n1 - 1 - i)); omega)
              have hl : lv_has ls 8 [(5, .long (lN (10 ^ (n1 - (i + 1))))), (7, .int (nI i)), (0, .ref (g 0)), (1, .int (nI k)), (2, .int (nI n1)), (3, .int (nI w)), (4, .int (nI m1))] := by rw [show n1 - (i + 1) = n1 - 1 - i by omega]; exact hl
              refine lv_iinc (v := nI (i + 1)) (lv' := [(7, .int (nI (i + 1))), (5, .long (lN (10 ^ (n1 - (i + 1))))), (0, .ref (g 0)), (1, .int (nI k)), (2, .int (nI n1)), (3, .int (nI w)), (4, .int (nI m1))]) hx hb dX10_drill_100 hl (k := 1) rfl (nI_inc _ 1 1 (by decide)) (by decide) rfl (fun ls hl => ?_)
              refine lv_goto (tgt := 67) hx hb dX10_drill_103 (by decide) ?_
              exact ih_67 (i + 1) _ _ _ (by first | omega | (simp only []; omega) | (show _ < _; omega)) ⟨by first | assumption | omega | (simp; done), lt_s hro hd5, hP.sub [0, 1, 2, 3, 4, 5] rfl, hD.sub [0, 1, 2, 3, 4, 5] (by decide) rfl, hS, lv_sub hl [0, 1, 2, 3, 4, 5, 6] rfl⟩
            · skip
              have c_94 := bI_t c_94
              refine lv_bipush (v := (-2)) hx hb dX10_drill_97 (by decide) ?_
              exact endI hx hb hr hlocks ((tw, td9, th)) (DrP_bad hk (fun z => c_94 (dr_d (by omega) (by omega) hw9 hp9.2 z.1))) (hP.sub [5, 0, 1, 2, 3, 4] rfl) (hD.sub [5, 0, 1, 2, 3, 4] (by decide) rfl) hS dX10_drill_99
        · skip
          have c_52 := bI_f c_52
          refine lv_bipush (v := (-2)) hx hb dX10_drill_55 (by decide) ?_
          exact endI hx hb hr hlocks ((tw, td9, th)) (DrP_bad hk (fun z => c_52 ((in_iff (10 ^ n1) (by omega) rfl (by omega)).mpr (dr_r (by omega) z.1)))) (hP.sub [5, 0, 1, 2, 3, 4] rfl) (hD.sub [5, 0, 1, 2, 3, 4] (by decide) rfl) hS dX10_drill_57
  · skip
    have c_10 := bI_t c_10
    refine lv_iconst (v := (-1)) hx hb dX10_drill_13 (by decide) ?_
    exact endI hx hb hr hlocks ((tw, td9, th)) (DrP_no c_10) (hP.sub [5, 0, 1, 2, 3, 4] rfl) (hD.sub [5, 0, 1, 2, 3, 4] (by decide) rfl) hS dX10_drill_14
