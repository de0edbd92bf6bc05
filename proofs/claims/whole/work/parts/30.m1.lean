/-! the reference: numbers, the text -/
theorem in_iff {x : Int32} {z : Int64} (n : Nat) (hn : n < 2147483648) (hz : z = lN (n - 1)) (h0 : 0 < n := by decide) : (lN 0 ≤ x.toInt64 ∧ x.toInt64 ≤ z) ↔ isR n x := by
  rw [isR_iff hn, hz, Int64.le_iff_toInt_le, Int64.le_iff_toInt_le, Int32.le_iff_toInt_le, Int32.lt_iff_toInt_lt, pk_lT (by omega), pk_lT (by omega), nI_toInt hn, Int32.toInt_toInt64]
  have e0 : (0 : Int32).toInt = 0 := by decide
  omega
theorem in_rk {x : Int32} {n : Nat} (hn : n < 8) : (lN 0 ≤ x.toInt64 ∧ x.toInt64 ≤ (nI n - nI 1).toInt64) ↔ isR n x := by
  rw [isR_iff (by omega), Int64.le_iff_toInt_le, Int64.le_iff_toInt_le, Int32.le_iff_toInt_le, Int32.lt_iff_toInt_lt, pk_lT (by omega), nI_toInt (by omega), Int32.toInt_toInt64, Int32.toInt_toInt64, pk_sub_toInt (by omega) (by omega)]
  have e0 : (0 : Int32).toInt = 0 := by decide
  omega
def manN (q : Nat) : Nat → Nat
  | 0 => 0
  | k + 1 => manN q k + q / 2 ^ k % 2
theorem manN_5 (q : Nat) : manN q 5 = popN q := by
  simp [manN, popN]
theorem in_18 {n : Int32} : (lN 1 ≤ n.toInt64 ∧ n.toInt64 ≤ lN 8) ↔ ∃ k, 0 < k ∧ k < 9 ∧ n = nI k := by
  have h9 := isR_iff (n := 9) (x := n) (by decide)
  rw [Int64.le_iff_toInt_le, Int64.le_iff_toInt_le, pk_lT (by decide), pk_lT (by decide), Int32.toInt_toInt64]
  constructor
  · intro h
    have h2 : isR 9 n := h9.mpr ⟨by rw [Int32.le_iff_toInt_le]; have e0 : (0 : Int32).toInt = 0 := by decide
                                    omega, by rw [Int32.lt_iff_toInt_lt, nI_toInt (by decide)]; omega⟩
    obtain ⟨k, hk, rfl⟩ := h2
    rw [nI_toInt (by omega)] at h
    exact ⟨k, by omega, hk, rfl⟩
  · rintro ⟨k, h0, h1, rfl⟩
    rw [nI_toInt (by omega)]
    omega
theorem in_fig {c a b : Nat} (hc : c < 256) (ha : a < 100) (hb : b < 100) : (lN a ≤ (nI c - nI 48).toInt64 ∧ (nI c - nI 48).toInt64 ≤ lN b) ↔ (a + 48 ≤ c ∧ c ≤ b + 48) := by
  rw [Int64.le_iff_toInt_le, Int64.le_iff_toInt_le, pk_lT (by omega), pk_lT (by omega), Int32.toInt_toInt64, pk_sub_toInt (by omega) (by omega)]
  omega
def FgP (tx : Nat → Nat) (ts pl a b p1 : Nat) (res : Int32) : Prop := ((pl < ts ∧ a + 48 ≤ tx pl ∧ tx pl ≤ b + 48) → res = nI (tx pl - 48) ∧ p1 = pl + 1) ∧ (¬ (pl < ts ∧ a + 48 ≤ tx pl ∧ tx pl ≤ b + 48) → res = -9 ∧ p1 = pl)
theorem FgP_end {tx : Nat → Nat} {ts pl a b : Nat} (h : pl = ts) : FgP tx ts pl a b pl (-9) := ⟨fun z => absurd z.1 (by omega), fun _ => ⟨rfl, rfl⟩⟩
theorem FgP_no {tx : Nat → Nat} {ts pl a b : Nat} (h : ¬ (a + 48 ≤ tx pl ∧ tx pl ≤ b + 48)) : FgP tx ts pl a b pl (-9) := ⟨fun z => absurd z.2 h, fun _ => ⟨rfl, rfl⟩⟩
theorem FgP_ok {tx : Nat → Nat} {ts pl a b : Nat} (h : pl < ts) (h2 : a + 48 ≤ tx pl ∧ tx pl ≤ b + 48) : FgP tx ts pl a b (pl + 1) (nI (tx pl - 48)) := ⟨fun _ => ⟨rfl, rfl⟩, fun z => absurd ⟨h, h2⟩ z⟩
/-- what the reference has read of an army -/
def RMo (s9 : RS) (rd rt : Nat → Nat) (rr rs : Nat) : Prop := s9.2.2.2.2.1 = rr ∧ s9.2.2.2.2.2.1 = rs ∧ (∀ k, k < rr → rd k = s9.2.2.2.2.2.2.1 k) ∧ ∀ i, i < 175 → rt i = s9.2.2.2.2.2.2.2 i
def FltAt (tx : Nat → Nat) (ts p : Nat) : Prop := (p < ts ∧ (∃ s9, runN tx p = some s9) ∧ runN tx (p + 1) = none) ∨ (p = ts ∧ ∃ s9, runN tx ts = some s9 ∧ ¬ s9.1 = 1)
/-- a part read: on to p1, or a fault at p1 -/
def PaP (tx : Nat → Nat) (ts pl p1 : Nat) (rd1 rt1 : Nat → Nat) (rr1 rs1 : Nat) (res : Int32) : Prop :=
  (res = nI 1 ∧ pl < p1 ∧ p1 ≤ ts ∧ ∃ s9, runN tx p1 = some s9 ∧ s9.1 = 1 ∧ RMo s9 rd1 rt1 rr1 rs1) ∨ (res = nI 0 ∧ p1 ≤ ts ∧ FltAt tx ts p1)
theorem run_next {tx : Nat → Nat} {p : Nat} {s8 s9 : RS} (h : runN tx p = some s8) (hd : dl (tx p) s8 = some s9) : runN tx (p + 1) = some s9 := by
  rw [runN, h]; exact hd
theorem PaP_end {tx : Nat → Nat} {ts pl j rr rs : Nat} {rd rt : Nat → Nat} (h : ∃ s9, runN tx pl = some s9 ∧ s9.1 = j ∧ RMo s9 rd rt rr rs) (hp : pl = ts) (hj : ¬ j = 1) : PaP tx ts pl pl rd rt rr rs (nI 0) := by
  obtain ⟨s9, h1, h2, -⟩ := h
  exact Or.inr ⟨rfl, by omega, Or.inr ⟨hp, s9, by rw [← hp]; exact h1, by rw [h2]; exact hj⟩⟩
theorem kindN_ne {c : Nat} (h0 : ¬ c = 112) (h1 : ¬ c = 100) (h2 : ¬ c = 102) (h3 : ¬ c = 115) : ¬ kindN c < 4 := by
  unfold kindN
  rw [if_neg h0, if_neg h1, if_neg h2, if_neg h3]
  omega
theorem PaP_rankno {tx : Nat → Nat} {ts pl rr rs : Nat} {rd rt : Nat → Nat} (h : ∃ s9, runN tx pl = some s9 ∧ s9.1 = 2 ∧ RMo s9 rd rt rr rs) (hp : pl < ts) (h0 : ¬ tx pl = 112) (h1 : ¬ tx pl = 100) (h2 : ¬ tx pl = 102) (h3 : ¬ tx pl = 115) : PaP tx ts pl pl rd rt rr rs (nI 0) := by
  obtain ⟨⟨stp, wy, tq, ho, rk, sl, kd, tn⟩, e1, e2, -⟩ := h
  have e2 : stp = 2 := e2
  subst e2
  refine Or.inr ⟨rfl, by omega, Or.inl ⟨hp, ⟨_, e1⟩, run_none e1 ?_⟩⟩
  rintro ⟨s9, z⟩
  exact kindN_ne h0 h1 h2 h3 (pO_some.mp z).1
theorem PaP_rank {tx : Nat → Nat} {ts pl rr rs c j : Nat} {rd rt : Nat → Nat} (h : ∃ s9, runN tx pl = some s9 ∧ s9.1 = 2 ∧ RMo s9 rd rt rr rs) (hp : pl < ts) (hc : tx pl = c) (hj : kindN c = j ∧ j < 4) : PaP tx ts pl (pl + 1) (va_up rd rr j) rt (rr + 1) rs (nI 1) := by
  obtain ⟨⟨stp, wy, tq, ho, rk, sl, kd, tn⟩, e1, e2, e3, e4, e5, e6⟩ := h
  have e2 : stp = 2 := e2
  have e3 : rk = rr := e3
  subst e2 e3
  refine Or.inl ⟨rfl, by omega, by omega, (1, wy, tq, ho, rk + 1, sl, va_up kd rk (kindN (tx pl)), tn), run_next e1 (pO_some.mpr ⟨by rw [hc, hj.1]; exact hj.2, rfl⟩), rfl, rfl, e4, fun k hk => ?_, e6⟩
  show va_up rd rk j k = va_up kd rk (kindN (tx pl)) k
  rw [hc, hj.1]
  by_cases e : k = rk
  · rw [e, va_up_self, va_up_self]
  · rw [va_up_ne _ _ e, va_up_ne _ _ e]; exact e5 k (by omega)
set_option maxHeartbeats 4000000 in
set_option maxRecDepth 100000 in
theorem c_X10_in {l : Launch} {G : va_G} {cI cJ cZ cS : ClassId} (x : Int64) (y : Int64) (z : Int64) : CI l G (kT cI cJ cZ cS) (S := Unit) yX10_in wsX10_in { frames := 0, cells := 0, slots := 0, locals := 0 } [.long x, .long y, .long z] [] (fun res _ => res = bI (y ≤ x ∧ x ≤ z)) (fun _ => []) := by
  refine CI.of (cc := cX10_in) (maxL := 6) (by decide) rfl (Nat.le_of_ble_eq_true rfl) ?_
  intro p9 e9 s m below meth co9 A ls hB
  obtain ⟨hx, hb, hml, hr, hts, hown, hlocks, hmn, hK, hP, hD, hS, hA, hl⟩ := hB
  have hP : va_P G vwCl [] s.heap := hP
  have hD : va_D A [] := hD
  have hl : lv_has ls 6 [(0, .long x), (2, .long y), (4, .long z)] := hl
  refine lv_lload_n hx hb dX10_in_0 rfl (lv_at hl 0 rfl) ?_
  refine lv_lload_n hx hb dX10_in_1 rfl (lv_at hl 1 rfl) ?_
  refine W.lcmp hx hb dX10_in_2 ?_
  refine lv_if_lt (tgt := 17) hx hb dX10_in_3 (by decide) (fun c_3 => ?_) (fun c_3 => ?_)
  · skip
    have c_3 := lc_ltT c_3
    refine lv_iconst (v := nI 0) hx hb dX10_in_17 (by decide) ?_
    exact endZ hx hb hr hlocks (rfl) (()) (bI_n (fun h => Int64.not_lt.mpr h.1 c_3)) (hP.sub [] rfl) (hD.sub [] (by decide) rfl) hS dX10_in_18
  · skip
    have c_3 := lc_ltF c_3
    refine lv_lload_n hx hb dX10_in_6 rfl (lv_at hl 0 rfl) ?_
    refine lv_lload hx hb dX10_in_7 (lv_at hl 2 rfl) ?_
    refine W.lcmp hx hb dX10_in_9 ?_
    refine lv_if_gt (tgt := 17) hx hb dX10_in_10 (by decide) (fun c_10 => ?_) (fun c_10 => ?_)
    · skip
      have c_10 := lc_gtT c_10
      refine lv_iconst (v := nI 0) hx hb dX10_in_17 (by decide) ?_
      exact endZ hx hb hr hlocks (rfl) (()) (bI_n (fun h => Int64.not_lt.mpr h.2 c_10)) (hP.sub [] rfl) (hD.sub [] (by decide) rfl) hS dX10_in_18
    · skip
      have c_10 := lc_gtF c_10
      refine lv_iconst (v := nI 1) hx hb dX10_in_13 (by decide) ?_
      refine lv_goto (tgt := 18) hx hb dX10_in_14 (by decide) ?_
      exact endZ hx hb hr hlocks (rfl) (()) (bI_y ⟨Int64.not_lt.mp c_3, Int64.not_lt.mp c_10⟩) (hP.sub [] rfl) (hD.sub [] (by decide) rfl) hS dX10_in_18

set_option maxHeartbeats 4000000 in
set_option maxRecDepth 100000 in
theorem c_X10_has {l : Launch} {G : va_G} {cI cJ cZ cS : ClassId} (q : Nat) (k : Nat) (hq : q < 32) (hk : k < 5) : CI l G (kT cI cJ cZ cS) (S := Unit) yX10_has wsX10_has { frames := 0, cells := 0, slots := 0, locals := 0 } [.int (nI q), .int (nI k)] [] (fun res _ => res = bI (q / 2 ^ k % 2 = 1)) (fun _ => []) := by
  refine CI.of (cc := cX10_has) (maxL := 2) (by decide) rfl (Nat.le_of_ble_eq_true rfl) ?_
  intro p9 e9 s m below meth co9 A ls hB
  obtain ⟨hx, hb, hml, hr, hts, hown, hlocks, hmn, hK, hP, hD, hS, hA, hl⟩ := hB
  have hP : va_P G vwCl [] s.heap := hP
  have hD : va_D A [] := hD
  have hl : lv_has ls 2 [(0, .int (nI q)), (1, .int (nI k))] := hl
  refine lv_iload_n hx hb dX10_has_0 rfl (lv_at hl 0 rfl) ?_
  refine lv_iload_n hx hb dX10_has_1 rfl (lv_at hl 1 rfl) ?_
  refine lv_ishr hx hb dX10_has_2 ?_
  refine top_i (y := nI (q / 2 ^ k)) (shr1 (by omega) (by omega)) ?_
  refine lv_iconst (v := nI 1) hx hb dX10_has_3 (by decide) ?_
  refine lv_iand hx hb dX10_has_4 ?_
  refine top_i (y := nI (q / 2 ^ k % 2)) (and1 _) ?_
  have hb7 : q / 2 ^ k % 2 < 2 := Nat.mod_lt _ (by decide)
  refine lv_iconst (v := nI 1) hx hb dX10_has_5 (by decide) ?_
  refine lv_icmp_ne (tgt := 13) hx hb dX10_has_6 (by decide) (fun c_6 => ?_) (fun c_6 => ?_)
  · skip
    have c_6 := n_neT c_6 (by omega) (by omega)
    refine lv_iconst (v := nI 0) hx hb dX10_has_13 (by decide) ?_
    exact endZ hx hb hr hlocks (rfl) (()) (bI_n c_6) (hP.sub [] rfl) (hD.sub [] (by decide) rfl) hS dX10_has_14
  · skip
    have c_6 := n_neF c_6 (by omega) (by omega)
    refine lv_iconst (v := nI 1) hx hb dX10_has_9 (by decide) ?_
    refine lv_goto (tgt := 14) hx hb dX10_has_10 (by decide) ?_
    exact endZ hx hb hr hlocks (rfl) (()) (bI_y c_6) (hP.sub [] rfl) (hD.sub [] (by decide) rfl) hS dX10_has_14

set_option maxHeartbeats 4000000 in
set_option maxRecDepth 100000 in
theorem c_X10_noOrder {l : Launch} {G : va_G} {cI cJ cZ cS : ClassId} (r : Int32) : CI l G (kT cI cJ cZ cS) (S := Unit) yX10_noOrder wsX10_noOrder { frames := 1, cells := 0, slots := 0, locals := 25 } [.int r] [] (fun res _ => res = bI (¬ isR 5 r)) (fun _ => []) := by
  refine CI.of (cc := cX10_noOrder) (maxL := 1) (by decide) rfl (Nat.le_of_ble_eq_true rfl) ?_
  intro p9 e9 s m below meth co9 A ls hB
  obtain ⟨hx, hb, hml, hr, hts, hown, hlocks, hmn, hK, hP, hD, hS, hA, hl⟩ := hB
  have hP : va_P G vwCl [] s.heap := hP
  have hD : va_D A [] := hD
  have hl : lv_has ls 1 [(0, .int r)] := hl
  have k_0 := hts (.constantLong RX10 83 (4)) (by decide +kernel)
  refine lv_iload_n hx hb dX10_noOrder_0 rfl (lv_at hl 0 rfl) ?_
  refine lv_i2l (v := (r).toInt64) hx hb dX10_noOrder_1 rfl ?_
  refine lv_lconst (v := lN 0) hx hb dX10_noOrder_2 (by decide) ?_
  refine lv_ldc2 (v := (4 : Int64)) hx hb hown k_0 dX10_noOrder_3 ?_
  refine top_l (y := lN 4) (by decide) ?_
  refine aft_i (wr := []) (va_runS (As := [.long ((r).toInt64), .long (lN 0), .long (lN 4)]) (rest := []) ⟨hx, hb, hml, hown, hts⟩ (c_X10_in (x := (r).toInt64) (y := lN 0) (z := lN 4) _) (va_cwS 3 hts gX10_noOrder_X10_in rfl rfl rfl (by decide +kernel) ⟨Nat.le_of_ble_eq_true rfl, Nat.le_of_ble_eq_true rfl⟩) (preS hK hP hD [] rfl rfl) rfl rfl hl.1 rfl (lv_room (Nat.le_of_ble_eq_true rfl)) dX10_noOrder_6 ⟨Nat.le_of_ble_eq_true rfl, Nat.le_of_ble_eq_true rfl⟩) hP hD hS hA [] [] rfl rfl rfl (by decide) (fun r_6 uu9 H locs hw hP hD hS => ?_)
  have hP : va_P G vwCl [] _ := hP
  have hD : va_D A [] := hD
  obtain rfl := hw
  refine top_i (y := bI ((lN 0) ≤ ((r).toInt64) ∧ ((r).toInt64) ≤ (lN 4))) rfl ?_
  refine lv_if_ne (tgt := 16) hx hb dX10_noOrder_9 (by decide) (fun c_9 => ?_) (fun c_9 => ?_)
  · skip
    have c_9 := bI_t c_9
    refine lv_iconst (v := nI 0) hx hb dX10_noOrder_16 (by decide) ?_
    exact endZ hx hb hr hlocks (rfl) (()) (bI_n (fun h => h ((in_iff 5 (by decide) rfl).mp c_9))) (hP.sub [] rfl) (hD.sub [] (by decide) rfl) hS dX10_noOrder_17
  · skip
    have c_9 := bI_f c_9
    refine lv_iconst (v := nI 1) hx hb dX10_noOrder_12 (by decide) ?_
    refine lv_goto (tgt := 17) hx hb dX10_noOrder_13 (by decide) ?_
    exact endZ hx hb hr hlocks (rfl) (()) (bI_y (fun h => c_9 ((in_iff 5 (by decide) rfl).mpr h))) (hP.sub [] rfl) (hD.sub [] (by decide) rfl) hS dX10_noOrder_17

set_option maxHeartbeats 4000000 in
set_option maxRecDepth 100000 in
theorem c_X10_noRank {l : Launch} {G : va_G} {cI cJ cZ cS : ClassId} (g : Nat → Nat) (ts : Nat) (pl : Nat) (rk : Nat) (sl : Nat) (rr : Nat) (rs : Nat) (ac : Nat) (tc : Nat) (sd : Int64) (td9 : Int64) (r : Int32) (hrk : rk < 8) : CI l G (kT cI cJ cZ cS) (S := Unit) yX10_noRank wsX10_noRank { frames := 1, cells := 0, slots := 0, locals := 25 } [.ref (g 0), .int r] [(g 0, .inr (10, [.int (nI 0), .ref (g 1), .int (nI ts), .int (nI pl), .int (nI rk), .ref (g 5), .int (nI sl), .ref (g 7), .int (nI rr), .int (nI rs), .ref (g 10), .ref (g 11), .ref (g 12), .long sd, .ref (g 14), .ref (g 15), .int (nI ac), .ref (g 17), .ref (g 18), .ref (g 19), .int (nI tc), .ref (g 21), .ref (g 22), .ref (g 23), .ref (g 24), .long td9, .ref (g 26), .ref (g 27), .ref (g 28), .ref (g 29), .ref (g 30)]))] (fun res _ => res = bI (¬ isR rk r)) (fun _ => [(g 0, .inr (10, [.int (nI 0), .ref (g 1), .int (nI ts), .int (nI pl), .int (nI rk), .ref (g 5), .int (nI sl), .ref (g 7), .int (nI rr), .int (nI rs), .ref (g 10), .ref (g 11), .ref (g 12), .long sd, .ref (g 14), .ref (g 15), .int (nI ac), .ref (g 17), .ref (g 18), .ref (g 19), .int (nI tc), .ref (g 21), .ref (g 22), .ref (g 23), .ref (g 24), .long td9, .ref (g 26), .ref (g 27), .ref (g 28), .ref (g 29), .ref (g 30)]))]) := by
  refine CI.of (cc := cX10_noRank) (maxL := 2) (by decide) rfl (Nat.le_of_ble_eq_true rfl) ?_
  intro p9 e9 s m below meth co9 A ls hB
  obtain ⟨hx, hb, hml, hr, hts, hown, hlocks, hmn, hK, hP, hD, hS, hA, hl⟩ := hB
  have hP : va_P G vwCl [(g 0, .inr (10, [.int (nI 0), .ref (g 1), .int (nI ts), .int (nI pl), .int (nI rk), .ref (g 5), .int (nI sl), .ref (g 7), .int (nI rr), .int (nI rs), .ref (g 10), .ref (g 11), .ref (g 12), .long sd, .ref (g 14), .ref (g 15), .int (nI ac), .ref (g 17), .ref (g 18), .ref (g 19), .int (nI tc), .ref (g 21), .ref (g 22), .ref (g 23), .ref (g 24), .long td9, .ref (g 26), .ref (g 27), .ref (g 28), .ref (g 29), .ref (g 30)]))] s.heap := hP
  have hD : va_D A [(g 0, .inr (10, [.int (nI 0), .ref (g 1), .int (nI ts), .int (nI pl), .int (nI rk), .ref (g 5), .int (nI sl), .ref (g 7), .int (nI rr), .int (nI rs), .ref (g 10), .ref (g 11), .ref (g 12), .long sd, .ref (g 14), .ref (g 15), .int (nI ac), .ref (g 17), .ref (g 18), .ref (g 19), .int (nI tc), .ref (g 21), .ref (g 22), .ref (g 23), .ref (g 24), .long td9, .ref (g 26), .ref (g 27), .ref (g 28), .ref (g 29), .ref (g 30)]))] := hD
  have hl : lv_has ls 2 [(0, .ref (g 0)), (1, .int r)] := hl
  have k_0 := hts (.fieldLink RX10 76 "HearsayMarchModel" "ranks" "I") (by decide +kernel)
  have hin10 : ∀ w ∈ wsX100, w ∈ wsX10_noRank := by decide +kernel
  refine lv_iload_n hx hb dX10_noRank_0 rfl (lv_at hl 1 rfl) ?_
  refine lv_i2l (v := (r).toInt64) hx hb dX10_noRank_1 rfl ?_
  refine lv_lconst (v := lN 0) hx hb dX10_noRank_2 (by decide) ?_
  refine lv_aload_n hx hb dX10_noRank_3 rfl (lv_at hl 0 rfl) ?_
  refine va_get (D := G) (ci := 10) (v := .int (nI rk)) (C := RX10) (T := TX10) (N := 31) hx hb hts hin10 hown hK.1 hP 0 rfl rfl 4 (by decide) k_0 (fun _ h9 => h9) rfl dX10_noRank_4 ?_
  refine lv_iconst (v := nI 1) hx hb dX10_noRank_7 (by decide) ?_
  refine lv_isub hx hb dX10_noRank_8 ?_
  refine lv_i2l (v := ((nI rk) - (nI 1)).toInt64) hx hb dX10_noRank_9 rfl ?_
  refine aft_i (wr := [(g 0, .inr (10, [.int (nI 0), .ref (g 1), .int (nI ts), .int (nI pl), .int (nI rk), .ref (g 5), .int (nI sl), .ref (g 7), .int (nI rr), .int (nI rs), .ref (g 10), .ref (g 11), .ref (g 12), .long sd, .ref (g 14), .ref (g 15), .int (nI ac), .ref (g 17), .ref (g 18), .ref (g 19), .int (nI tc), .ref (g 21), .ref (g 22), .ref (g 23), .ref (g 24), .long td9, .ref (g 26), .ref (g 27), .ref (g 28), .ref (g 29), .ref (g 30)]))]) (va_runS (As := [.long ((r).toInt64), .long (lN 0), .long (((nI rk) - (nI 1)).toInt64)]) (rest := []) ⟨hx, hb, hml, hown, hts⟩ (c_X10_in (x := (r).toInt64) (y := lN 0) (z := ((nI rk) - (nI 1)).toInt64) _) (va_cwS 3 hts gX10_noRank_X10_in rfl rfl rfl (by decide +kernel) ⟨Nat.le_of_ble_eq_true rfl, Nat.le_of_ble_eq_true rfl⟩) (preS hK hP hD [] rfl rfl) rfl rfl hl.1 rfl (lv_room (Nat.le_of_ble_eq_true rfl)) dX10_noRank_10 ⟨Nat.le_of_ble_eq_true rfl, Nat.le_of_ble_eq_true rfl⟩) hP hD hS hA [] [0] rfl rfl rfl (by decide) (fun r_10 uu9 H locs hw hP hD hS => ?_)
  have hP : va_P G vwCl [(g 0, .inr (10, [.int (nI 0), .ref (g 1), .int (nI ts), .int (nI pl), .int (nI rk), .ref (g 5), .int (nI sl), .ref (g 7), .int (nI rr), .int (nI rs), .ref (g 10), .ref (g 11), .ref (g 12), .long sd, .ref (g 14), .ref (g 15), .int (nI ac), .ref (g 17), .ref (g 18), .ref (g 19), .int (nI tc), .ref (g 21), .ref (g 22), .ref (g 23), .ref (g 24), .long td9, .ref (g 26), .ref (g 27), .ref (g 28), .ref (g 29), .ref (g 30)]))] _ := hP
  have hD : va_D A [(g 0, .inr (10, [.int (nI 0), .ref (g 1), .int (nI ts), .int (nI pl), .int (nI rk), .ref (g 5), .int (nI sl), .ref (g 7), .int (nI rr), .int (nI rs), .ref (g 10), .ref (g 11), .ref (g 12), .long sd, .ref (g 14), .ref (g 15), .int (nI ac), .ref (g 17), .ref (g 18), .ref (g 19), .int (nI tc), .ref (g 21), .ref (g 22), .ref (g 23), .ref (g 24), .long td9, .ref (g 26), .ref (g 27), .ref (g 28), .ref (g 29), .ref (g 30)]))] := hD
  obtain rfl := hw
  refine top_i (y := bI ((lN 0) ≤ ((r).toInt64) ∧ ((r).toInt64) ≤ (((nI rk) - (nI 1)).toInt64))) rfl ?_
  refine lv_if_ne (tgt := 20) hx hb dX10_noRank_13 (by decide) (fun c_13 => ?_) (fun c_13 => ?_)
  · skip
    have c_13 := bI_t c_13
    refine lv_iconst (v := nI 0) hx hb dX10_noRank_20 (by decide) ?_
    exact endZ hx hb hr hlocks (rfl) (()) (bI_n (fun h => h ((in_rk hrk).mp c_13))) (hP.sub [0] rfl) (hD.sub [0] (by decide) rfl) hS dX10_noRank_21
  · skip
    have c_13 := bI_f c_13
    refine lv_iconst (v := nI 1) hx hb dX10_noRank_16 (by decide) ?_
    refine lv_goto (tgt := 21) hx hb dX10_noRank_17 (by decide) ?_
    exact endZ hx hb hr hlocks (rfl) (()) (bI_y (fun h => c_13 ((in_rk hrk).mpr h))) (hP.sub [0] rfl) (hD.sub [0] (by decide) rfl) hS dX10_noRank_21

set_option maxHeartbeats 4000000 in
set_option maxRecDepth 100000 in
theorem c_X10_ten {l : Launch} {G : va_G} {cI cJ cZ cS : ClassId} (n : Nat) (hn : n < 8) : CL l G (kT cI cJ cZ cS) (S := Unit) yX10_ten wsX10_ten { frames := 0, cells := 0, slots := 0, locals := 0 } [.int (nI n)] [] (fun res _ => res = lN (10 ^ n)) (fun _ => []) := by
  refine CL.of (cc := cX10_ten) (maxL := 4) (by decide) rfl (Nat.le_of_ble_eq_true rfl) ?_
  intro p9 e9 s m below meth co9 A ls hB
  obtain ⟨hx, hb, hml, hr, hts, hown, hlocks, hmn, hK, hP, hD, hS, hA, hl⟩ := hB
  have hP : va_P G vwCl [] s.heap := hP
  have hD : va_D A [] := hD
  have hl : lv_has ls 4 [(0, .int (nI n))] := hl
  have k_0 := hts (.constantLong RX10 168 (10)) (by decide +kernel)
  refine lv_lconst (v := lN 1) hx hb dX10_ten_0 (by decide) ?_
  refine lv_lstore_n (lv' := [(1, .long (lN 1)), (0, .int (nI n))]) hx hb dX10_ten_1 rfl hl (by decide) rfl (fun ls hl => ?_)
  refine lv_iconst (v := nI 0) hx hb dX10_ten_2 (by decide) ?_
  refine lv_istore_n (lv' := [(3, .int (nI 0)), (1, .long (lN 1)), (0, .int (nI n))]) hx hb dX10_ten_3 rfl hl (by decide) rfl (fun ls hl => ?_)
  have hl : lv_has ls 4 [(3, .int (nI 0)), (1, .long (lN (10 ^ 0))), (0, .int (nI n))] := hl
  refine loopW (σ := Nat) 4 (fun (i : Nat) H locs ls => (i ≤ n) ∧ va_P G vwCl [] H ∧ va_D A [] ∧ va_S A s.heap H locs ∧ lv_has ls 4 [(3, .int (nI i)), (1, .long (lN (10 ^ i))), (0, .int (nI n))]) (fun (i : Nat) => []) (fun (i : Nat) => n - i) ?_ 0 ⟨by first | assumption | omega | (simp; done), hP.sub [] rfl, hD.sub [] (by decide) rfl, hS, lv_sub hl [0, 1, 2] rfl⟩
  intro xx9 H locs ls hI ih_4
  obtain ⟨i, rfl⟩ : ∃ z, z = xx9 := ⟨_, rfl⟩
  obtain ⟨hi, hP, hD, hS, hl⟩ := hI
  have hi : i ≤ n := hi
  have hP : va_P G vwCl [] _ := hP
  have hD : va_D A [] := hD
  have hl : lv_has ls 4 [(3, .int (nI i)), (1, .long (lN (10 ^ i))), (0, .int (nI n))] := hl
  refine lv_iload_n hx hb dX10_ten_4 rfl (lv_at hl 0 rfl) ?_
  refine lv_iload_n hx hb dX10_ten_5 rfl (lv_at hl 2 rfl) ?_
  refine lv_icmp_ge (tgt := 21) hx hb dX10_ten_6 (by decide) (fun c_6 => ?_) (fun c_6 => ?_)
  · skip
    have c_6 := n_geT c_6 (by omega) (by omega)
    refine lv_lload_n hx hb dX10_ten_21 rfl (lv_at hl 1 rfl) ?_
    exact endL hx hb hr hlocks (()) (by rw [show i = n by omega]) (hP.sub [] rfl) (hD.sub [] (by decide) rfl) hS dX10_ten_22
  · skip
    have c_6 := n_geF c_6 (by omega) (by omega)
    refine lv_lload_n hx hb dX10_ten_9 rfl (lv_at hl 1 rfl) ?_
    refine lv_ldc2 (v := (10 : Int64)) hx hb hown k_0 dX10_ten_10 ?_
    refine top_l (y := lN 10) (by decide) ?_
    refine lv_lmul hx hb dX10_ten_13 ?_
    refine top_l (y := lN ((10 ^ i) * 10)) (lN_mul _ _) ?_
    refine top_l (y := lN (10 ^ (i + 1))) (by rw [Nat.pow_succ]) ?_
    refine lv_lstore_n (lv' := [(1, .long (lN (10 ^ (i + 1)))), (3, .int (nI i)), (0, .int (nI n))]) hx hb dX10_ten_14 rfl hl (by decide) rfl (fun ls hl => ?_)
    refine lv_iinc (v := nI (i + 1)) (lv' := [(3, .int (nI (i + 1))), (1, .long (lN (10 ^ (i + 1)))), (0, .int (nI n))]) hx hb dX10_ten_15 hl (k := 1) rfl (nI_inc _ 1 1 (by decide)) (by decide) rfl (fun ls hl => ?_)
    refine lv_goto (tgt := 4) hx hb dX10_ten_18 (by decide) ?_
    exact ih_4 (i + 1) _ _ _ (by first | omega | (simp only []; omega) | (show _ < _; omega)) ⟨by first | assumption | omega | (simp; done), hP.sub [] rfl, hD.sub [] (by decide) rfl, hS, lv_sub hl [0, 1, 2] rfl⟩

set_option maxHeartbeats 4000000 in
set_option maxRecDepth 100000 in
theorem c_X10_divisor {l : Launch} {G : va_G} {cI cJ cZ cS : ClassId} (x : Nat) (y : Nat) (hx9 : x < 9223372036854775808) (hy9 : y < 9223372036854775808) : CL l G (kT cI cJ cZ cS) (S := Unit) yX10_divisor wsX10_divisor { frames := 0, cells := 0, slots := 0, locals := 0 } [.long (lN x), .long (lN y)] [] (fun res _ => res = lN (Nat.gcd x y)) (fun _ => []) := by
  refine CL.of (cc := cX10_divisor) (maxL := 10) (by decide) rfl (Nat.le_of_ble_eq_true rfl) ?_
  intro p9 e9 s m below meth co9 A ls hB
  obtain ⟨hx, hb, hml, hr, hts, hown, hlocks, hmn, hK, hP, hD, hS, hA, hl⟩ := hB
  have hP : va_P G vwCl [] s.heap := hP
  have hD : va_D A [] := hD
  have hl : lv_has ls 10 [(0, .long (lN x)), (2, .long (lN y))] := hl
  refine lv_lload_n hx hb dX10_divisor_0 rfl (lv_at hl 0 rfl) ?_
  refine lv_lstore (lv' := [(4, .long (lN x)), (0, .long (lN x)), (2, .long (lN y))]) hx hb dX10_divisor_1 hl (by decide) rfl (fun ls hl => ?_)
  refine lv_lload_n hx hb dX10_divisor_3 rfl (lv_at hl 2 rfl) ?_
  refine lv_lstore (lv' := [(6, .long (lN y)), (4, .long (lN x)), (0, .long (lN x)), (2, .long (lN y))]) hx hb dX10_divisor_4 hl (by decide) rfl (fun ls hl => ?_)
  refine loopW (σ := Nat × Nat) 6 (fun xx9 H locs ls => match xx9 with | (a, b) => (a < 9223372036854775808) ∧ (b < 9223372036854775808) ∧ (Nat.gcd a b = Nat.gcd x y) ∧ va_P G vwCl [] H ∧ va_D A [] ∧ va_S A s.heap H locs ∧ lv_has ls 10 [(6, .long (lN b)), (4, .long (lN a)), (0, .long (lN x)), (2, .long (lN y))]) (fun xx9 => match xx9 with | (a, b) => []) (fun xx9 => match xx9 with | (a, b) => b) ?_ (x, y) ⟨by first | assumption | omega | (simp; done), by first | assumption | omega | (simp; done), by first | assumption | omega | (simp; done), hP.sub [] rfl, hD.sub [] (by decide) rfl, hS, lv_sub hl [0, 1, 2, 3] rfl⟩
  intro xx9 H locs ls hI ih_6
  obtain ⟨a, b⟩ := xx9
  obtain ⟨ha9, hb9, hg, hP, hD, hS, hl⟩ := hI
  have ha9 : a < 9223372036854775808 := ha9
  have hb9 : b < 9223372036854775808 := hb9
  have hg : Nat.gcd a b = Nat.gcd x y := hg
  have hP : va_P G vwCl [] _ := hP
  have hD : va_D A [] := hD
  have hl : lv_has ls 10 [(6, .long (lN b)), (4, .long (lN a)), (0, .long (lN x)), (2, .long (lN y))] := hl
  refine lv_lload hx hb dX10_divisor_6 (lv_at hl 0 rfl) ?_
  refine lv_lconst (v := lN 0) hx hb dX10_divisor_8 (by decide) ?_
  refine W.lcmp hx hb dX10_divisor_9 ?_
  refine lv_if_eq (tgt := 31) hx hb dX10_divisor_10 (by decide) (fun c_10 => ?_) (fun c_10 => ?_)
  · skip
    have c_10 := lc_eqT c_10
    have c_10 := (pk_lEQ (b := 0) (by omega) (by omega)).mp c_10
    refine lv_lload hx hb dX10_divisor_31 (lv_at hl 1 rfl) ?_
    exact endL hx hb hr hlocks (()) (by rw [← hg, c_10, Nat.gcd_zero_right]) (hP.sub [] rfl) (hD.sub [] (by decide) rfl) hS dX10_divisor_33
  · skip
    have c_10 := lc_eqF c_10
    have c_10 : ¬ b = 0 := fun z => c_10 (by rw [z])
    refine lv_lload hx hb dX10_divisor_13 (lv_at hl 1 rfl) ?_
    refine lv_lload hx hb dX10_divisor_15 (lv_at hl 0 rfl) ?_
    refine lv_lrem hx hb dX10_divisor_17 (lN_ne0 c_10 (by omega)) ?_
    refine top_l (y := lN (a % b)) (pk_lRem (by omega) (by omega) (by omega)) ?_
    refine lv_lstore (lv' := [(8, .long (lN (a % b))), (6, .long (lN b)), (4, .long (lN a)), (0, .long (lN x)), (2, .long (lN y))]) hx hb dX10_divisor_18 hl (by decide) rfl (fun ls hl => ?_)
    refine lv_lload hx hb dX10_divisor_20 (lv_at hl 1 rfl) ?_
    refine lv_lstore (lv' := [(4, .long (lN b)), (8, .long (lN (a % b))), (6, .long (lN b)), (0, .long (lN x)), (2, .long (lN y))]) hx hb dX10_divisor_22 hl (by decide) rfl (fun ls hl => ?_)
    refine lv_lload hx hb dX10_divisor_24 (lv_at hl 1 rfl) ?_
    refine lv_lstore (lv' := [(6, .long (lN (a % b))), (4, .long (lN b)), (8, .long (lN (a % b))), (0, .long (lN x)), (2, .long (lN y))]) hx hb dX10_divisor_26 hl (by decide) rfl (fun ls hl => ?_)
    refine lv_goto (tgt := 6) hx hb dX10_divisor_28 (by decide) ?_
    exact ih_6 (b, a % b) _ _ _ (Nat.mod_lt _ (by omega)) ⟨by first | assumption | omega | (simp; done), Nat.lt_of_le_of_lt (Nat.mod_le _ _) ha9, by rw [← hg]; exact gcd_step a b, hP.sub [] rfl, hD.sub [] (by decide) rfl, hS, lv_sub hl [0, 1, 3, 4] rfl⟩

set_option maxHeartbeats 4000000 in
set_option maxRecDepth 100000 in
theorem c_X10_fraction {l : Launch} {G : va_G} {cI cJ cZ cS : ClassId} (x : Nat) (y : Nat) (z : Int32) (hx9 : x < 9223372036854775808) (hy9 : y < 9223372036854775808) (hy0 : 0 < y) : CL l G (kT cI cJ cZ cS) (S := Unit) yX10_fraction wsX10_fraction { frames := 1, cells := 0, slots := 0, locals := 29 } [.long (lN x), .long (lN y), .int z] [] (fun res _ => res = lN (ltT x y z)) (fun _ => []) := by
  refine CL.of (cc := cX10_fraction) (maxL := 7) (by decide) rfl (Nat.le_of_ble_eq_true rfl) ?_
  intro p9 e9 s m below meth co9 A ls hB
  obtain ⟨hx, hb, hml, hr, hts, hown, hlocks, hmn, hK, hP, hD, hS, hA, hl⟩ := hB
  have hP : va_P G vwCl [] s.heap := hP
  have hD : va_D A [] := hD
  have hl : lv_has ls 7 [(0, .long (lN x)), (2, .long (lN y)), (4, .int z)] := hl
  refine lv_lload_n hx hb dX10_fraction_0 rfl (lv_at hl 0 rfl) ?_
  refine lv_lload_n hx hb dX10_fraction_1 rfl (lv_at hl 1 rfl) ?_
  refine aft_l (wr := []) (va_runS (As := [.long (lN x), .long (lN y)]) (rest := []) ⟨hx, hb, hml, hown, hts⟩ (c_X10_divisor (x := x) (y := y) (hx9 := by first | assumption | omega | exact hok.1 _ (by omega) | exact hok.2.2 _ _ (by omega) (by omega) | exact hok.2.1) (hy9 := by first | assumption | omega | exact hok.1 _ (by omega) | exact hok.2.2 _ _ (by omega) (by omega) | exact hok.2.1) _) (va_cwS 2 hts gX10_fraction_X10_divisor rfl rfl rfl (by decide +kernel) ⟨Nat.le_of_ble_eq_true rfl, Nat.le_of_ble_eq_true rfl⟩) (preS hK hP hD [] rfl rfl) rfl rfl hl.1 rfl (lv_room (Nat.le_of_ble_eq_true rfl)) dX10_fraction_2 ⟨Nat.le_of_ble_eq_true rfl, Nat.le_of_ble_eq_true rfl⟩) hP hD hS hA [] [] rfl rfl rfl (by decide) (fun r_2 uu9 H locs hw hP hD hS => ?_)
  have hP : va_P G vwCl [] _ := hP
  have hD : va_D A [] := hD
  obtain rfl := hw
  refine top_l (y := lN (Nat.gcd x y)) rfl ?_
  have hg0 : 0 < Nat.gcd x y := Nat.gcd_pos_of_pos_right _ hy0
  have hg9 : Nat.gcd x y < 9223372036854775808 := Nat.lt_of_le_of_lt (Nat.gcd_le_right _ hy0) hy9
  refine lv_lstore (lv' := [(5, .long (lN (Nat.gcd x y))), (0, .long (lN x)), (2, .long (lN y)), (4, .int z)]) hx hb dX10_fraction_5 hl (by decide) rfl (fun ls hl => ?_)
  refine lv_iload hx hb dX10_fraction_7 (lv_at hl 3 rfl) ?_
  refine lv_if_eq (tgt := 19) hx hb dX10_fraction_9 (by decide) (fun c_9 => ?_) (fun c_9 => ?_)
  · skip
    refine lv_lload_n hx hb dX10_fraction_19 rfl (lv_at hl 2 rfl) ?_
    refine lv_lload hx hb dX10_fraction_20 (lv_at hl 0 rfl) ?_
    refine lv_ldiv hx hb dX10_fraction_22 (lN_ne0 (by omega) (by omega)) ?_
    refine top_l (y := lN (y / (Nat.gcd x y))) (pk_lDiv (by omega) (by omega) (by omega)) ?_
    exact endL hx hb hr hlocks (()) (by rw [ltT, if_pos c_9]) (hP.sub [] rfl) (hD.sub [] (by decide) rfl) hS dX10_fraction_23
  · skip
    refine lv_lload_n hx hb dX10_fraction_12 rfl (lv_at hl 1 rfl) ?_
    refine lv_lload hx hb dX10_fraction_13 (lv_at hl 0 rfl) ?_
    refine lv_ldiv hx hb dX10_fraction_15 (lN_ne0 (by omega) (by omega)) ?_
    refine top_l (y := lN (x / (Nat.gcd x y))) (pk_lDiv (by omega) (by omega) (by omega)) ?_
    refine lv_goto (tgt := 23) hx hb dX10_fraction_16 (by decide) ?_
    exact endL hx hb hr hlocks (()) (by rw [ltT, if_neg c_9]) (hP.sub [] rfl) (hD.sub [] (by decide) rfl) hS dX10_fraction_23

set_option maxHeartbeats 4000000 in
set_option maxRecDepth 100000 in
theorem c_X10_many {l : Launch} {G : va_G} {cI cJ cZ cS : ClassId} (q : Nat) (hq : q < 32) : CI l G (kT cI cJ cZ cS) (S := Unit) yX10_many wsX10_many { frames := 0, cells := 0, slots := 0, locals := 0 } [.int (nI q)] [] (fun res _ => res = nI (popN q)) (fun _ => []) := by
  refine CI.of (cc := cX10_many) (maxL := 3) (by decide) rfl (Nat.le_of_ble_eq_true rfl) ?_
  intro p9 e9 s m below meth co9 A ls hB
  obtain ⟨hx, hb, hml, hr, hts, hown, hlocks, hmn, hK, hP, hD, hS, hA, hl⟩ := hB
  have hP : va_P G vwCl [] s.heap := hP
  have hD : va_D A [] := hD
  have hl : lv_has ls 3 [(0, .int (nI q))] := hl
  refine lv_iconst (v := nI 0) hx hb dX10_many_0 (by decide) ?_
  refine lv_istore_n (lv' := [(1, .int (nI 0)), (0, .int (nI q))]) hx hb dX10_many_1 rfl hl (by decide) rfl (fun ls hl => ?_)
  refine lv_iconst (v := nI 0) hx hb dX10_many_2 (by decide) ?_
  refine lv_istore_n (lv' := [(2, .int (nI 0)), (1, .int (nI 0)), (0, .int (nI q))]) hx hb dX10_many_3 rfl hl (by decide) rfl (fun ls hl => ?_)
  refine loopW (σ := Nat) 4 (fun (k : Nat) H locs ls => (k ≤ 5) ∧ va_P G vwCl [] H ∧ va_D A [] ∧ va_S A s.heap H locs ∧ lv_has ls 3 [(2, .int (nI k)), (1, .int (nI (manN q k))), (0, .int (nI q))]) (fun (k : Nat) => []) (fun (k : Nat) => 5 - k) ?_ 0 ⟨by first | assumption | omega | (simp; done), hP.sub [] rfl, hD.sub [] (by decide) rfl, hS, lv_sub hl [0, 1, 2] rfl⟩
  intro xx9 H locs ls hI ih_4
  obtain ⟨k, rfl⟩ : ∃ z, z = xx9 := ⟨_, rfl⟩
  obtain ⟨hk, hP, hD, hS, hl⟩ := hI
  have hk : k ≤ 5 := hk
  have hP : va_P G vwCl [] _ := hP
  have hD : va_D A [] := hD
  have hl : lv_has ls 3 [(2, .int (nI k)), (1, .int (nI (manN q k))), (0, .int (nI q))] := hl
  refine lv_iload_n hx hb dX10_many_4 rfl (lv_at hl 0 rfl) ?_
  refine lv_iconst (v := nI 5) hx hb dX10_many_5 (by decide) ?_
  refine lv_icmp_ge (tgt := 23) hx hb dX10_many_6 (by decide) (fun c_6 => ?_) (fun c_6 => ?_)
  · skip
    have c_6 := n_geT c_6 (by omega) (by omega)
    refine lv_iload_n hx hb dX10_many_23 rfl (lv_at hl 1 rfl) ?_
    exact endI hx hb hr hlocks (()) (by rw [show k = 5 by omega, manN_5]) (hP.sub [] rfl) (hD.sub [] (by decide) rfl) hS dX10_many_24
  · skip
    have c_6 := n_geF c_6 (by omega) (by omega)
    refine lv_iload_n hx hb dX10_many_9 rfl (lv_at hl 1 rfl) ?_
    refine lv_iload_n hx hb dX10_many_10 rfl (lv_at hl 2 rfl) ?_
    refine lv_iload_n hx hb dX10_many_11 rfl (lv_at hl 0 rfl) ?_
    refine lv_ishr hx hb dX10_many_12 ?_
    refine top_i (y := nI (q / 2 ^ k)) (shr1 (by omega) (by omega)) ?_
    refine lv_iconst (v := nI 1) hx hb dX10_many_13 (by decide) ?_
    refine lv_iand hx hb dX10_many_14 ?_
    refine top_i (y := nI (q / 2 ^ k % 2)) (and1 _) ?_
    refine lv_iadd hx hb dX10_many_15 ?_
    refine top_i (y := nI (manN q k + (q / 2 ^ k % 2))) (nI_add _ _) ?_
    refine top_i (y := nI (manN q (k + 1))) (rfl) ?_
    refine lv_istore_n (lv' := [(1, .int (nI (manN q (k + 1)))), (2, .int (nI k)), (0, .int (nI q))]) hx hb dX10_many_16 rfl hl (by decide) rfl (fun ls hl => ?_)
    refine lv_iinc (v := nI (k + 1)) (lv' := [(2, .int (nI (k + 1))), (1, .int (nI (manN q (k + 1)))), (0, .int (nI q))]) hx hb dX10_many_17 hl (k := 1) rfl (nI_inc _ 1 1 (by decide)) (by decide) rfl (fun ls hl => ?_)
    refine lv_goto (tgt := 4) hx hb dX10_many_20 (by decide) ?_
    exact ih_4 (k + 1) _ _ _ (by first | omega | (simp only []; omega) | (show _ < _; omega)) ⟨by first | assumption | omega | (simp; done), hP.sub [] rfl, hD.sub [] (by decide) rfl, hS, lv_sub hl [0, 1, 2] rfl⟩

set_option maxHeartbeats 4000000 in
set_option maxRecDepth 100000 in
theorem c_X10_write {l : Launch} {G : va_G} {cI cJ cZ cS : ClassId} (g : Nat → Nat) (ts : Nat) (pl : Nat) (rk : Nat) (sl : Nat) (rr : Nat) (rs : Nat) (ac : Nat) (tc : Nat) (sd : Int64) (td9 : Int64) (tx : Nat → Nat) (n : Int32) (v : Int64) (hln : ts ≤ 64) : CI l G (kT cI cJ cZ cS) (S := (Nat → Nat) × Nat) yX10_write wsX10_write { frames := 1, cells := 0, slots := 0, locals := 25 } [.ref (g 0), .int n, .long v] [(g 0, .inr (10, [.int (nI 0), .ref (g 1), .int (nI ts), .int (nI pl), .int (nI rk), .ref (g 5), .int (nI sl), .ref (g 7), .int (nI rr), .int (nI rs), .ref (g 10), .ref (g 11), .ref (g 12), .long sd, .ref (g 14), .ref (g 15), .int (nI ac), .ref (g 17), .ref (g 18), .ref (g 19), .int (nI tc), .ref (g 21), .ref (g 22), .ref (g 23), .ref (g 24), .long td9, .ref (g 26), .ref (g 27), .ref (g 28), .ref (g 29), .ref (g 30)])), (g 1, .inl (cI, 64, .inl (fun i9 => nI (tx i9))))] (fun res uu9 => match uu9 with | (t1, n1) => WrP n v tx ts t1 n1 res) (fun uu9 => match uu9 with | (t1, n1) => [(g 0, .inr (10, [.int (nI 0), .ref (g 1), .int (nI n1), .int (nI pl), .int (nI rk), .ref (g 5), .int (nI sl), .ref (g 7), .int (nI rr), .int (nI rs), .ref (g 10), .ref (g 11), .ref (g 12), .long sd, .ref (g 14), .ref (g 15), .int (nI ac), .ref (g 17), .ref (g 18), .ref (g 19), .int (nI tc), .ref (g 21), .ref (g 22), .ref (g 23), .ref (g 24), .long td9, .ref (g 26), .ref (g 27), .ref (g 28), .ref (g 29), .ref (g 30)])), (g 1, .inl (cI, 64, .inl (fun i9 => nI (t1 i9))))]) := by
  refine CI.of (cc := cX10_write) (maxL := 5) (by decide) rfl (Nat.le_of_ble_eq_true rfl) ?_
  intro p9 e9 s m below meth co9 A ls hB
  obtain ⟨hx, hb, hml, hr, hts, hown, hlocks, hmn, hK, hP, hD, hS, hA, hl⟩ := hB
  have hP : va_P G vwCl [(g 0, .inr (10, [.int (nI 0), .ref (g 1), .int (nI ts), .int (nI pl), .int (nI rk), .ref (g 5), .int (nI sl), .ref (g 7), .int (nI rr), .int (nI rs), .ref (g 10), .ref (g 11), .ref (g 12), .long sd, .ref (g 14), .ref (g 15), .int (nI ac), .ref (g 17), .ref (g 18), .ref (g 19), .int (nI tc), .ref (g 21), .ref (g 22), .ref (g 23), .ref (g 24), .long td9, .ref (g 26), .ref (g 27), .ref (g 28), .ref (g 29), .ref (g 30)])), (g 1, .inl (cI, 64, .inl (fun i9 => nI (tx i9))))] s.heap := hP
  have hD : va_D A [(g 0, .inr (10, [.int (nI 0), .ref (g 1), .int (nI ts), .int (nI pl), .int (nI rk), .ref (g 5), .int (nI sl), .ref (g 7), .int (nI rr), .int (nI rs), .ref (g 10), .ref (g 11), .ref (g 12), .long sd, .ref (g 14), .ref (g 15), .int (nI ac), .ref (g 17), .ref (g 18), .ref (g 19), .int (nI tc), .ref (g 21), .ref (g 22), .ref (g 23), .ref (g 24), .long td9, .ref (g 26), .ref (g 27), .ref (g 28), .ref (g 29), .ref (g 30)])), (g 1, .inl (cI, 64, .inl (fun i9 => nI (tx i9))))] := hD
  have hl : lv_has ls 5 [(0, .ref (g 0)), (1, .int n), (2, .long v)] := hl
  have k_0 := hts (.fieldLink RX10 72 "HearsayMarchModel" "thrown" "I") (by decide +kernel)
  have k_1 := hts (.constantLong RX10 85 (8)) (by decide +kernel)
  have k_2 := hts (.fieldLink RX10 87 "HearsayMarchModel" "textSize" "I") (by decide +kernel)
  have k_3 := hts (.fieldLink RX10 7 "HearsayMarchModel" "text" "[I") (by decide +kernel)
  have hin10 : ∀ w ∈ wsX100, w ∈ wsX10_write := by decide +kernel
  refine lv_aload_n hx hb dX10_write_0 rfl (lv_at hl 0 rfl) ?_
  refine lv_iconst (v := nI 0) hx hb dX10_write_1 (by decide) ?_
  refine va_put (D := G) (ci := 10) (v := .int (nI 0)) (ty := tyX10 0) (C := RX10) (T := TX10) (N := 31) hx hb hts hin10 tyX10 tyX10_ok nmX10 hown hK.1 hP hD hS 0 rfl rfl 0 (by decide) k_0 (fun _ h9 => h9) rfl (by decide +kernel) rfl rfl (Nat.le_of_ble_eq_true rfl) dX10_write_2 (fun H locs hP hD hS => ?_)
  have hP : va_P G vwCl [(g 0, .inr (10, [.int (nI 0), .ref (g 1), .int (nI ts), .int (nI pl), .int (nI rk), .ref (g 5), .int (nI sl), .ref (g 7), .int (nI rr), .int (nI rs), .ref (g 10), .ref (g 11), .ref (g 12), .long sd, .ref (g 14), .ref (g 15), .int (nI ac), .ref (g 17), .ref (g 18), .ref (g 19), .int (nI tc), .ref (g 21), .ref (g 22), .ref (g 23), .ref (g 24), .long td9, .ref (g 26), .ref (g 27), .ref (g 28), .ref (g 29), .ref (g 30)])), (g 1, .inl (cI, 64, .inl (fun i9 => nI (tx i9))))] _ := hP
  have hD : va_D A [(g 0, .inr (10, [.int (nI 0), .ref (g 1), .int (nI ts), .int (nI pl), .int (nI rk), .ref (g 5), .int (nI sl), .ref (g 7), .int (nI rr), .int (nI rs), .ref (g 10), .ref (g 11), .ref (g 12), .long sd, .ref (g 14), .ref (g 15), .int (nI ac), .ref (g 17), .ref (g 18), .ref (g 19), .int (nI tc), .ref (g 21), .ref (g 22), .ref (g 23), .ref (g 24), .long td9, .ref (g 26), .ref (g 27), .ref (g 28), .ref (g 29), .ref (g 30)])), (g 1, .inl (cI, 64, .inl (fun i9 => nI (tx i9))))] := hD
  refine lv_iload_n hx hb dX10_write_5 rfl (lv_at hl 1 rfl) ?_
  refine lv_i2l (v := (n).toInt64) hx hb dX10_write_6 rfl ?_
  refine lv_lconst (v := lN 1) hx hb dX10_write_7 (by decide) ?_
  refine lv_ldc2 (v := (8 : Int64)) hx hb hown k_1 dX10_write_8 ?_
  refine top_l (y := lN 8) (by decide) ?_
  refine aft_i (wr := [(g 0, .inr (10, [.int (nI 0), .ref (g 1), .int (nI ts), .int (nI pl), .int (nI rk), .ref (g 5), .int (nI sl), .ref (g 7), .int (nI rr), .int (nI rs), .ref (g 10), .ref (g 11), .ref (g 12), .long sd, .ref (g 14), .ref (g 15), .int (nI ac), .ref (g 17), .ref (g 18), .ref (g 19), .int (nI tc), .ref (g 21), .ref (g 22), .ref (g 23), .ref (g 24), .long td9, .ref (g 26), .ref (g 27), .ref (g 28), .ref (g 29), .ref (g 30)])), (g 1, .inl (cI, 64, .inl (fun i9 => nI (tx i9))))]) (va_runS (As := [.long ((n).toInt64), .long (lN 1), .long (lN 8)]) (rest := []) ⟨hx, hb, hml, hown, hts⟩ (c_X10_in (x := (n).toInt64) (y := lN 1) (z := lN 8) _) (va_cwS 3 hts gX10_write_X10_in rfl rfl rfl (by decide +kernel) ⟨Nat.le_of_ble_eq_true rfl, Nat.le_of_ble_eq_true rfl⟩) (preS hK hP hD [] rfl rfl) rfl rfl hl.1 rfl (lv_room (Nat.le_of_ble_eq_true rfl)) dX10_write_11 ⟨Nat.le_of_ble_eq_true rfl, Nat.le_of_ble_eq_true rfl⟩) hP hD hS hA [] [0, 1] rfl rfl rfl (by decide) (fun r_11 uu9 H locs hw hP hD hS => ?_)
  have hP : va_P G vwCl [(g 0, .inr (10, [.int (nI 0), .ref (g 1), .int (nI ts), .int (nI pl), .int (nI rk), .ref (g 5), .int (nI sl), .ref (g 7), .int (nI rr), .int (nI rs), .ref (g 10), .ref (g 11), .ref (g 12), .long sd, .ref (g 14), .ref (g 15), .int (nI ac), .ref (g 17), .ref (g 18), .ref (g 19), .int (nI tc), .ref (g 21), .ref (g 22), .ref (g 23), .ref (g 24), .long td9, .ref (g 26), .ref (g 27), .ref (g 28), .ref (g 29), .ref (g 30)])), (g 1, .inl (cI, 64, .inl (fun i9 => nI (tx i9))))] _ := hP
  have hD : va_D A [(g 0, .inr (10, [.int (nI 0), .ref (g 1), .int (nI ts), .int (nI pl), .int (nI rk), .ref (g 5), .int (nI sl), .ref (g 7), .int (nI rr), .int (nI rs), .ref (g 10), .ref (g 11), .ref (g 12), .long sd, .ref (g 14), .ref (g 15), .int (nI ac), .ref (g 17), .ref (g 18), .ref (g 19), .int (nI tc), .ref (g 21), .ref (g 22), .ref (g 23), .ref (g 24), .long td9, .ref (g 26), .ref (g 27), .ref (g 28), .ref (g 29), .ref (g 30)])), (g 1, .inl (cI, 64, .inl (fun i9 => nI (tx i9))))] := hD
  obtain rfl := hw
  refine top_i (y := bI ((lN 1) ≤ ((n).toInt64) ∧ ((n).toInt64) ≤ (lN 8))) rfl ?_
  refine lv_if_ne (tgt := 20) hx hb dX10_write_14 (by decide) (fun c_14 => ?_) (fun c_14 => ?_)
  · skip
    have c_14 := bI_t c_14
    obtain ⟨k, hk0, hk9, rfl⟩ := in_18.mp c_14
    refine lv_aload_n hx hb dX10_write_20 rfl (lv_at hl 0 rfl) ?_
    refine va_get (D := G) (ci := 10) (v := .int (nI ts)) (C := RX10) (T := TX10) (N := 31) hx hb hts hin10 hown hK.1 hP 0 rfl rfl 2 (by decide) k_2 (fun _ h9 => h9) rfl dX10_write_21 ?_
    refine lv_iload_n hx hb dX10_write_24 rfl (lv_at hl 1 rfl) ?_
    refine lv_iadd hx hb dX10_write_25 ?_
    refine top_i (y := nI (ts + k)) (nI_add _ _) ?_
    refine lv_bipush (v := nI 64) hx hb dX10_write_26 (by decide) ?_
    refine lv_icmp_le (tgt := 34) hx hb dX10_write_28 (by decide) (fun c_28 => ?_) (fun c_28 => ?_)
    · skip
      have c_28 := n_leT c_28 (by omega) (by omega)
      refine lv_iload_n hx hb dX10_write_34 rfl (lv_at hl 1 rfl) ?_
      refine lv_iconst (v := nI 1) hx hb dX10_write_35 (by decide) ?_
      refine lv_isub hx hb dX10_write_36 ?_
      refine top_i (y := nI k + Int32.ofInt (-1)) (m1_sub k) ?_
      refine lv_istore (lv' := [(4, .int (nI k + Int32.ofInt (-1))), (0, .ref (g 0)), (1, .int (nI k)), (2, .long v)]) hx hb dX10_write_37 hl (by decide) rfl (fun ls hl => ?_)
      rw [show nI ts = nI (ts + (k - k)) by rw [Nat.sub_self, Nat.add_zero]] at hP hD
      have hP : va_P G vwCl [(g 0, .inr (10, [.int (nI 0), .ref (g 1), .int (nI (ts + (k - k))), .int (nI pl), .int (nI rk), .ref (g 5), .int (nI sl), .ref (g 7), .int (nI rr), .int (nI rs), .ref (g 10), .ref (g 11), .ref (g 12), .long sd, .ref (g 14), .ref (g 15), .int (nI ac), .ref (g 17), .ref (g 18), .ref (g 19), .int (nI tc), .ref (g 21), .ref (g 22), .ref (g 23), .ref (g 24), .long td9, .ref (g 26), .ref (g 27), .ref (g 28), .ref (g 29), .ref (g 30)])), (g 1, .inl (cI, 64, .inl (fun i9 => nI (tx i9))))] _ := hP
      have hD : va_D A [(g 0, .inr (10, [.int (nI 0), .ref (g 1), .int (nI (ts + (k - k))), .int (nI pl), .int (nI rk), .ref (g 5), .int (nI sl), .ref (g 7), .int (nI rr), .int (nI rs), .ref (g 10), .ref (g 11), .ref (g 12), .long sd, .ref (g 14), .ref (g 15), .int (nI ac), .ref (g 17), .ref (g 18), .ref (g 19), .int (nI tc), .ref (g 21), .ref (g 22), .ref (g 23), .ref (g 24), .long td9, .ref (g 26), .ref (g 27), .ref (g 28), .ref (g 29), .ref (g 30)])), (g 1, .inl (cI, 64, .inl (fun i9 => nI (tx i9))))] := hD
      refine loopW (σ := Nat × (Nat → Nat)) 39 (fun xx9 H locs ls => match xx9 with | (i1, t) => (i1 ≤ k) ∧ (∀ j, t j = appT tx ts k (k - i1) v j) ∧ va_P G vwCl [(g 0, .inr (10, [.int (nI 0), .ref (g 1), .int (nI (ts + (k - i1))), .int (nI pl), .int (nI rk), .ref (g 5), .int (nI sl), .ref (g 7), .int (nI rr), .int (nI rs), .ref (g 10), .ref (g 11), .ref (g 12), .long sd, .ref (g 14), .ref (g 15), .int (nI ac), .ref (g 17), .ref (g 18), .ref (g 19), .int (nI tc), .ref (g 21), .ref (g 22), .ref (g 23), .ref (g 24), .long td9, .ref (g 26), .ref (g 27), .ref (g 28), .ref (g 29), .ref (g 30)])), (g 1, .inl (cI, 64, .inl (fun i9 => nI (t i9))))] H ∧ va_D A [(g 0, .inr (10, [.int (nI 0), .ref (g 1), .int (nI (ts + (k - i1))), .int (nI pl), .int (nI rk), .ref (g 5), .int (nI sl), .ref (g 7), .int (nI rr), .int (nI rs), .ref (g 10), .ref (g 11), .ref (g 12), .long sd, .ref (g 14), .ref (g 15), .int (nI ac), .ref (g 17), .ref (g 18), .ref (g 19), .int (nI tc), .ref (g 21), .ref (g 22), .ref (g 23), .ref (g 24), .long td9, .ref (g 26), .ref (g 27), .ref (g 28), .ref (g 29), .ref (g 30)])), (g 1, .inl (cI, 64, .inl (fun i9 => nI (t i9))))] ∧ va_S A s.heap H locs ∧ lv_has ls 5 [(4, .int (nI i1 + Int32.ofInt (-1))), (0, .ref (g 0)), (1, .int (nI k)), (2, .long v)]) (fun xx9 => match xx9 with | (i1, t) => []) (fun xx9 => match xx9 with | (i1, t) => i1) ?_ (k, tx) ⟨by first | assumption | omega | (simp; done), fun j => by unfold appT; rw [if_neg (by omega)], hP.sub [0, 1] rfl, hD.sub [0, 1] (by decide) rfl, hS, lv_sub hl [0, 1, 2, 3] rfl⟩
      intro xx9 H locs ls hI ih_39
      obtain ⟨i1, t⟩ := xx9
      obtain ⟨hi, ht1, hP, hD, hS, hl⟩ := hI
      have hi : i1 ≤ k := hi
      have ht1 : ∀ j, t j = appT tx ts k (k - i1) v j := ht1
      have hP : va_P G vwCl [(g 0, .inr (10, [.int (nI 0), .ref (g 1), .int (nI (ts + (k - i1))), .int (nI pl), .int (nI rk), .ref (g 5), .int (nI sl), .ref (g 7), .int (nI rr), .int (nI rs), .ref (g 10), .ref (g 11), .ref (g 12), .long sd, .ref (g 14), .ref (g 15), .int (nI ac), .ref (g 17), .ref (g 18), .ref (g 19), .int (nI tc), .ref (g 21), .ref (g 22), .ref (g 23), .ref (g 24), .long td9, .ref (g 26), .ref (g 27), .ref (g 28), .ref (g 29), .ref (g 30)])), (g 1, .inl (cI, 64, .inl (fun i9 => nI (t i9))))] _ := hP
      have hD : va_D A [(g 0, .inr (10, [.int (nI 0), .ref (g 1), .int (nI (ts + (k - i1))), .int (nI pl), .int (nI rk), .ref (g 5), .int (nI sl), .ref (g 7), .int (nI rr), .int (nI rs), .ref (g 10), .ref (g 11), .ref (g 12), .long sd, .ref (g 14), .ref (g 15), .int (nI ac), .ref (g 17), .ref (g 18), .ref (g 19), .int (nI tc), .ref (g 21), .ref (g 22), .ref (g 23), .ref (g 24), .long td9, .ref (g 26), .ref (g 27), .ref (g 28), .ref (g 29), .ref (g 30)])), (g 1, .inl (cI, 64, .inl (fun i9 => nI (t i9))))] := hD
      have hl : lv_has ls 5 [(4, .int (nI i1 + Int32.ofInt (-1))), (0, .ref (g 0)), (1, .int (nI k)), (2, .long v)] := hl
      refine lv_iload hx hb dX10_write_39 (lv_at hl 0 rfl) ?_
      refine lv_if_lt (tgt := 81) hx hb dX10_write_41 (by decide) (fun c_41 => ?_) (fun c_41 => ?_)
      · skip
        have h0 := m1_lt c_41 (by omega)
        subst h0
        rw [Nat.sub_zero] at hP hD ht1
        refine lv_aload_n hx hb dX10_write_81 rfl (lv_at hl 1 rfl) ?_
        refine va_get (D := G) (ci := 10) (v := .int (nI (ts + k))) (C := RX10) (T := TX10) (N := 31) hx hb hts hin10 hown hK.1 hP 0 rfl rfl 2 (by decide) k_2 (fun _ h9 => h9) rfl dX10_write_82 ?_
        exact endI hx hb hr hlocks ((t, ts + k)) (WrP_ok (k := k) (by omega) (by omega) rfl (by omega) ht1) (hP.sub [0, 1] rfl) (hD.sub [0, 1] (by decide) rfl) hS dX10_write_85
      · skip
        obtain ⟨j, rfl⟩ := m1_ge c_41
        rw [m1_eq] at hl
        refine lv_aload_n hx hb dX10_write_44 rfl (lv_at hl 1 rfl) ?_
        refine va_get (D := G) (ci := 10) (v := .ref (g 1)) (C := RX10) (T := TX10) (N := 31) hx hb hts hin10 hown hK.1 hP 0 rfl rfl 1 (by decide) k_3 (fun _ h9 => h9) rfl dX10_write_45 ?_
        refine lv_aload_n hx hb dX10_write_48 rfl (lv_at hl 1 rfl) ?_
        refine va_get (D := G) (ci := 10) (v := .int (nI (ts + (k - (j + 1))))) (C := RX10) (T := TX10) (N := 31) hx hb hts hin10 hown hK.1 hP 0 rfl rfl 2 (by decide) k_2 (fun _ h9 => h9) rfl dX10_write_49 ?_
        refine lv_lload_n hx hb dX10_write_52 rfl (lv_at hl 3 rfl) ?_
        refine lv_bipush (v := nI 8) hx hb dX10_write_53 (by decide) ?_
        refine lv_iload hx hb dX10_write_55 (lv_at hl 0 rfl) ?_
        refine lv_imul hx hb dX10_write_57 ?_
        refine top_i (y := nI (8 * j)) (pk_mul _ _) ?_
        refine lv_lshr (v := v >>> ((nI (8 * j)).toInt64 &&& 63)) hx hb dX10_write_58 rfl ?_
        refine lv_l2i (v := (v >>> ((nI (8 * j)).toInt64 &&& 63)).toInt32) hx hb dX10_write_59 rfl ?_
        refine lv_sipush (v := nI 255) hx hb dX10_write_60 (by decide) ?_
        refine lv_iand hx hb dX10_write_63 ?_
        refine top_i (y := nI (byN v j)) (byM v (by omega)) ?_
        refine ast (f' := fun i9 => nI ((va_up t (ts + (k - (j + 1))) (byN v j)) i9)) hx hb hK hP hD hS 1 0 rfl rfl (j := (ts + (k - (j + 1)))) (by omega) (by omega) (upd_nat) dX10_write_64 (fun H locs hP hD hS => ?_)
        have hP : va_P G vwCl [(g 0, .inr (10, [.int (nI 0), .ref (g 1), .int (nI (ts + (k - (j + 1)))), .int (nI pl), .int (nI rk), .ref (g 5), .int (nI sl), .ref (g 7), .int (nI rr), .int (nI rs), .ref (g 10), .ref (g 11), .ref (g 12), .long sd, .ref (g 14), .ref (g 15), .int (nI ac), .ref (g 17), .ref (g 18), .ref (g 19), .int (nI tc), .ref (g 21), .ref (g 22), .ref (g 23), .ref (g 24), .long td9, .ref (g 26), .ref (g 27), .ref (g 28), .ref (g 29), .ref (g 30)])), (g 1, .inl (cI, 64, .inl (fun i9 => nI ((va_up t (ts + (k - (j + 1))) (byN v j)) i9))))] _ := hP
        have hD : va_D A [(g 0, .inr (10, [.int (nI 0), .ref (g 1), .int (nI (ts + (k - (j + 1)))), .int (nI pl), .int (nI rk), .ref (g 5), .int (nI sl), .ref (g 7), .int (nI rr), .int (nI rs), .ref (g 10), .ref (g 11), .ref (g 12), .long sd, .ref (g 14), .ref (g 15), .int (nI ac), .ref (g 17), .ref (g 18), .ref (g 19), .int (nI tc), .ref (g 21), .ref (g 22), .ref (g 23), .ref (g 24), .long td9, .ref (g 26), .ref (g 27), .ref (g 28), .ref (g 29), .ref (g 30)])), (g 1, .inl (cI, 64, .inl (fun i9 => nI ((va_up t (ts + (k - (j + 1))) (byN v j)) i9))))] := hD
        refine lv_aload_n hx hb dX10_write_65 rfl (lv_at hl 1 rfl) ?_
        refine lv_dup hx hb dX10_write_66 rfl ?_
        refine va_get (D := G) (ci := 10) (v := .int (nI (ts + (k - (j + 1))))) (C := RX10) (T := TX10) (N := 31) hx hb hts hin10 hown hK.1 hP 0 rfl rfl 2 (by decide) k_2 (fun _ h9 => h9) rfl dX10_write_67 ?_
        refine lv_iconst (v := nI 1) hx hb dX10_write_70 (by decide) ?_
        refine lv_iadd hx hb dX10_write_71 ?_
        refine top_i (y := nI ((ts + (k - (j + 1))) + 1)) (nI_add _ _) ?_
        refine top_i (y := nI (ts + (k - j))) (by congr 1; omega) ?_
        refine va_put (D := G) (ci := 10) (v := .int (nI (ts + (k - j)))) (ty := tyX10 2) (C := RX10) (T := TX10) (N := 31) hx hb hts hin10 tyX10 tyX10_ok nmX10 hown hK.1 hP hD hS 0 rfl rfl 2 (by decide) k_2 (fun _ h9 => h9) rfl (by decide +kernel) rfl rfl (Nat.le_of_ble_eq_true rfl) dX10_write_72 (fun H locs hP hD hS => ?_)
        have hP : va_P G vwCl [(g 0, .inr (10, [.int (nI 0), .ref (g 1), .int (nI (ts + (k - j))), .int (nI pl), .int (nI rk), .ref (g 5), .int (nI sl), .ref (g 7), .int (nI rr), .int (nI rs), .ref (g 10), .ref (g 11), .ref (g 12), .long sd, .ref (g 14), .ref (g 15), .int (nI ac), .ref (g 17), .ref (g 18), .ref (g 19), .int (nI tc), .ref (g 21), .ref (g 22), .ref (g 23), .ref (g 24), .long td9, .ref (g 26), .ref (g 27), .ref (g 28), .ref (g 29), .ref (g 30)])), (g 1, .inl (cI, 64, .inl (fun i9 => nI ((va_up t (ts + (k - (j + 1))) (byN v j)) i9))))] _ := hP
        have hD : va_D A [(g 0, .inr (10, [.int (nI 0), .ref (g 1), .int (nI (ts + (k - j))), .int (nI pl), .int (nI rk), .ref (g 5), .int (nI sl), .ref (g 7), .int (nI rr), .int (nI rs), .ref (g 10), .ref (g 11), .ref (g 12), .long sd, .ref (g 14), .ref (g 15), .int (nI ac), .ref (g 17), .ref (g 18), .ref (g 19), .int (nI tc), .ref (g 21), .ref (g 22), .ref (g 23), .ref (g 24), .long td9, .ref (g 26), .ref (g 27), .ref (g 28), .ref (g 29), .ref (g 30)])), (g 1, .inl (cI, 64, .inl (fun i9 => nI ((va_up t (ts + (k - (j + 1))) (byN v j)) i9))))] := hD
        refine lv_iinc (v := (nI j) + Int32.ofInt (-1)) (lv' := [(4, .int ((nI j) + Int32.ofInt (-1))), (0, .ref (g 0)), (1, .int (nI k)), (2, .long v)]) hx hb dX10_write_75 hl (k := 0) rfl (rfl) (by decide) rfl (fun ls hl => ?_)
        refine lv_goto (tgt := 39) hx hb dX10_write_78 (by decide) ?_
        exact ih_39 (j, va_up t (ts + (k - (j + 1))) (byN v j)) _ _ _ (by first | omega | (simp only []; omega) | (show _ < _; omega)) ⟨by first | assumption | omega | (simp; done), appT_up ht1 (by omega), hP.sub [0, 1] rfl, hD.sub [0, 1] (by decide) rfl, hS, lv_sub hl [0, 1, 2, 3] rfl⟩
    · skip
      have c_28 := n_leF c_28 (by omega) (by omega)
      refine lv_bipush (v := (-4)) hx hb dX10_write_31 (by decide) ?_
      exact endI hx hb hr hlocks ((tx, ts)) (WrP_full (k := k) (by omega) (by omega) rfl (by omega)) (hP.sub [0, 1] rfl) (hD.sub [0, 1] (by decide) rfl) hS dX10_write_33
  · skip
    have c_14 := bI_f c_14
    refine lv_bipush (v := (-2)) hx hb dX10_write_17 (by decide) ?_
    exact endI hx hb hr hlocks ((tx, ts)) (WrP_bad (fun k h1 h2 h3 => c_14 ((in_18 (n := n)).mpr ⟨k, h1, h2, h3⟩))) (hP.sub [0, 1] rfl) (hD.sub [0, 1] (by decide) rfl) hS dX10_write_19

set_option maxHeartbeats 4000000 in
set_option maxRecDepth 100000 in
theorem c_X10_wipe {l : Launch} {G : va_G} {cI cJ cZ cS : ClassId} (g : Nat → Nat) (ts : Nat) (pl : Nat) (rk : Nat) (sl : Nat) (rr : Nat) (rs : Nat) (ac : Nat) (tc : Nat) (sd : Int64) (td9 : Int64) : CI l G (kT cI cJ cZ cS) (S := Unit) yX10_wipe wsX10_wipe { frames := 0, cells := 0, slots := 0, locals := 0 } [.ref (g 0)] [(g 0, .inr (10, [.int (nI 0), .ref (g 1), .int (nI ts), .int (nI pl), .int (nI rk), .ref (g 5), .int (nI sl), .ref (g 7), .int (nI rr), .int (nI rs), .ref (g 10), .ref (g 11), .ref (g 12), .long sd, .ref (g 14), .ref (g 15), .int (nI ac), .ref (g 17), .ref (g 18), .ref (g 19), .int (nI tc), .ref (g 21), .ref (g 22), .ref (g 23), .ref (g 24), .long td9, .ref (g 26), .ref (g 27), .ref (g 28), .ref (g 29), .ref (g 30)]))] (fun res _ => res = nI ts) (fun _ => [(g 0, .inr (10, [.int (nI 0), .ref (g 1), .int (nI 0), .int (nI pl), .int (nI rk), .ref (g 5), .int (nI sl), .ref (g 7), .int (nI rr), .int (nI rs), .ref (g 10), .ref (g 11), .ref (g 12), .long sd, .ref (g 14), .ref (g 15), .int (nI ac), .ref (g 17), .ref (g 18), .ref (g 19), .int (nI tc), .ref (g 21), .ref (g 22), .ref (g 23), .ref (g 24), .long td9, .ref (g 26), .ref (g 27), .ref (g 28), .ref (g 29), .ref (g 30)]))]) := by
  refine CI.of (cc := cX10_wipe) (maxL := 2) (by decide) rfl (Nat.le_of_ble_eq_true rfl) ?_
  intro p9 e9 s m below meth co9 A ls hB
  obtain ⟨hx, hb, hml, hr, hts, hown, hlocks, hmn, hK, hP, hD, hS, hA, hl⟩ := hB
  have hP : va_P G vwCl [(g 0, .inr (10, [.int (nI 0), .ref (g 1), .int (nI ts), .int (nI pl), .int (nI rk), .ref (g 5), .int (nI sl), .ref (g 7), .int (nI rr), .int (nI rs), .ref (g 10), .ref (g 11), .ref (g 12), .long sd, .ref (g 14), .ref (g 15), .int (nI ac), .ref (g 17), .ref (g 18), .ref (g 19), .int (nI tc), .ref (g 21), .ref (g 22), .ref (g 23), .ref (g 24), .long td9, .ref (g 26), .ref (g 27), .ref (g 28), .ref (g 29), .ref (g 30)]))] s.heap := hP
  have hD : va_D A [(g 0, .inr (10, [.int (nI 0), .ref (g 1), .int (nI ts), .int (nI pl), .int (nI rk), .ref (g 5), .int (nI sl), .ref (g 7), .int (nI rr), .int (nI rs), .ref (g 10), .ref (g 11), .ref (g 12), .long sd, .ref (g 14), .ref (g 15), .int (nI ac), .ref (g 17), .ref (g 18), .ref (g 19), .int (nI tc), .ref (g 21), .ref (g 22), .ref (g 23), .ref (g 24), .long td9, .ref (g 26), .ref (g 27), .ref (g 28), .ref (g 29), .ref (g 30)]))] := hD
  have hl : lv_has ls 2 [(0, .ref (g 0))] := hl
  have k_0 := hts (.fieldLink RX10 72 "HearsayMarchModel" "thrown" "I") (by decide +kernel)
  have k_1 := hts (.fieldLink RX10 87 "HearsayMarchModel" "textSize" "I") (by decide +kernel)
  have hin10 : ∀ w ∈ wsX100, w ∈ wsX10_wipe := by decide +kernel
  refine lv_aload_n hx hb dX10_wipe_0 rfl (lv_at hl 0 rfl) ?_
  refine lv_iconst (v := nI 0) hx hb dX10_wipe_1 (by decide) ?_
  refine va_put (D := G) (ci := 10) (v := .int (nI 0)) (ty := tyX10 0) (C := RX10) (T := TX10) (N := 31) hx hb hts hin10 tyX10 tyX10_ok nmX10 hown hK.1 hP hD hS 0 rfl rfl 0 (by decide) k_0 (fun _ h9 => h9) rfl (by decide +kernel) rfl rfl (Nat.le_of_ble_eq_true rfl) dX10_wipe_2 (fun H locs hP hD hS => ?_)
  have hP : va_P G vwCl [(g 0, .inr (10, [.int (nI 0), .ref (g 1), .int (nI ts), .int (nI pl), .int (nI rk), .ref (g 5), .int (nI sl), .ref (g 7), .int (nI rr), .int (nI rs), .ref (g 10), .ref (g 11), .ref (g 12), .long sd, .ref (g 14), .ref (g 15), .int (nI ac), .ref (g 17), .ref (g 18), .ref (g 19), .int (nI tc), .ref (g 21), .ref (g 22), .ref (g 23), .ref (g 24), .long td9, .ref (g 26), .ref (g 27), .ref (g 28), .ref (g 29), .ref (g 30)]))] _ := hP
  have hD : va_D A [(g 0, .inr (10, [.int (nI 0), .ref (g 1), .int (nI ts), .int (nI pl), .int (nI rk), .ref (g 5), .int (nI sl), .ref (g 7), .int (nI rr), .int (nI rs), .ref (g 10), .ref (g 11), .ref (g 12), .long sd, .ref (g 14), .ref (g 15), .int (nI ac), .ref (g 17), .ref (g 18), .ref (g 19), .int (nI tc), .ref (g 21), .ref (g 22), .ref (g 23), .ref (g 24), .long td9, .ref (g 26), .ref (g 27), .ref (g 28), .ref (g 29), .ref (g 30)]))] := hD
  refine lv_aload_n hx hb dX10_wipe_5 rfl (lv_at hl 0 rfl) ?_
  refine va_get (D := G) (ci := 10) (v := .int (nI ts)) (C := RX10) (T := TX10) (N := 31) hx hb hts hin10 hown hK.1 hP 0 rfl rfl 2 (by decide) k_1 (fun _ h9 => h9) rfl dX10_wipe_6 ?_
  refine lv_istore_n (lv' := [(1, .int (nI ts)), (0, .ref (g 0))]) hx hb dX10_wipe_9 rfl hl (by decide) rfl (fun ls hl => ?_)
  refine lv_aload_n hx hb dX10_wipe_10 rfl (lv_at hl 1 rfl) ?_
  refine lv_iconst (v := nI 0) hx hb dX10_wipe_11 (by decide) ?_
  refine va_put (D := G) (ci := 10) (v := .int (nI 0)) (ty := tyX10 2) (C := RX10) (T := TX10) (N := 31) hx hb hts hin10 tyX10 tyX10_ok nmX10 hown hK.1 hP hD hS 0 rfl rfl 2 (by decide) k_1 (fun _ h9 => h9) rfl (by decide +kernel) rfl rfl (Nat.le_of_ble_eq_true rfl) dX10_wipe_12 (fun H locs hP hD hS => ?_)
  have hP : va_P G vwCl [(g 0, .inr (10, [.int (nI 0), .ref (g 1), .int (nI 0), .int (nI pl), .int (nI rk), .ref (g 5), .int (nI sl), .ref (g 7), .int (nI rr), .int (nI rs), .ref (g 10), .ref (g 11), .ref (g 12), .long sd, .ref (g 14), .ref (g 15), .int (nI ac), .ref (g 17), .ref (g 18), .ref (g 19), .int (nI tc), .ref (g 21), .ref (g 22), .ref (g 23), .ref (g 24), .long td9, .ref (g 26), .ref (g 27), .ref (g 28), .ref (g 29), .ref (g 30)]))] _ := hP
  have hD : va_D A [(g 0, .inr (10, [.int (nI 0), .ref (g 1), .int (nI 0), .int (nI pl), .int (nI rk), .ref (g 5), .int (nI sl), .ref (g 7), .int (nI rr), .int (nI rs), .ref (g 10), .ref (g 11), .ref (g 12), .long sd, .ref (g 14), .ref (g 15), .int (nI ac), .ref (g 17), .ref (g 18), .ref (g 19), .int (nI tc), .ref (g 21), .ref (g 22), .ref (g 23), .ref (g 24), .long td9, .ref (g 26), .ref (g 27), .ref (g 28), .ref (g 29), .ref (g 30)]))] := hD
  refine lv_iload_n hx hb dX10_wipe_15 rfl (lv_at hl 0 rfl) ?_
  exact endI hx hb hr hlocks (()) (rfl) (hP.sub [0] rfl) (hD.sub [0] (by decide) rfl) hS dX10_wipe_16

set_option maxHeartbeats 4000000 in
set_option maxRecDepth 100000 in
theorem c_X10_figure {l : Launch} {G : va_G} {cI cJ cZ cS : ClassId} (g : Nat → Nat) (ts : Nat) (pl : Nat) (rk : Nat) (sl : Nat) (rr : Nat) (rs : Nat) (ac : Nat) (tc : Nat) (sd : Int64) (td9 : Int64) (tx : Nat → Nat) (a : Nat) (b : Nat) (hpl : pl ≤ ts) (hts : ts ≤ 64) (htx : ∀ j, j < ts → tx j < 256) (ha : a < 100) (hb9 : b < 100) : CI l G (kT cI cJ cZ cS) (S := Nat) yX10_figure wsX10_figure { frames := 1, cells := 0, slots := 0, locals := 25 } [.ref (g 0), .int (nI a), .int (nI b)] [(g 0, .inr (10, [.int (nI 0), .ref (g 1), .int (nI ts), .int (nI pl), .int (nI rk), .ref (g 5), .int (nI sl), .ref (g 7), .int (nI rr), .int (nI rs), .ref (g 10), .ref (g 11), .ref (g 12), .long sd, .ref (g 14), .ref (g 15), .int (nI ac), .ref (g 17), .ref (g 18), .ref (g 19), .int (nI tc), .ref (g 21), .ref (g 22), .ref (g 23), .ref (g 24), .long td9, .ref (g 26), .ref (g 27), .ref (g 28), .ref (g 29), .ref (g 30)])), (g 1, .inl (cI, 64, .inl (fun i9 => nI (tx i9))))] (fun res p1 => FgP tx ts pl a b p1 res) (fun p1 => [(g 0, .inr (10, [.int (nI 0), .ref (g 1), .int (nI ts), .int (nI p1), .int (nI rk), .ref (g 5), .int (nI sl), .ref (g 7), .int (nI rr), .int (nI rs), .ref (g 10), .ref (g 11), .ref (g 12), .long sd, .ref (g 14), .ref (g 15), .int (nI ac), .ref (g 17), .ref (g 18), .ref (g 19), .int (nI tc), .ref (g 21), .ref (g 22), .ref (g 23), .ref (g 24), .long td9, .ref (g 26), .ref (g 27), .ref (g 28), .ref (g 29), .ref (g 30)])), (g 1, .inl (cI, 64, .inl (fun i9 => nI (tx i9))))]) := by
  refine CI.of (cc := cX10_figure) (maxL := 3) (by decide) rfl (Nat.le_of_ble_eq_true rfl) ?_
  intro p9 e9 s m below meth co9 A ls hB
  obtain ⟨hx, hb, hml, hr, hts, hown, hlocks, hmn, hK, hP, hD, hS, hA, hl⟩ := hB
  have hP : va_P G vwCl [(g 0, .inr (10, [.int (nI 0), .ref (g 1), .int (nI ts), .int (nI pl), .int (nI rk), .ref (g 5), .int (nI sl), .ref (g 7), .int (nI rr), .int (nI rs), .ref (g 10), .ref (g 11), .ref (g 12), .long sd, .ref (g 14), .ref (g 15), .int (nI ac), .ref (g 17), .ref (g 18), .ref (g 19), .int (nI tc), .ref (g 21), .ref (g 22), .ref (g 23), .ref (g 24), .long td9, .ref (g 26), .ref (g 27), .ref (g 28), .ref (g 29), .ref (g 30)])), (g 1, .inl (cI, 64, .inl (fun i9 => nI (tx i9))))] s.heap := hP
  have hD : va_D A [(g 0, .inr (10, [.int (nI 0), .ref (g 1), .int (nI ts), .int (nI pl), .int (nI rk), .ref (g 5), .int (nI sl), .ref (g 7), .int (nI rr), .int (nI rs), .ref (g 10), .ref (g 11), .ref (g 12), .long sd, .ref (g 14), .ref (g 15), .int (nI ac), .ref (g 17), .ref (g 18), .ref (g 19), .int (nI tc), .ref (g 21), .ref (g 22), .ref (g 23), .ref (g 24), .long td9, .ref (g 26), .ref (g 27), .ref (g 28), .ref (g 29), .ref (g 30)])), (g 1, .inl (cI, 64, .inl (fun i9 => nI (tx i9))))] := hD
  have hl : lv_has ls 3 [(0, .ref (g 0)), (1, .int (nI a)), (2, .int (nI b))] := hl
  have k_0 := hts (.fieldLink RX10 90 "HearsayMarchModel" "place" "I") (by decide +kernel)
  have k_1 := hts (.fieldLink RX10 87 "HearsayMarchModel" "textSize" "I") (by decide +kernel)
  have k_2 := hts (.fieldLink RX10 7 "HearsayMarchModel" "text" "[I") (by decide +kernel)
  have hin10 : ∀ w ∈ wsX100, w ∈ wsX10_figure := by decide +kernel
  refine lv_aload_n hx hb dX10_figure_0 rfl (lv_at hl 0 rfl) ?_
  refine va_get (D := G) (ci := 10) (v := .int (nI pl)) (C := RX10) (T := TX10) (N := 31) hx hb hts hin10 hown hK.1 hP 0 rfl rfl 3 (by decide) k_0 (fun _ h9 => h9) rfl dX10_figure_1 ?_
  refine lv_aload_n hx hb dX10_figure_4 rfl (lv_at hl 0 rfl) ?_
  refine va_get (D := G) (ci := 10) (v := .int (nI ts)) (C := RX10) (T := TX10) (N := 31) hx hb hts hin10 hown hK.1 hP 0 rfl rfl 2 (by decide) k_1 (fun _ h9 => h9) rfl dX10_figure_5 ?_
  refine lv_icmp_eq (tgt := 34) hx hb dX10_figure_8 (by decide) (fun c_8 => ?_) (fun c_8 => ?_)
  · skip
    have c_8 := n_eqT c_8 (by omega) (by omega)
    refine lv_bipush (v := (-9)) hx hb dX10_figure_34 (by decide) ?_
    exact endI hx hb hr hlocks (pl) (FgP_end c_8) (hP.sub [0, 1] rfl) (hD.sub [0, 1] (by decide) rfl) hS dX10_figure_36
  · skip
    have c_8 := n_eqF c_8 (by omega) (by omega)
    have hc9 := htx pl (by omega)
    refine lv_aload_n hx hb dX10_figure_11 rfl (lv_at hl 0 rfl) ?_
    refine va_get (D := G) (ci := 10) (v := .ref (g 1)) (C := RX10) (T := TX10) (N := 31) hx hb hts hin10 hown hK.1 hP 0 rfl rfl 1 (by decide) k_2 (fun _ h9 => h9) rfl dX10_figure_12 ?_
    refine lv_aload_n hx hb dX10_figure_15 rfl (lv_at hl 0 rfl) ?_
    refine va_get (D := G) (ci := 10) (v := .int (nI pl)) (C := RX10) (T := TX10) (N := 31) hx hb hts hin10 hown hK.1 hP 0 rfl rfl 3 (by decide) k_0 (fun _ h9 => h9) rfl dX10_figure_16 ?_
    refine ald hx hb hK hP 1 0 rfl rfl (j := pl) (by omega) (by omega) dX10_figure_19 ?_
    refine lv_bipush (v := nI 48) hx hb dX10_figure_20 (by decide) ?_
    refine lv_isub hx hb dX10_figure_22 ?_
    refine lv_i2l (v := ((nI (tx pl)) - (nI 48)).toInt64) hx hb dX10_figure_23 rfl ?_
    refine lv_iload_n hx hb dX10_figure_24 rfl (lv_at hl 1 rfl) ?_
    refine lv_i2l (v := lN a) hx hb dX10_figure_25 (nI_l (by omega)) ?_
    refine lv_iload_n hx hb dX10_figure_26 rfl (lv_at hl 2 rfl) ?_
    refine lv_i2l (v := lN b) hx hb dX10_figure_27 (nI_l (by omega)) ?_
    refine aft_i (wr := [(g 0, .inr (10, [.int (nI 0), .ref (g 1), .int (nI ts), .int (nI pl), .int (nI rk), .ref (g 5), .int (nI sl), .ref (g 7), .int (nI rr), .int (nI rs), .ref (g 10), .ref (g 11), .ref (g 12), .long sd, .ref (g 14), .ref (g 15), .int (nI ac), .ref (g 17), .ref (g 18), .ref (g 19), .int (nI tc), .ref (g 21), .ref (g 22), .ref (g 23), .ref (g 24), .long td9, .ref (g 26), .ref (g 27), .ref (g 28), .ref (g 29), .ref (g 30)])), (g 1, .inl (cI, 64, .inl (fun i9 => nI (tx i9))))]) (va_runS (As := [.long (((nI (tx pl)) - (nI 48)).toInt64), .long (lN a), .long (lN b)]) (rest := []) ⟨hx, hb, hml, hown, hts⟩ (c_X10_in (x := ((nI (tx pl)) - (nI 48)).toInt64) (y := lN a) (z := lN b) _) (va_cwS 3 hts gX10_figure_X10_in rfl rfl rfl (by decide +kernel) ⟨Nat.le_of_ble_eq_true rfl, Nat.le_of_ble_eq_true rfl⟩) (preS hK hP hD [] rfl rfl) rfl rfl hl.1 rfl (lv_room (Nat.le_of_ble_eq_true rfl)) dX10_figure_28 ⟨Nat.le_of_ble_eq_true rfl, Nat.le_of_ble_eq_true rfl⟩) hP hD hS hA [] [0, 1] rfl rfl rfl (by decide) (fun r_28 uu9 H locs hw hP hD hS => ?_)
    have hP : va_P G vwCl [(g 0, .inr (10, [.int (nI 0), .ref (g 1), .int (nI ts), .int (nI pl), .int (nI rk), .ref (g 5), .int (nI sl), .ref (g 7), .int (nI rr), .int (nI rs), .ref (g 10), .ref (g 11), .ref (g 12), .long sd, .ref (g 14), .ref (g 15), .int (nI ac), .ref (g 17), .ref (g 18), .ref (g 19), .int (nI tc), .ref (g 21), .ref (g 22), .ref (g 23), .ref (g 24), .long td9, .ref (g 26), .ref (g 27), .ref (g 28), .ref (g 29), .ref (g 30)])), (g 1, .inl (cI, 64, .inl (fun i9 => nI (tx i9))))] _ := hP
    have hD : va_D A [(g 0, .inr (10, [.int (nI 0), .ref (g 1), .int (nI ts), .int (nI pl), .int (nI rk), .ref (g 5), .int (nI sl), .ref (g 7), .int (nI rr), .int (nI rs), .ref (g 10), .ref (g 11), .ref (g 12), .long sd, .ref (g 14), .ref (g 15), .int (nI ac), .ref (g 17), .ref (g 18), .ref (g 19), .int (nI tc), .ref (g 21), .ref (g 22), .ref (g 23), .ref (g 24), .long td9, .ref (g 26), .ref (g 27), .ref (g 28), .ref (g 29), .ref (g 30)])), (g 1, .inl (cI, 64, .inl (fun i9 => nI (tx i9))))] := hD
    obtain rfl := hw
    refine top_i (y := bI ((lN a) ≤ (((nI (tx pl)) - (nI 48)).toInt64) ∧ (((nI (tx pl)) - (nI 48)).toInt64) ≤ (lN b))) rfl ?_
    refine lv_if_ne (tgt := 37) hx hb dX10_figure_31 (by decide) (fun c_31 => ?_) (fun c_31 => ?_)
    · skip
      have c_31 := bI_t c_31
      have c_31 := (in_fig hc9 ha hb9).mp c_31
      refine lv_aload_n hx hb dX10_figure_37 rfl (lv_at hl 0 rfl) ?_
      refine lv_dup hx hb dX10_figure_38 rfl ?_
      refine va_get (D := G) (ci := 10) (v := .int (nI pl)) (C := RX10) (T := TX10) (N := 31) hx hb hts hin10 hown hK.1 hP 0 rfl rfl 3 (by decide) k_0 (fun _ h9 => h9) rfl dX10_figure_39 ?_
      refine lv_iconst (v := nI 1) hx hb dX10_figure_42 (by decide) ?_
      refine lv_iadd hx hb dX10_figure_43 ?_
      refine top_i (y := nI (pl + 1)) (nI_add _ _) ?_
      refine va_put (D := G) (ci := 10) (v := .int (nI (pl + 1))) (ty := tyX10 3) (C := RX10) (T := TX10) (N := 31) hx hb hts hin10 tyX10 tyX10_ok nmX10 hown hK.1 hP hD hS 0 rfl rfl 3 (by decide) k_0 (fun _ h9 => h9) rfl (by decide +kernel) rfl rfl (Nat.le_of_ble_eq_true rfl) dX10_figure_44 (fun H locs hP hD hS => ?_)
      have hP : va_P G vwCl [(g 0, .inr (10, [.int (nI 0), .ref (g 1), .int (nI ts), .int (nI (pl + 1)), .int (nI rk), .ref (g 5), .int (nI sl), .ref (g 7), .int (nI rr), .int (nI rs), .ref (g 10), .ref (g 11), .ref (g 12), .long sd, .ref (g 14), .ref (g 15), .int (nI ac), .ref (g 17), .ref (g 18), .ref (g 19), .int (nI tc), .ref (g 21), .ref (g 22), .ref (g 23), .ref (g 24), .long td9, .ref (g 26), .ref (g 27), .ref (g 28), .ref (g 29), .ref (g 30)])), (g 1, .inl (cI, 64, .inl (fun i9 => nI (tx i9))))] _ := hP
      have hD : va_D A [(g 0, .inr (10, [.int (nI 0), .ref (g 1), .int (nI ts), .int (nI (pl + 1)), .int (nI rk), .ref (g 5), .int (nI sl), .ref (g 7), .int (nI rr), .int (nI rs), .ref (g 10), .ref (g 11), .ref (g 12), .long sd, .ref (g 14), .ref (g 15), .int (nI ac), .ref (g 17), .ref (g 18), .ref (g 19), .int (nI tc), .ref (g 21), .ref (g 22), .ref (g 23), .ref (g 24), .long td9, .ref (g 26), .ref (g 27), .ref (g 28), .ref (g 29), .ref (g 30)])), (g 1, .inl (cI, 64, .inl (fun i9 => nI (tx i9))))] := hD
      refine lv_aload_n hx hb dX10_figure_47 rfl (lv_at hl 0 rfl) ?_
      refine va_get (D := G) (ci := 10) (v := .ref (g 1)) (C := RX10) (T := TX10) (N := 31) hx hb hts hin10 hown hK.1 hP 0 rfl rfl 1 (by decide) k_2 (fun _ h9 => h9) rfl dX10_figure_48 ?_
      refine lv_aload_n hx hb dX10_figure_51 rfl (lv_at hl 0 rfl) ?_
      refine va_get (D := G) (ci := 10) (v := .int (nI (pl + 1))) (C := RX10) (T := TX10) (N := 31) hx hb hts hin10 hown hK.1 hP 0 rfl rfl 3 (by decide) k_0 (fun _ h9 => h9) rfl dX10_figure_52 ?_
      refine lv_iconst (v := nI 1) hx hb dX10_figure_55 (by decide) ?_
      refine lv_isub hx hb dX10_figure_56 ?_
      refine top_i (y := nI pl) (by rw [pk_sub (by omega), Nat.add_sub_cancel]) ?_
      refine ald hx hb hK hP 1 0 rfl rfl (j := pl) (by omega) (by omega) dX10_figure_57 ?_
      refine lv_bipush (v := nI 48) hx hb dX10_figure_58 (by decide) ?_
      refine lv_isub hx hb dX10_figure_60 ?_
      refine top_i (y := nI (tx pl - 48)) (pk_sub (by omega)) ?_
      exact endI hx hb hr hlocks ((pl + 1)) (FgP_ok (by omega) c_31) (hP.sub [0, 1] rfl) (hD.sub [0, 1] (by decide) rfl) hS dX10_figure_61
    · skip
      have c_31 := bI_f c_31
      refine lv_bipush (v := (-9)) hx hb dX10_figure_34 (by decide) ?_
      exact endI hx hb hr hlocks (pl) (FgP_no (fun h => c_31 ((in_fig hc9 ha hb9).mpr h))) (hP.sub [0, 1] rfl) (hD.sub [0, 1] (by decide) rfl) hS dX10_figure_36

set_option maxHeartbeats 4000000 in
set_option maxRecDepth 100000 in
theorem c_X10_readRank {l : Launch} {G : va_G} {cI cJ cZ cS : ClassId} (g : Nat → Nat) (ts : Nat) (pl : Nat) (rk : Nat) (sl : Nat) (rr : Nat) (rs : Nat) (ac : Nat) (tc : Nat) (sd : Int64) (td9 : Int64) (tx : Nat → Nat) (rd : Nat → Nat) (rt : Nat → Nat) (hpl : pl ≤ ts) (hts : ts ≤ 64) (htx : ∀ j, j < ts → tx j < 256) (hrun : ∃ s9, runN tx pl = some s9 ∧ s9.1 = 2 ∧ RMo s9 rd rt rr rs) (hrr : rr < 7) : CI l G (kT cI cJ cZ cS) (S := Nat × Nat × Nat × (Nat → Nat) × (Nat → Nat)) yX10_readRank wsX10_readRank { frames := 0, cells := 0, slots := 0, locals := 0 } [.ref (g 0)] [(g 0, .inr (10, [.int (nI 0), .ref (g 1), .int (nI ts), .int (nI pl), .int (nI rk), .ref (g 5), .int (nI sl), .ref (g 7), .int (nI rr), .int (nI rs), .ref (g 10), .ref (g 11), .ref (g 12), .long sd, .ref (g 14), .ref (g 15), .int (nI ac), .ref (g 17), .ref (g 18), .ref (g 19), .int (nI tc), .ref (g 21), .ref (g 22), .ref (g 23), .ref (g 24), .long td9, .ref (g 26), .ref (g 27), .ref (g 28), .ref (g 29), .ref (g 30)])), (g 1, .inl (cI, 64, .inl (fun i9 => nI (tx i9)))), (g 10, .inl (cI, 7, .inl (fun i9 => nI (rd i9)))), (g 11, .inl (cI, 175, .inl (fun i9 => nI (rt i9))))] (fun res uu9 => match uu9 with | (p1, rr1, rs1, rd1, rt1) => PaP tx ts pl p1 rd1 rt1 rr1 rs1 res) (fun uu9 => match uu9 with | (p1, rr1, rs1, rd1, rt1) => [(g 0, .inr (10, [.int (nI 0), .ref (g 1), .int (nI ts), .int (nI p1), .int (nI rk), .ref (g 5), .int (nI sl), .ref (g 7), .int (nI rr1), .int (nI rs1), .ref (g 10), .ref (g 11), .ref (g 12), .long sd, .ref (g 14), .ref (g 15), .int (nI ac), .ref (g 17), .ref (g 18), .ref (g 19), .int (nI tc), .ref (g 21), .ref (g 22), .ref (g 23), .ref (g 24), .long td9, .ref (g 26), .ref (g 27), .ref (g 28), .ref (g 29), .ref (g 30)])), (g 1, .inl (cI, 64, .inl (fun i9 => nI (tx i9)))), (g 10, .inl (cI, 7, .inl (fun i9 => nI (rd1 i9)))), (g 11, .inl (cI, 175, .inl (fun i9 => nI (rt1 i9))))]) := by
  refine CI.of (cc := cX10_readRank) (maxL := 3) (by decide) rfl (Nat.le_of_ble_eq_true rfl) ?_
  intro p9 e9 s m below meth co9 A ls hB
  obtain ⟨hx, hb, hml, hr, hts, hown, hlocks, hmn, hK, hP, hD, hS, hA, hl⟩ := hB
  have hP : va_P G vwCl [(g 0, .inr (10, [.int (nI 0), .ref (g 1), .int (nI ts), .int (nI pl), .int (nI rk), .ref (g 5), .int (nI sl), .ref (g 7), .int (nI rr), .int (nI rs), .ref (g 10), .ref (g 11), .ref (g 12), .long sd, .ref (g 14), .ref (g 15), .int (nI ac), .ref (g 17), .ref (g 18), .ref (g 19), .int (nI tc), .ref (g 21), .ref (g 22), .ref (g 23), .ref (g 24), .long td9, .ref (g 26), .ref (g 27), .ref (g 28), .ref (g 29), .ref (g 30)])), (g 1, .inl (cI, 64, .inl (fun i9 => nI (tx i9)))), (g 10, .inl (cI, 7, .inl (fun i9 => nI (rd i9)))), (g 11, .inl (cI, 175, .inl (fun i9 => nI (rt i9))))] s.heap := hP
  have hD : va_D A [(g 0, .inr (10, [.int (nI 0), .ref (g 1), .int (nI ts), .int (nI pl), .int (nI rk), .ref (g 5), .int (nI sl), .ref (g 7), .int (nI rr), .int (nI rs), .ref (g 10), .ref (g 11), .ref (g 12), .long sd, .ref (g 14), .ref (g 15), .int (nI ac), .ref (g 17), .ref (g 18), .ref (g 19), .int (nI tc), .ref (g 21), .ref (g 22), .ref (g 23), .ref (g 24), .long td9, .ref (g 26), .ref (g 27), .ref (g 28), .ref (g 29), .ref (g 30)])), (g 1, .inl (cI, 64, .inl (fun i9 => nI (tx i9)))), (g 10, .inl (cI, 7, .inl (fun i9 => nI (rd i9)))), (g 11, .inl (cI, 175, .inl (fun i9 => nI (rt i9))))] := hD
  have hl : lv_has ls 3 [(0, .ref (g 0))] := hl
  have k_0 := hts (.fieldLink RX10 90 "HearsayMarchModel" "place" "I") (by decide +kernel)
  have k_1 := hts (.fieldLink RX10 87 "HearsayMarchModel" "textSize" "I") (by decide +kernel)
  have k_2 := hts (.fieldLink RX10 7 "HearsayMarchModel" "text" "[I") (by decide +kernel)
  have k_3 := hts (.fieldLink RX10 19 "HearsayMarchModel" "readKind" "[I") (by decide +kernel)
  have k_4 := hts (.fieldLink RX10 93 "HearsayMarchModel" "readRanks" "I") (by decide +kernel)
  have hin10 : ∀ w ∈ wsX100, w ∈ wsX10_readRank := by decide +kernel
  refine lv_aload_n hx hb dX10_readRank_0 rfl (lv_at hl 0 rfl) ?_
  refine va_get (D := G) (ci := 10) (v := .int (nI pl)) (C := RX10) (T := TX10) (N := 31) hx hb hts hin10 hown hK.1 hP 0 rfl rfl 3 (by decide) k_0 (fun _ h9 => h9) rfl dX10_readRank_1 ?_
  refine lv_aload_n hx hb dX10_readRank_4 rfl (lv_at hl 0 rfl) ?_
  refine va_get (D := G) (ci := 10) (v := .int (nI ts)) (C := RX10) (T := TX10) (N := 31) hx hb hts hin10 hown hK.1 hP 0 rfl rfl 2 (by decide) k_1 (fun _ h9 => h9) rfl dX10_readRank_5 ?_
  refine lv_icmp_ne (tgt := 13) hx hb dX10_readRank_8 (by decide) (fun c_8 => ?_) (fun c_8 => ?_)
  · skip
    have c_8 := n_neT c_8 (by omega) (by omega)
    have hc9 := htx pl (by omega)
    refine lv_aload_n hx hb dX10_readRank_13 rfl (lv_at hl 0 rfl) ?_
    refine va_get (D := G) (ci := 10) (v := .ref (g 1)) (C := RX10) (T := TX10) (N := 31) hx hb hts hin10 hown hK.1 hP 0 rfl rfl 1 (by decide) k_2 (fun _ h9 => h9) rfl dX10_readRank_14 ?_
    refine lv_aload_n hx hb dX10_readRank_17 rfl (lv_at hl 0 rfl) ?_
    refine va_get (D := G) (ci := 10) (v := .int (nI pl)) (C := RX10) (T := TX10) (N := 31) hx hb hts hin10 hown hK.1 hP 0 rfl rfl 3 (by decide) k_0 (fun _ h9 => h9) rfl dX10_readRank_18 ?_
    refine ald hx hb hK hP 1 0 rfl rfl (j := pl) (by omega) (by omega) dX10_readRank_21 ?_
    refine lv_istore_n (lv' := [(1, .int (nI (tx pl))), (0, .ref (g 0))]) hx hb dX10_readRank_22 rfl hl (by decide) rfl (fun ls hl => ?_)
    refine lv_iload_n hx hb dX10_readRank_23 rfl (lv_at hl 0 rfl) ?_
    refine lv_bipush (v := nI 112) hx hb dX10_readRank_24 (by decide) ?_
    refine lv_icmp_ne (tgt := 33) hx hb dX10_readRank_26 (by decide) (fun c_26 => ?_) (fun c_26 => ?_)
    · skip
      have c_26 := n_neT c_26 (by omega) (by omega)
      refine lv_iload_n hx hb dX10_readRank_33 rfl (lv_at hl 0 rfl) ?_
      refine lv_bipush (v := nI 100) hx hb dX10_readRank_34 (by decide) ?_
      refine lv_icmp_ne (tgt := 43) hx hb dX10_readRank_36 (by decide) (fun c_36 => ?_) (fun c_36 => ?_)
      · skip
        have c_36 := n_neT c_36 (by omega) (by omega)
        refine lv_iload_n hx hb dX10_readRank_43 rfl (lv_at hl 0 rfl) ?_
        refine lv_bipush (v := nI 102) hx hb dX10_readRank_44 (by decide) ?_
        refine lv_icmp_ne (tgt := 53) hx hb dX10_readRank_46 (by decide) (fun c_46 => ?_) (fun c_46 => ?_)
        · skip
          have c_46 := n_neT c_46 (by omega) (by omega)
          refine lv_iload_n hx hb dX10_readRank_53 rfl (lv_at hl 0 rfl) ?_
          refine lv_bipush (v := nI 115) hx hb dX10_readRank_54 (by decide) ?_
          refine lv_icmp_ne (tgt := 63) hx hb dX10_readRank_56 (by decide) (fun c_56 => ?_) (fun c_56 => ?_)
          · skip
            have c_56 := n_neT c_56 (by omega) (by omega)
            refine lv_bipush (v := (-9)) hx hb dX10_readRank_63 (by decide) ?_
            refine lv_istore_n (lv' := [(2, .int (-9)), (1, .int (nI (tx pl))), (0, .ref (g 0))]) hx hb dX10_readRank_65 rfl hl (by decide) rfl (fun ls hl => ?_)
            refine lv_iload_n hx hb dX10_readRank_66 rfl (lv_at hl 0 rfl) ?_
            refine lv_bipush (v := (-9)) hx hb dX10_readRank_67 (by decide) ?_
            refine lv_icmp_ne (tgt := 74) hx hb dX10_readRank_69 (by decide) (fun c_69 => absurd c_69 (fun z => z rfl)) (fun c_69 => ?_)
            refine lv_iconst (v := nI 0) hx hb dX10_readRank_72 (by decide) ?_
            exact endZ hx hb hr hlocks (rfl) ((pl, rr, rs, rd, rt)) (PaP_rankno hrun (by omega) c_26 c_36 c_46 c_56) (hP.sub [0, 1, 2, 3] rfl) (hD.sub [0, 1, 2, 3] (by decide) rfl) hS dX10_readRank_73
          · skip
            have c_56 := n_neF c_56 (by omega) (by omega)
            refine lv_iconst (v := nI 3) hx hb dX10_readRank_59 (by decide) ?_
            refine lv_goto (tgt := 65) hx hb dX10_readRank_60 (by decide) ?_
            refine lv_istore_n (lv' := [(2, .int (nI 3)), (1, .int (nI (tx pl))), (0, .ref (g 0))]) hx hb dX10_readRank_65 rfl hl (by decide) rfl (fun ls hl => ?_)
            refine lv_iload_n hx hb dX10_readRank_66 rfl (lv_at hl 0 rfl) ?_
            refine lv_bipush (v := (-9)) hx hb dX10_readRank_67 (by decide) ?_
            refine lv_icmp_ne (tgt := 74) hx hb dX10_readRank_69 (by decide) (fun c_69 => ?_) (fun c_69 => absurd c_69 (nI_ne9 (by decide)))
            refine lv_aload_n hx hb dX10_readRank_74 rfl (lv_at hl 2 rfl) ?_
            refine lv_dup hx hb dX10_readRank_75 rfl ?_
            refine va_get (D := G) (ci := 10) (v := .int (nI pl)) (C := RX10) (T := TX10) (N := 31) hx hb hts hin10 hown hK.1 hP 0 rfl rfl 3 (by decide) k_0 (fun _ h9 => h9) rfl dX10_readRank_76 ?_
            refine lv_iconst (v := nI 1) hx hb dX10_readRank_79 (by decide) ?_
            refine lv_iadd hx hb dX10_readRank_80 ?_
            refine top_i (y := nI (pl + 1)) (nI_add _ _) ?_
            refine va_put (D := G) (ci := 10) (v := .int (nI (pl + 1))) (ty := tyX10 3) (C := RX10) (T := TX10) (N := 31) hx hb hts hin10 tyX10 tyX10_ok nmX10 hown hK.1 hP hD hS 0 rfl rfl 3 (by decide) k_0 (fun _ h9 => h9) rfl (by decide +kernel) rfl rfl (Nat.le_of_ble_eq_true rfl) dX10_readRank_81 (fun H locs hP hD hS => ?_)
            have hP : va_P G vwCl [(g 0, .inr (10, [.int (nI 0), .ref (g 1), .int (nI ts), .int (nI (pl + 1)), .int (nI rk), .ref (g 5), .int (nI sl), .ref (g 7), .int (nI rr), .int (nI rs), .ref (g 10), .ref (g 11), .ref (g 12), .long sd, .ref (g 14), .ref (g 15), .int (nI ac), .ref (g 17), .ref (g 18), .ref (g 19), .int (nI tc), .ref (g 21), .ref (g 22), .ref (g 23), .ref (g 24), .long td9, .ref (g 26), .ref (g 27), .ref (g 28), .ref (g 29), .ref (g 30)])), (g 1, .inl (cI, 64, .inl (fun i9 => nI (tx i9)))), (g 10, .inl (cI, 7, .inl (fun i9 => nI (rd i9)))), (g 11, .inl (cI, 175, .inl (fun i9 => nI (rt i9))))] _ := hP
            have hD : va_D A [(g 0, .inr (10, [.int (nI 0), .ref (g 1), .int (nI ts), .int (nI (pl + 1)), .int (nI rk), .ref (g 5), .int (nI sl), .ref (g 7), .int (nI rr), .int (nI rs), .ref (g 10), .ref (g 11), .ref (g 12), .long sd, .ref (g 14), .ref (g 15), .int (nI ac), .ref (g 17), .ref (g 18), .ref (g 19), .int (nI tc), .ref (g 21), .ref (g 22), .ref (g 23), .ref (g 24), .long td9, .ref (g 26), .ref (g 27), .ref (g 28), .ref (g 29), .ref (g 30)])), (g 1, .inl (cI, 64, .inl (fun i9 => nI (tx i9)))), (g 10, .inl (cI, 7, .inl (fun i9 => nI (rd i9)))), (g 11, .inl (cI, 175, .inl (fun i9 => nI (rt i9))))] := hD
            refine lv_aload_n hx hb dX10_readRank_84 rfl (lv_at hl 2 rfl) ?_
            refine va_get (D := G) (ci := 10) (v := .ref (g 10)) (C := RX10) (T := TX10) (N := 31) hx hb hts hin10 hown hK.1 hP 0 rfl rfl 10 (by decide) k_3 (fun _ h9 => h9) rfl dX10_readRank_85 ?_
            refine lv_aload_n hx hb dX10_readRank_88 rfl (lv_at hl 2 rfl) ?_
            refine va_get (D := G) (ci := 10) (v := .int (nI rr)) (C := RX10) (T := TX10) (N := 31) hx hb hts hin10 hown hK.1 hP 0 rfl rfl 8 (by decide) k_4 (fun _ h9 => h9) rfl dX10_readRank_89 ?_
            refine lv_iload_n hx hb dX10_readRank_92 rfl (lv_at hl 0 rfl) ?_
            refine ast (f' := fun i9 => nI ((va_up rd rr 3) i9)) hx hb hK hP hD hS 2 0 rfl rfl (j := rr) (by omega) (by omega) (upd_nat) dX10_readRank_93 (fun H locs hP hD hS => ?_)
            have hP : va_P G vwCl [(g 0, .inr (10, [.int (nI 0), .ref (g 1), .int (nI ts), .int (nI (pl + 1)), .int (nI rk), .ref (g 5), .int (nI sl), .ref (g 7), .int (nI rr), .int (nI rs), .ref (g 10), .ref (g 11), .ref (g 12), .long sd, .ref (g 14), .ref (g 15), .int (nI ac), .ref (g 17), .ref (g 18), .ref (g 19), .int (nI tc), .ref (g 21), .ref (g 22), .ref (g 23), .ref (g 24), .long td9, .ref (g 26), .ref (g 27), .ref (g 28), .ref (g 29), .ref (g 30)])), (g 1, .inl (cI, 64, .inl (fun i9 => nI (tx i9)))), (g 10, .inl (cI, 7, .inl (fun i9 => nI ((va_up rd rr 3) i9)))), (g 11, .inl (cI, 175, .inl (fun i9 => nI (rt i9))))] _ := hP
            have hD : va_D A [(g 0, .inr (10, [.int (nI 0), .ref (g 1), .int (nI ts), .int (nI (pl + 1)), .int (nI rk), .ref (g 5), .int (nI sl), .ref (g 7), .int (nI rr), .int (nI rs), .ref (g 10), .ref (g 11), .ref (g 12), .long sd, .ref (g 14), .ref (g 15), .int (nI ac), .ref (g 17), .ref (g 18), .ref (g 19), .int (nI tc), .ref (g 21), .ref (g 22), .ref (g 23), .ref (g 24), .long td9, .ref (g 26), .ref (g 27), .ref (g 28), .ref (g 29), .ref (g 30)])), (g 1, .inl (cI, 64, .inl (fun i9 => nI (tx i9)))), (g 10, .inl (cI, 7, .inl (fun i9 => nI ((va_up rd rr 3) i9)))), (g 11, .inl (cI, 175, .inl (fun i9 => nI (rt i9))))] := hD
            refine lv_aload_n hx hb dX10_readRank_94 rfl (lv_at hl 2 rfl) ?_
            refine lv_dup hx hb dX10_readRank_95 rfl ?_
            refine va_get (D := G) (ci := 10) (v := .int (nI rr)) (C := RX10) (T := TX10) (N := 31) hx hb hts hin10 hown hK.1 hP 0 rfl rfl 8 (by decide) k_4 (fun _ h9 => h9) rfl dX10_readRank_96 ?_
            refine lv_iconst (v := nI 1) hx hb dX10_readRank_99 (by decide) ?_
            refine lv_iadd hx hb dX10_readRank_100 ?_
            refine top_i (y := nI (rr + 1)) (nI_add _ _) ?_
            refine va_put (D := G) (ci := 10) (v := .int (nI (rr + 1))) (ty := tyX10 8) (C := RX10) (T := TX10) (N := 31) hx hb hts hin10 tyX10 tyX10_ok nmX10 hown hK.1 hP hD hS 0 rfl rfl 8 (by decide) k_4 (fun _ h9 => h9) rfl (by decide +kernel) rfl rfl (Nat.le_of_ble_eq_true rfl) dX10_readRank_101 (fun H locs hP hD hS => ?_)
            have hP : va_P G vwCl [(g 0, .inr (10, [.int (nI 0), .ref (g 1), .int (nI ts), .int (nI (pl + 1)), .int (nI rk), .ref (g 5), .int (nI sl), .ref (g 7), .int (nI (rr + 1)), .int (nI rs), .ref (g 10), .ref (g 11), .ref (g 12), .long sd, .ref (g 14), .ref (g 15), .int (nI ac), .ref (g 17), .ref (g 18), .ref (g 19), .int (nI tc), .ref (g 21), .ref (g 22), .ref (g 23), .ref (g 24), .long td9, .ref (g 26), .ref (g 27), .ref (g 28), .ref (g 29), .ref (g 30)])), (g 1, .inl (cI, 64, .inl (fun i9 => nI (tx i9)))), (g 10, .inl (cI, 7, .inl (fun i9 => nI ((va_up rd rr 3) i9)))), (g 11, .inl (cI, 175, .inl (fun i9 => nI (rt i9))))] _ := hP
            have hD : va_D A [(g 0, .inr (10, [.int (nI 0), .ref (g 1), .int (nI ts), .int (nI (pl + 1)), .int (nI rk), .ref (g 5), .int (nI sl), .ref (g 7), .int (nI (rr + 1)), .int (nI rs), .ref (g 10), .ref (g 11), .ref (g 12), .long sd, .ref (g 14), .ref (g 15), .int (nI ac), .ref (g 17), .ref (g 18), .ref (g 19), .int (nI tc), .ref (g 21), .ref (g 22), .ref (g 23), .ref (g 24), .long td9, .ref (g 26), .ref (g 27), .ref (g 28), .ref (g 29), .ref (g 30)])), (g 1, .inl (cI, 64, .inl (fun i9 => nI (tx i9)))), (g 10, .inl (cI, 7, .inl (fun i9 => nI ((va_up rd rr 3) i9)))), (g 11, .inl (cI, 175, .inl (fun i9 => nI (rt i9))))] := hD
            refine lv_iconst (v := nI 1) hx hb dX10_readRank_104 (by decide) ?_
            exact endZ hx hb hr hlocks (rfl) ((pl + 1, rr + 1, rs, va_up rd rr 3, rt)) (PaP_rank hrun (by omega) c_56 (by decide)) (hP.sub [0, 1, 2, 3] rfl) (hD.sub [0, 1, 2, 3] (by decide) rfl) hS dX10_readRank_105
        · skip
          have c_46 := n_neF c_46 (by omega) (by omega)
          refine lv_iconst (v := nI 2) hx hb dX10_readRank_49 (by decide) ?_
          refine lv_goto (tgt := 65) hx hb dX10_readRank_50 (by decide) ?_
          refine lv_istore_n (lv' := [(2, .int (nI 2)), (1, .int (nI (tx pl))), (0, .ref (g 0))]) hx hb dX10_readRank_65 rfl hl (by decide) rfl (fun ls hl => ?_)
          refine lv_iload_n hx hb dX10_readRank_66 rfl (lv_at hl 0 rfl) ?_
          refine lv_bipush (v := (-9)) hx hb dX10_readRank_67 (by decide) ?_
          refine lv_icmp_ne (tgt := 74) hx hb dX10_readRank_69 (by decide) (fun c_69 => ?_) (fun c_69 => absurd c_69 (nI_ne9 (by decide)))
          refine lv_aload_n hx hb dX10_readRank_74 rfl (lv_at hl 2 rfl) ?_
          refine lv_dup hx hb dX10_readRank_75 rfl ?_
          refine va_get (D := G) (ci := 10) (v := .int (nI pl)) (C := RX10) (T := TX10) (N := 31) hx hb hts hin10 hown hK.1 hP 0 rfl rfl 3 (by decide) k_0 (fun _ h9 => h9) rfl dX10_readRank_76 ?_
          refine lv_iconst (v := nI 1) hx hb dX10_readRank_79 (by decide) ?_
          refine lv_iadd hx hb dX10_readRank_80 ?_
          refine top_i (y := nI (pl + 1)) (nI_add _ _) ?_
          refine va_put (D := G) (ci := 10) (v := .int (nI (pl + 1))) (ty := tyX10 3) (C := RX10) (T := TX10) (N := 31) hx hb hts hin10 tyX10 tyX10_ok nmX10 hown hK.1 hP hD hS 0 rfl rfl 3 (by decide) k_0 (fun _ h9 => h9) rfl (by decide +kernel) rfl rfl (Nat.le_of_ble_eq_true rfl) dX10_readRank_81 (fun H locs hP hD hS => ?_)
          have hP : va_P G vwCl [(g 0, .inr (10, [.int (nI 0), .ref (g 1), .int (nI ts), .int (nI (pl + 1)), .int (nI rk), .ref (g 5), .int (nI sl), .ref (g 7), .int (nI rr), .int (nI rs), .ref (g 10), .ref (g 11), .ref (g 12), .long sd, .ref (g 14), .ref (g 15), .int (nI ac), .ref (g 17), .ref (g 18), .ref (g 19), .int (nI tc), .ref (g 21), .ref (g 22), .ref (g 23), .ref (g 24), .long td9, .ref (g 26), .ref (g 27), .ref (g 28), .ref (g 29), .ref (g 30)])), (g 1, .inl (cI, 64, .inl (fun i9 => nI (tx i9)))), (g 10, .inl (cI, 7, .inl (fun i9 => nI (rd i9)))), (g 11, .inl (cI, 175, .inl (fun i9 => nI (rt i9))))] _ := hP
          have hD : va_D A [(g 0, .inr (10, [.int (nI 0), .ref (g 1), .int (nI ts), .int (nI (pl + 1)), .int (nI rk), .ref (g 5), .int (nI sl), .ref (g 7), .int (nI rr), .int (nI rs), .ref (g 10), .ref (g 11), .ref (g 12), .long sd, .ref (g 14), .ref (g 15), .int (nI ac), .ref (g 17), .ref (g 18), .ref (g 19), .int (nI tc), .ref (g 21), .ref (g 22), .ref (g 23), .ref (g 24), .long td9, .ref (g 26), .ref (g 27), .ref (g 28), .ref (g 29), .ref (g 30)])), (g 1, .inl (cI, 64, .inl (fun i9 => nI (tx i9)))), (g 10, .inl (cI, 7, .inl (fun i9 => nI (rd i9)))), (g 11, .inl (cI, 175, .inl (fun i9 => nI (rt i9))))] := hD
          refine lv_aload_n hx hb dX10_readRank_84 rfl (lv_at hl 2 rfl) ?_
          refine va_get (D := G) (ci := 10) (v := .ref (g 10)) (C := RX10) (T := TX10) (N := 31) hx hb hts hin10 hown hK.1 hP 0 rfl rfl 10 (by decide) k_3 (fun _ h9 => h9) rfl dX10_readRank_85 ?_
          refine lv_aload_n hx hb dX10_readRank_88 rfl (lv_at hl 2 rfl) ?_
          refine va_get (D := G) (ci := 10) (v := .int (nI rr)) (C := RX10) (T := TX10) (N := 31) hx hb hts hin10 hown hK.1 hP 0 rfl rfl 8 (by decide) k_4 (fun _ h9 => h9) rfl dX10_readRank_89 ?_
          refine lv_iload_n hx hb dX10_readRank_92 rfl (lv_at hl 0 rfl) ?_
          refine ast (f' := fun i9 => nI ((va_up rd rr 2) i9)) hx hb hK hP hD hS 2 0 rfl rfl (j := rr) (by omega) (by omega) (upd_nat) dX10_readRank_93 (fun H locs hP hD hS => ?_)
          have hP : va_P G vwCl [(g 0, .inr (10, [.int (nI 0), .ref (g 1), .int (nI ts), .int (nI (pl + 1)), .int (nI rk), .ref (g 5), .int (nI sl), .ref (g 7), .int (nI rr), .int (nI rs), .ref (g 10), .ref (g 11), .ref (g 12), .long sd, .ref (g 14), .ref (g 15), .int (nI ac), .ref (g 17), .ref (g 18), .ref (g 19), .int (nI tc), .ref (g 21), .ref (g 22), .ref (g 23), .ref (g 24), .long td9, .ref (g 26), .ref (g 27), .ref (g 28), .ref (g 29), .ref (g 30)])), (g 1, .inl (cI, 64, .inl (fun i9 => nI (tx i9)))), (g 10, .inl (cI, 7, .inl (fun i9 => nI ((va_up rd rr 2) i9)))), (g 11, .inl (cI, 175, .inl (fun i9 => nI (rt i9))))] _ := hP
          have hD : va_D A [(g 0, .inr (10, [.int (nI 0), .ref (g 1), .int (nI ts), .int (nI (pl + 1)), .int (nI rk), .ref (g 5), .int (nI sl), .ref (g 7), .int (nI rr), .int (nI rs), .ref (g 10), .ref (g 11), .ref (g 12), .long sd, .ref (g 14), .ref (g 15), .int (nI ac), .ref (g 17), .ref (g 18), .ref (g 19), .int (nI tc), .ref (g 21), .ref (g 22), .ref (g 23), .ref (g 24), .long td9, .ref (g 26), .ref (g 27), .ref (g 28), .ref (g 29), .ref (g 30)])), (g 1, .inl (cI, 64, .inl (fun i9 => nI (tx i9)))), (g 10, .inl (cI, 7, .inl (fun i9 => nI ((va_up rd rr 2) i9)))), (g 11, .inl (cI, 175, .inl (fun i9 => nI (rt i9))))] := hD
          refine lv_aload_n hx hb dX10_readRank_94 rfl (lv_at hl 2 rfl) ?_
          refine lv_dup hx hb dX10_readRank_95 rfl ?_
          refine va_get (D := G) (ci := 10) (v := .int (nI rr)) (C := RX10) (T := TX10) (N := 31) hx hb hts hin10 hown hK.1 hP 0 rfl rfl 8 (by decide) k_4 (fun _ h9 => h9) rfl dX10_readRank_96 ?_
          refine lv_iconst (v := nI 1) hx hb dX10_readRank_99 (by decide) ?_
          refine lv_iadd hx hb dX10_readRank_100 ?_
          refine top_i (y := nI (rr + 1)) (nI_add _ _) ?_
          refine va_put (D := G) (ci := 10) (v := .int (nI (rr + 1))) (ty := tyX10 8) (C := RX10) (T := TX10) (N := 31) hx hb hts hin10 tyX10 tyX10_ok nmX10 hown hK.1 hP hD hS 0 rfl rfl 8 (by decide) k_4 (fun _ h9 => h9) rfl (by decide +kernel) rfl rfl (Nat.le_of_ble_eq_true rfl) dX10_readRank_101 (fun H locs hP hD hS => ?_)
          have hP : va_P G vwCl [(g 0, .inr (10, [.int (nI 0), .ref (g 1), .int (nI ts), .int (nI (pl + 1)), .int (nI rk), .ref (g 5), .int (nI sl), .ref (g 7), .int (nI (rr + 1)), .int (nI rs), .ref (g 10), .ref (g 11), .ref (g 12), .long sd, .ref (g 14), .ref (g 15), .int (nI ac), .ref (g 17), .ref (g 18), .ref (g 19), .int (nI tc), .ref (g 21), .ref (g 22), .ref (g 23), .ref (g 24), .long td9, .ref (g 26), .ref (g 27), .ref (g 28), .ref (g 29), .ref (g 30)])), (g 1, .inl (cI, 64, .inl (fun i9 => nI (tx i9)))), (g 10, .inl (cI, 7, .inl (fun i9 => nI ((va_up rd rr 2) i9)))), (g 11, .inl (cI, 175, .inl (fun i9 => nI (rt i9))))] _ := hP
          have hD : va_D A [(g 0, .inr (10, [.int (nI 0), .ref (g 1), .int (nI ts), .int (nI (pl + 1)), .int (nI rk), .ref (g 5), .int (nI sl), .ref (g 7), .int (nI (rr + 1)), .int (nI rs), .ref (g 10), .ref (g 11), .ref (g 12), .long sd, .ref (g 14), .ref (g 15), .int (nI ac), .ref (g 17), .ref (g 18), .ref (g 19), .int (nI tc), .ref (g 21), .ref (g 22), .ref (g 23), .ref (g 24), .long td9, .ref (g 26), .ref (g 27), .ref (g 28), .ref (g 29), .ref (g 30)])), (g 1, .inl (cI, 64, .inl (fun i9 => nI (tx i9)))), (g 10, .inl (cI, 7, .inl (fun i9 => nI ((va_up rd rr 2) i9)))), (g 11, .inl (cI, 175, .inl (fun i9 => nI (rt i9))))] := hD
          refine lv_iconst (v := nI 1) hx hb dX10_readRank_104 (by decide) ?_
          exact endZ hx hb hr hlocks (rfl) ((pl + 1, rr + 1, rs, va_up rd rr 2, rt)) (PaP_rank hrun (by omega) c_46 (by decide)) (hP.sub [0, 1, 2, 3] rfl) (hD.sub [0, 1, 2, 3] (by decide) rfl) hS dX10_readRank_105
      · skip
        have c_36 := n_neF c_36 (by omega) (by omega)
        refine lv_iconst (v := nI 1) hx hb dX10_readRank_39 (by decide) ?_
        refine lv_goto (tgt := 65) hx hb dX10_readRank_40 (by decide) ?_
        refine lv_istore_n (lv' := [(2, .int (nI 1)), (1, .int (nI (tx pl))), (0, .ref (g 0))]) hx hb dX10_readRank_65 rfl hl (by decide) rfl (fun ls hl => ?_)
        refine lv_iload_n hx hb dX10_readRank_66 rfl (lv_at hl 0 rfl) ?_
        refine lv_bipush (v := (-9)) hx hb dX10_readRank_67 (by decide) ?_
        refine lv_icmp_ne (tgt := 74) hx hb dX10_readRank_69 (by decide) (fun c_69 => ?_) (fun c_69 => absurd c_69 (nI_ne9 (by decide)))
        refine lv_aload_n hx hb dX10_readRank_74 rfl (lv_at hl 2 rfl) ?_
        refine lv_dup hx hb dX10_readRank_75 rfl ?_
        refine va_get (D := G) (ci := 10) (v := .int (nI pl)) (C := RX10) (T := TX10) (N := 31) hx hb hts hin10 hown hK.1 hP 0 rfl rfl 3 (by decide) k_0 (fun _ h9 => h9) rfl dX10_readRank_76 ?_
        refine lv_iconst (v := nI 1) hx hb dX10_readRank_79 (by decide) ?_
        refine lv_iadd hx hb dX10_readRank_80 ?_
        refine top_i (y := nI (pl + 1)) (nI_add _ _) ?_
        refine va_put (D := G) (ci := 10) (v := .int (nI (pl + 1))) (ty := tyX10 3) (C := RX10) (T := TX10) (N := 31) hx hb hts hin10 tyX10 tyX10_ok nmX10 hown hK.1 hP hD hS 0 rfl rfl 3 (by decide) k_0 (fun _ h9 => h9) rfl (by decide +kernel) rfl rfl (Nat.le_of_ble_eq_true rfl) dX10_readRank_81 (fun H locs hP hD hS => ?_)
        have hP : va_P G vwCl [(g 0, .inr (10, [.int (nI 0), .ref (g 1), .int (nI ts), .int (nI (pl + 1)), .int (nI rk), .ref (g 5), .int (nI sl), .ref (g 7), .int (nI rr), .int (nI rs), .ref (g 10), .ref (g 11), .ref (g 12), .long sd, .ref (g 14), .ref (g 15), .int (nI ac), .ref (g 17), .ref (g 18), .ref (g 19), .int (nI tc), .ref (g 21), .ref (g 22), .ref (g 23), .ref (g 24), .long td9, .ref (g 26), .ref (g 27), .ref (g 28), .ref (g 29), .ref (g 30)])), (g 1, .inl (cI, 64, .inl (fun i9 => nI (tx i9)))), (g 10, .inl (cI, 7, .inl (fun i9 => nI (rd i9)))), (g 11, .inl (cI, 175, .inl (fun i9 => nI (rt i9))))] _ := hP
        have hD : va_D A [(g 0, .inr (10, [.int (nI 0), .ref (g 1), .int (nI ts), .int (nI (pl + 1)), .int (nI rk), .ref (g 5), .int (nI sl), .ref (g 7), .int (nI rr), .int (nI rs), .ref (g 10), .ref (g 11), .ref (g 12), .long sd, .ref (g 14), .ref (g 15), .int (nI ac), .ref (g 17), .ref (g 18), .ref (g 19), .int (nI tc), .ref (g 21), .ref (g 22), .ref (g 23), .ref (g 24), .long td9, .ref (g 26), .ref (g 27), .ref (g 28), .ref (g 29), .ref (g 30)])), (g 1, .inl (cI, 64, .inl (fun i9 => nI (tx i9)))), (g 10, .inl (cI, 7, .inl (fun i9 => nI (rd i9)))), (g 11, .inl (cI, 175, .inl (fun i9 => nI (rt i9))))] := hD
        refine lv_aload_n hx hb dX10_readRank_84 rfl (lv_at hl 2 rfl) ?_
        refine va_get (D := G) (ci := 10) (v := .ref (g 10)) (C := RX10) (T := TX10) (N := 31) hx hb hts hin10 hown hK.1 hP 0 rfl rfl 10 (by decide) k_3 (fun _ h9 => h9) rfl dX10_readRank_85 ?_
        refine lv_aload_n hx hb dX10_readRank_88 rfl (lv_at hl 2 rfl) ?_
        refine va_get (D := G) (ci := 10) (v := .int (nI rr)) (C := RX10) (T := TX10) (N := 31) hx hb hts hin10 hown hK.1 hP 0 rfl rfl 8 (by decide) k_4 (fun _ h9 => h9) rfl dX10_readRank_89 ?_
        refine lv_iload_n hx hb dX10_readRank_92 rfl (lv_at hl 0 rfl) ?_
        refine ast (f' := fun i9 => nI ((va_up rd rr 1) i9)) hx hb hK hP hD hS 2 0 rfl rfl (j := rr) (by omega) (by omega) (upd_nat) dX10_readRank_93 (fun H locs hP hD hS => ?_)
        have hP : va_P G vwCl [(g 0, .inr (10, [.int (nI 0), .ref (g 1), .int (nI ts), .int (nI (pl + 1)), .int (nI rk), .ref (g 5), .int (nI sl), .ref (g 7), .int (nI rr), .int (nI rs), .ref (g 10), .ref (g 11), .ref (g 12), .long sd, .ref (g 14), .ref (g 15), .int (nI ac), .ref (g 17), .ref (g 18), .ref (g 19), .int (nI tc), .ref (g 21), .ref (g 22), .ref (g 23), .ref (g 24), .long td9, .ref (g 26), .ref (g 27), .ref (g 28), .ref (g 29), .ref (g 30)])), (g 1, .inl (cI, 64, .inl (fun i9 => nI (tx i9)))), (g 10, .inl (cI, 7, .inl (fun i9 => nI ((va_up rd rr 1) i9)))), (g 11, .inl (cI, 175, .inl (fun i9 => nI (rt i9))))] _ := hP
        have hD : va_D A [(g 0, .inr (10, [.int (nI 0), .ref (g 1), .int (nI ts), .int (nI (pl + 1)), .int (nI rk), .ref (g 5), .int (nI sl), .ref (g 7), .int (nI rr), .int (nI rs), .ref (g 10), .ref (g 11), .ref (g 12), .long sd, .ref (g 14), .ref (g 15), .int (nI ac), .ref (g 17), .ref (g 18), .ref (g 19), .int (nI tc), .ref (g 21), .ref (g 22), .ref (g 23), .ref (g 24), .long td9, .ref (g 26), .ref (g 27), .ref (g 28), .ref (g 29), .ref (g 30)])), (g 1, .inl (cI, 64, .inl (fun i9 => nI (tx i9)))), (g 10, .inl (cI, 7, .inl (fun i9 => nI ((va_up rd rr 1) i9)))), (g 11, .inl (cI, 175, .inl (fun i9 => nI (rt i9))))] := hD
        refine lv_aload_n hx hb dX10_readRank_94 rfl (lv_at hl 2 rfl) ?_
        refine lv_dup hx hb dX10_readRank_95 rfl ?_
        refine va_get (D := G) (ci := 10) (v := .int (nI rr)) (C := RX10) (T := TX10) (N := 31) hx hb hts hin10 hown hK.1 hP 0 rfl rfl 8 (by decide) k_4 (fun _ h9 => h9) rfl dX10_readRank_96 ?_
        refine lv_iconst (v := nI 1) hx hb dX10_readRank_99 (by decide) ?_
        refine lv_iadd hx hb dX10_readRank_100 ?_
        refine top_i (y := nI (rr + 1)) (nI_add _ _) ?_
        refine va_put (D := G) (ci := 10) (v := .int (nI (rr + 1))) (ty := tyX10 8) (C := RX10) (T := TX10) (N := 31) hx hb hts hin10 tyX10 tyX10_ok nmX10 hown hK.1 hP hD hS 0 rfl rfl 8 (by decide) k_4 (fun _ h9 => h9) rfl (by decide +kernel) rfl rfl (Nat.le_of_ble_eq_true rfl) dX10_readRank_101 (fun H locs hP hD hS => ?_)
        have hP : va_P G vwCl [(g 0, .inr (10, [.int (nI 0), .ref (g 1), .int (nI ts), .int (nI (pl + 1)), .int (nI rk), .ref (g 5), .int (nI sl), .ref (g 7), .int (nI (rr + 1)), .int (nI rs), .ref (g 10), .ref (g 11), .ref (g 12), .long sd, .ref (g 14), .ref (g 15), .int (nI ac), .ref (g 17), .ref (g 18), .ref (g 19), .int (nI tc), .ref (g 21), .ref (g 22), .ref (g 23), .ref (g 24), .long td9, .ref (g 26), .ref (g 27), .ref (g 28), .ref (g 29), .ref (g 30)])), (g 1, .inl (cI, 64, .inl (fun i9 => nI (tx i9)))), (g 10, .inl (cI, 7, .inl (fun i9 => nI ((va_up rd rr 1) i9)))), (g 11, .inl (cI, 175, .inl (fun i9 => nI (rt i9))))] _ := hP
        have hD : va_D A [(g 0, .inr (10, [.int (nI 0), .ref (g 1), .int (nI ts), .int (nI (pl + 1)), .int (nI rk), .ref (g 5), .int (nI sl), .ref (g 7), .int (nI (rr + 1)), .int (nI rs), .ref (g 10), .ref (g 11), .ref (g 12), .long sd, .ref (g 14), .ref (g 15), .int (nI ac), .ref (g 17), .ref (g 18), .ref (g 19), .int (nI tc), .ref (g 21), .ref (g 22), .ref (g 23), .ref (g 24), .long td9, .ref (g 26), .ref (g 27), .ref (g 28), .ref (g 29), .ref (g 30)])), (g 1, .inl (cI, 64, .inl (fun i9 => nI (tx i9)))), (g 10, .inl (cI, 7, .inl (fun i9 => nI ((va_up rd rr 1) i9)))), (g 11, .inl (cI, 175, .inl (fun i9 => nI (rt i9))))] := hD
        refine lv_iconst (v := nI 1) hx hb dX10_readRank_104 (by decide) ?_
        exact endZ hx hb hr hlocks (rfl) ((pl + 1, rr + 1, rs, va_up rd rr 1, rt)) (PaP_rank hrun (by omega) c_36 (by decide)) (hP.sub [0, 1, 2, 3] rfl) (hD.sub [0, 1, 2, 3] (by decide) rfl) hS dX10_readRank_105
    · skip
      have c_26 := n_neF c_26 (by omega) (by omega)
      refine lv_iconst (v := nI 0) hx hb dX10_readRank_29 (by decide) ?_
      refine lv_goto (tgt := 65) hx hb dX10_readRank_30 (by decide) ?_
      refine lv_istore_n (lv' := [(2, .int (nI 0)), (1, .int (nI (tx pl))), (0, .ref (g 0))]) hx hb dX10_readRank_65 rfl hl (by decide) rfl (fun ls hl => ?_)
      refine lv_iload_n hx hb dX10_readRank_66 rfl (lv_at hl 0 rfl) ?_
      refine lv_bipush (v := (-9)) hx hb dX10_readRank_67 (by decide) ?_
      refine lv_icmp_ne (tgt := 74) hx hb dX10_readRank_69 (by decide) (fun c_69 => ?_) (fun c_69 => absurd c_69 (nI_ne9 (by decide)))
      refine lv_aload_n hx hb dX10_readRank_74 rfl (lv_at hl 2 rfl) ?_
      refine lv_dup hx hb dX10_readRank_75 rfl ?_
      refine va_get (D := G) (ci := 10) (v := .int (nI pl)) (C := RX10) (T := TX10) (N := 31) hx hb hts hin10 hown hK.1 hP 0 rfl rfl 3 (by decide) k_0 (fun _ h9 => h9) rfl dX10_readRank_76 ?_
      refine lv_iconst (v := nI 1) hx hb dX10_readRank_79 (by decide) ?_
      refine lv_iadd hx hb dX10_readRank_80 ?_
      refine top_i (y := nI (pl + 1)) (nI_add _ _) ?_
      refine va_put (D := G) (ci := 10) (v := .int (nI (pl + 1))) (ty := tyX10 3) (C := RX10) (T := TX10) (N := 31) hx hb hts hin10 tyX10 tyX10_ok nmX10 hown hK.1 hP hD hS 0 rfl rfl 3 (by decide) k_0 (fun _ h9 => h9) rfl (by decide +kernel) rfl rfl (Nat.le_of_ble_eq_true rfl) dX10_readRank_81 (fun H locs hP hD hS => ?_)
      have hP : va_P G vwCl [(g 0, .inr (10, [.int (nI 0), .ref (g 1), .int (nI ts), .int (nI (pl + 1)), .int (nI rk), .ref (g 5), .int (nI sl), .ref (g 7), .int (nI rr), .int (nI rs), .ref (g 10), .ref (g 11), .ref (g 12), .long sd, .ref (g 14), .ref (g 15), .int (nI ac), .ref (g 17), .ref (g 18), .ref (g 19), .int (nI tc), .ref (g 21), .ref (g 22), .ref (g 23), .ref (g 24), .long td9, .ref (g 26), .ref (g 27), .ref (g 28), .ref (g 29), .ref (g 30)])), (g 1, .inl (cI, 64, .inl (fun i9 => nI (tx i9)))), (g 10, .inl (cI, 7, .inl (fun i9 => nI (rd i9)))), (g 11, .inl (cI, 175, .inl (fun i9 => nI (rt i9))))] _ := hP
      have hD : va_D A [(g 0, .inr (10, [.int (nI 0), .ref (g 1), .int (nI ts), .int (nI (pl + 1)), .int (nI rk), .ref (g 5), .int (nI sl), .ref (g 7), .int (nI rr), .int (nI rs), .ref (g 10), .ref (g 11), .ref (g 12), .long sd, .ref (g 14), .ref (g 15), .int (nI ac), .ref (g 17), .ref (g 18), .ref (g 19), .int (nI tc), .ref (g 21), .ref (g 22), .ref (g 23), .ref (g 24), .long td9, .ref (g 26), .ref (g 27), .ref (g 28), .ref (g 29), .ref (g 30)])), (g 1, .inl (cI, 64, .inl (fun i9 => nI (tx i9)))), (g 10, .inl (cI, 7, .inl (fun i9 => nI (rd i9)))), (g 11, .inl (cI, 175, .inl (fun i9 => nI (rt i9))))] := hD
      refine lv_aload_n hx hb dX10_readRank_84 rfl (lv_at hl 2 rfl) ?_
      refine va_get (D := G) (ci := 10) (v := .ref (g 10)) (C := RX10) (T := TX10) (N := 31) hx hb hts hin10 hown hK.1 hP 0 rfl rfl 10 (by decide) k_3 (fun _ h9 => h9) rfl dX10_readRank_85 ?_
      refine lv_aload_n hx hb dX10_readRank_88 rfl (lv_at hl 2 rfl) ?_
      refine va_get (D := G) (ci := 10) (v := .int (nI rr)) (C := RX10) (T := TX10) (N := 31) hx hb hts hin10 hown hK.1 hP 0 rfl rfl 8 (by decide) k_4 (fun _ h9 => h9) rfl dX10_readRank_89 ?_
      refine lv_iload_n hx hb dX10_readRank_92 rfl (lv_at hl 0 rfl) ?_
      refine ast (f' := fun i9 => nI ((va_up rd rr 0) i9)) hx hb hK hP hD hS 2 0 rfl rfl (j := rr) (by omega) (by omega) (upd_nat) dX10_readRank_93 (fun H locs hP hD hS => ?_)
      have hP : va_P G vwCl [(g 0, .inr (10, [.int (nI 0), .ref (g 1), .int (nI ts), .int (nI (pl + 1)), .int (nI rk), .ref (g 5), .int (nI sl), .ref (g 7), .int (nI rr), .int (nI rs), .ref (g 10), .ref (g 11), .ref (g 12), .long sd, .ref (g 14), .ref (g 15), .int (nI ac), .ref (g 17), .ref (g 18), .ref (g 19), .int (nI tc), .ref (g 21), .ref (g 22), .ref (g 23), .ref (g 24), .long td9, .ref (g 26), .ref (g 27), .ref (g 28), .ref (g 29), .ref (g 30)])), (g 1, .inl (cI, 64, .inl (fun i9 => nI (tx i9)))), (g 10, .inl (cI, 7, .inl (fun i9 => nI ((va_up rd rr 0) i9)))), (g 11, .inl (cI, 175, .inl (fun i9 => nI (rt i9))))] _ := hP
      have hD : va_D A [(g 0, .inr (10, [.int (nI 0), .ref (g 1), .int (nI ts), .int (nI (pl + 1)), .int (nI rk), .ref (g 5), .int (nI sl), .ref (g 7), .int (nI rr), .int (nI rs), .ref (g 10), .ref (g 11), .ref (g 12), .long sd, .ref (g 14), .ref (g 15), .int (nI ac), .ref (g 17), .ref (g 18), .ref (g 19), .int (nI tc), .ref (g 21), .ref (g 22), .ref (g 23), .ref (g 24), .long td9, .ref (g 26), .ref (g 27), .ref (g 28), .ref (g 29), .ref (g 30)])), (g 1, .inl (cI, 64, .inl (fun i9 => nI (tx i9)))), (g 10, .inl (cI, 7, .inl (fun i9 => nI ((va_up rd rr 0) i9)))), (g 11, .inl (cI, 175, .inl (fun i9 => nI (rt i9))))] := hD
      refine lv_aload_n hx hb dX10_readRank_94 rfl (lv_at hl 2 rfl) ?_
      refine lv_dup hx hb dX10_readRank_95 rfl ?_
      refine va_get (D := G) (ci := 10) (v := .int (nI rr)) (C := RX10) (T := TX10) (N := 31) hx hb hts hin10 hown hK.1 hP 0 rfl rfl 8 (by decide) k_4 (fun _ h9 => h9) rfl dX10_readRank_96 ?_
      refine lv_iconst (v := nI 1) hx hb dX10_readRank_99 (by decide) ?_
      refine lv_iadd hx hb dX10_readRank_100 ?_
      refine top_i (y := nI (rr + 1)) (nI_add _ _) ?_
      refine va_put (D := G) (ci := 10) (v := .int (nI (rr + 1))) (ty := tyX10 8) (C := RX10) (T := TX10) (N := 31) hx hb hts hin10 tyX10 tyX10_ok nmX10 hown hK.1 hP hD hS 0 rfl rfl 8 (by decide) k_4 (fun _ h9 => h9) rfl (by decide +kernel) rfl rfl (Nat.le_of_ble_eq_true rfl) dX10_readRank_101 (fun H locs hP hD hS => ?_)
      have hP : va_P G vwCl [(g 0, .inr (10, [.int (nI 0), .ref (g 1), .int (nI ts), .int (nI (pl + 1)), .int (nI rk), .ref (g 5), .int (nI sl), .ref (g 7), .int (nI (rr + 1)), .int (nI rs), .ref (g 10), .ref (g 11), .ref (g 12), .long sd, .ref (g 14), .ref (g 15), .int (nI ac), .ref (g 17), .ref (g 18), .ref (g 19), .int (nI tc), .ref (g 21), .ref (g 22), .ref (g 23), .ref (g 24), .long td9, .ref (g 26), .ref (g 27), .ref (g 28), .ref (g 29), .ref (g 30)])), (g 1, .inl (cI, 64, .inl (fun i9 => nI (tx i9)))), (g 10, .inl (cI, 7, .inl (fun i9 => nI ((va_up rd rr 0) i9)))), (g 11, .inl (cI, 175, .inl (fun i9 => nI (rt i9))))] _ := hP
      have hD : va_D A [(g 0, .inr (10, [.int (nI 0), .ref (g 1), .int (nI ts), .int (nI (pl + 1)), .int (nI rk), .ref (g 5), .int (nI sl), .ref (g 7), .int (nI (rr + 1)), .int (nI rs), .ref (g 10), .ref (g 11), .ref (g 12), .long sd, .ref (g 14), .ref (g 15), .int (nI ac), .ref (g 17), .ref (g 18), .ref (g 19), .int (nI tc), .ref (g 21), .ref (g 22), .ref (g 23), .ref (g 24), .long td9, .ref (g 26), .ref (g 27), .ref (g 28), .ref (g 29), .ref (g 30)])), (g 1, .inl (cI, 64, .inl (fun i9 => nI (tx i9)))), (g 10, .inl (cI, 7, .inl (fun i9 => nI ((va_up rd rr 0) i9)))), (g 11, .inl (cI, 175, .inl (fun i9 => nI (rt i9))))] := hD
      refine lv_iconst (v := nI 1) hx hb dX10_readRank_104 (by decide) ?_
      exact endZ hx hb hr hlocks (rfl) ((pl + 1, rr + 1, rs, va_up rd rr 0, rt)) (PaP_rank hrun (by omega) c_26 (by decide)) (hP.sub [0, 1, 2, 3] rfl) (hD.sub [0, 1, 2, 3] (by decide) rfl) hS dX10_readRank_105
  · skip
    have c_8 := n_neF c_8 (by omega) (by omega)
    refine lv_iconst (v := nI 0) hx hb dX10_readRank_11 (by decide) ?_
    exact endZ hx hb hr hlocks (rfl) ((pl, rr, rs, rd, rt)) (PaP_end hrun c_8 (by decide)) (hP.sub [0, 1, 2, 3] rfl) (hD.sub [0, 1, 2, 3] (by decide) rfl) hS dX10_readRank_12
