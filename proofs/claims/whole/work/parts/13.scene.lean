/-! class Scene -/
def up2 (v : Nat → Nat → Int32) (f k : Nat) (x : Int32) : Nat → Nat → Int32 := fun g => if g = f then upd (v f) k x else v g
theorem up2_at {v : Nat → Nat → Int32} {f k g j : Nat} {x : Int32} : up2 v f k x g j = if g = f ∧ j = k then x else v g j := by
  unfold up2
  by_cases h : g = f
  · subst h
    by_cases q : j = k <;> simp [upd, q]
  · simp [h]
theorem up2_same {v : Nat → Nat → Int32} {f k : Nat} {x : Int32} (h : v f k = x) : up2 v f k x = v := by
  funext g j
  rw [up2_at]
  by_cases q : g = f ∧ j = k
  · rw [if_pos q, q.1, q.2, h]
  · rw [if_neg q]
theorem up2_1 {v : Nat → Nat → Int32} {k : Nat} {y : Int32} : up2 (up2 v 1 k (v 0 k)) 0 k y 1 k = v 0 k := by
  simp [up2_at]
def takeV (kk : Nat) (v : Nat → Nat → Int32) (k o : Nat) : Nat → Nat → Int32 := up2 (up2 (up2 v 1 k (v 0 k)) 0 k (nI o)) 2 k (if kk = 1 ∧ ¬ v 0 k = nI o then v 2 k else nI o)
theorem takeV_n {kk k o : Nat} {v : Nat → Nat → Int32} (h : ¬ (kk = 1 ∧ ¬ v 0 k = nI o)) : up2 (up2 (up2 v 1 k (v 0 k)) 0 k (nI o)) 2 k (nI o) = takeV kk v k o := by
  rw [takeV, if_neg h]
theorem takeV_y {kk k o : Nat} {v : Nat → Nat → Int32} (h : kk = 1) (h2 : ¬ v 0 k = nI o) : up2 (up2 v 1 k (v 0 k)) 0 k (nI o) = takeV kk v k o := by
  rw [takeV, if_pos ⟨h, h2⟩, up2_same (f := 2) (k := k) (x := v 2 k) (by simp [up2_at])]
def tellV (kk : Nat) (v : Nat → Nat → Int32) (k o : Nat) : Nat → Nat → Int32 := if v 6 k = 0 then takeV kk v k (turnN kk o) else up2 v 6 k (nI 0)
def tellR (kk : Nat) (v : Nat → Nat → Int32) (k o : Nat) : Int32 := if v 6 k = 0 then nI (turnN kk o) else -9
def giveV (kk : Nat) (v : Nat → Nat → Int32) (o : Nat) : Nat → Nat → Int32 := up2 (tellV kk v 0 o) 5 0 (tellR kk v 0 o)
def nxS (se : Int64) : Int64 := se * 6364136223846793005 + 1442695040888963407
def drN (se : Int64) : Nat := se.toBitVec.toNat / 8589934592 % 10
theorem drN_lt (se : Int64) : drN se < 10 := Nat.mod_lt _ (by decide)
theorem drX (se : Int64) : (((se).toUInt64 >>> ((nI 33).toInt64.toUInt64 &&& Int64.toUInt64 63)).toInt64) - (((se).toUInt64 >>> ((nI 33).toInt64.toUInt64 &&& Int64.toUInt64 63)).toInt64) / (10 : Int64) * (10 : Int64) = lN (drN se) := by
  obtain ⟨n, hn, rfl⟩ := wb_of se
  rw [wb_shr hn (by decide)]
  have h : n / 2 ^ 33 < 2 ^ 63 := Nat.lt_of_le_of_lt (Nat.div_le_div_right (c := 2 ^ 33) (show n ≤ 2 ^ 64 by omega)) (by decide)
  rw [show (10 : Int64) = lN 10 from rfl, pk_lRem h (by decide) (by decide)]
  unfold drN
  rw [wb_tn hn]
def pickN (t : Nat → Nat) (d u : Nat) : Nat := if d < sumN t 1 then 0 else if d < sumN t 2 then 1 else if d < sumN t 3 then 2 else if d < sumN t 4 then 3 else if d < sumN t 5 then 4 else u
theorem pickN_hit {t : Nat → Nat} {d u w : Nat} (hw : w < 5) (h : ∀ z, z < w → sumN t (z + 1) ≤ d) (hd : d < sumN t (w + 1)) : pickN t d u = w := by
  unfold pickN
  rcases (show w = 0 ∨ w = 1 ∨ w = 2 ∨ w = 3 ∨ w = 4 by omega) with rfl | rfl | rfl | rfl | rfl
  · rw [if_pos hd]
  · rw [if_neg (Nat.not_lt.mpr (h 0 (by omega))), if_pos hd]
  · rw [if_neg (Nat.not_lt.mpr (h 0 (by omega))), if_neg (Nat.not_lt.mpr (h 1 (by omega))), if_pos hd]
  · rw [if_neg (Nat.not_lt.mpr (h 0 (by omega))), if_neg (Nat.not_lt.mpr (h 1 (by omega))), if_neg (Nat.not_lt.mpr (h 2 (by omega))), if_pos hd]
  · rw [if_neg (Nat.not_lt.mpr (h 0 (by omega))), if_neg (Nat.not_lt.mpr (h 1 (by omega))), if_neg (Nat.not_lt.mpr (h 2 (by omega))), if_neg (Nat.not_lt.mpr (h 3 (by omega))), if_pos hd]
theorem pickN_miss {t : Nat → Nat} {d u : Nat} (h : ∀ z, z < 5 → sumN t (z + 1) ≤ d) : pickN t d u = u := by
  unfold pickN
  rw [if_neg (Nat.not_lt.mpr (h 0 (by omega))), if_neg (Nat.not_lt.mpr (h 1 (by omega))), if_neg (Nat.not_lt.mpr (h 2 (by omega))), if_neg (Nat.not_lt.mpr (h 3 (by omega))), if_neg (Nat.not_lt.mpr (h 4 (by omega)))]
theorem sumN_mono (t : Nat → Nat) {a : Nat} : ∀ b, sumN t a ≤ sumN t (a + b)
  | 0 => Nat.le_refl _
  | b + 1 => Nat.le_trans (sumN_mono t b) (Nat.le_add_right _ _)
theorem sumN_le5 (t : Nat → Nat) {n : Nat} (h : n ≤ 5) : sumN t n ≤ sumN t 5 := by
  have := sumN_mono t (a := n) (5 - n)
  rwa [show n + (5 - n) = 5 by omega] at this
def wayO (tn : Nat → Nat) (k u : Nat) (se : Int64) : Nat := if sumN (slT tn k u) 5 = 0 then u else pickN (slT tn k u) (drN (nxS se)) u
def wayS (tn : Nat → Nat) (k u : Nat) (se : Int64) : Int64 := if sumN (slT tn k u) 5 = 0 then se else nxS se
def walkV (v : Nat → Nat → Int32) (k : Nat) : Nat → Nat → Int32 := if v 2 k = nI 1 then up2 v 4 k (v 4 k + nI 1) else if v 2 k = nI 2 then up2 v 3 k (v 3 k - nI 1) else if v 2 k = nI 3 then up2 v 3 k (v 3 k + nI 1) else v
theorem walkV_1 {v : Nat → Nat → Int32} {k : Nat} (h1 : v 2 k = nI 1) : up2 v 4 k (v 4 k + nI 1) = walkV v k := by rw [walkV, if_pos h1]
theorem walkV_2 {v : Nat → Nat → Int32} {k : Nat} (h1 : ¬ v 2 k = nI 1) (h2 : v 2 k = nI 2) : up2 v 3 k (v 3 k - nI 1) = walkV v k := by rw [walkV, if_neg h1, if_pos h2]
theorem walkV_3 {v : Nat → Nat → Int32} {k : Nat} (h1 : ¬ v 2 k = nI 1) (h2 : ¬ v 2 k = nI 2) (h3 : v 2 k = nI 3) : up2 v 3 k (v 3 k + nI 1) = walkV v k := by rw [walkV, if_neg h1, if_neg h2, if_pos h3]
theorem walkV_0 {v : Nat → Nat → Int32} {k : Nat} (h1 : ¬ v 2 k = nI 1) (h2 : ¬ v 2 k = nI 2) (h3 : ¬ v 2 k = nI 3) : v = walkV v k := by rw [walkV, if_neg h1, if_neg h2, if_neg h3]
def slpI (v : Nat → Nat → Int32) : Nat → Int32
  | 0 => nI 0
  | k + 1 => slpI v k ||| (if v 6 k = 0 then nI 0 else nI 1 <<< (nI k &&& 31))
theorem slpI_y {v : Nat → Nat → Int32} {k : Nat} (h : v 6 k = 0) : slpI v (k + 1) = slpI v k ||| nI 0 := by rw [slpI, if_pos h]
theorem slpI_n {v : Nat → Nat → Int32} {k : Nat} (h : ¬ v 6 k = 0) : slpI v (k + 1) = slpI v k ||| nI 1 <<< (nI k &&& 31) := by rw [slpI, if_neg h]
def hrsI (v : Nat → Nat → Int32) : Nat → Int32
  | 0 => nI 0
  | k + 1 => hrsI v k ||| (if v 5 k = -9 then nI 0 else nI 1 <<< (nI k &&& 31))
theorem hrsI_y {v : Nat → Nat → Int32} {k : Nat} (h : v 5 k = -9) : hrsI v (k + 1) = hrsI v k ||| nI 0 := by rw [hrsI, if_pos h]
theorem hrsI_n {v : Nat → Nat → Int32} {k : Nat} (h : ¬ v 5 k = -9) : hrsI v (k + 1) = hrsI v k ||| nI 1 <<< (nI k &&& 31) := by rw [hrsI, if_neg h]
set_option maxHeartbeats 4000000 in
set_option maxRecDepth 100000 in
theorem c_X5_eastAndThousand {l : Launch} {G : va_G} {cI cJ cZ cS : ClassId} (g : Nat → Nat) (v : Nat → Nat → Int32) (mi : Int32) (se : Int64) (k : Nat) (hk : k < 7) : CI l G (kT cI cJ cZ cS) (S := Unit) yX5_eastAndThousand wsX5_eastAndThousand { frames := 0, cells := 0, slots := 0, locals := 0 } [.ref (g 0), .int (nI k)] [(g 0, .inr (5, [.ref (g 1), .ref (g 2), .ref (g 3), .ref (g 4), .ref (g 5), .ref (g 6), .ref (g 7), .int mi, .long se])), (g 1, .inl (cI, 7, .inl (v 0))), (g 2, .inl (cI, 7, .inl (v 1))), (g 3, .inl (cI, 7, .inl (v 5))), (g 4, .inl (cI, 7, .inl (v 2))), (g 5, .inl (cI, 7, .inl (v 3))), (g 6, .inl (cI, 7, .inl (v 4))), (g 7, .inl (cZ, 7, .inl (v 6)))] (fun res _ => res = nI 1000 + v 3 k) (fun _ => [(g 0, .inr (5, [.ref (g 1), .ref (g 2), .ref (g 3), .ref (g 4), .ref (g 5), .ref (g 6), .ref (g 7), .int mi, .long se])), (g 1, .inl (cI, 7, .inl (v 0))), (g 2, .inl (cI, 7, .inl (v 1))), (g 3, .inl (cI, 7, .inl (v 5))), (g 4, .inl (cI, 7, .inl (v 2))), (g 5, .inl (cI, 7, .inl (v 3))), (g 6, .inl (cI, 7, .inl (v 4))), (g 7, .inl (cZ, 7, .inl (v 6)))]) := by
  refine CI.of (cc := cX5_eastAndThousand) (maxL := 2) (by decide) rfl (Nat.le_of_ble_eq_true rfl) ?_
  intro p e s m below meth c A ls hB
  obtain ⟨hx, hb, hml, hr, hts, hown, hlocks, hmn, hK, hP, hD, hS, hA, hl⟩ := hB
  have hP : va_P G vwCl [(g 0, .inr (5, [.ref (g 1), .ref (g 2), .ref (g 3), .ref (g 4), .ref (g 5), .ref (g 6), .ref (g 7), .int mi, .long se])), (g 1, .inl (cI, 7, .inl (v 0))), (g 2, .inl (cI, 7, .inl (v 1))), (g 3, .inl (cI, 7, .inl (v 5))), (g 4, .inl (cI, 7, .inl (v 2))), (g 5, .inl (cI, 7, .inl (v 3))), (g 6, .inl (cI, 7, .inl (v 4))), (g 7, .inl (cZ, 7, .inl (v 6)))] s.heap := hP
  have hD : va_D A [(g 0, .inr (5, [.ref (g 1), .ref (g 2), .ref (g 3), .ref (g 4), .ref (g 5), .ref (g 6), .ref (g 7), .int mi, .long se])), (g 1, .inl (cI, 7, .inl (v 0))), (g 2, .inl (cI, 7, .inl (v 1))), (g 3, .inl (cI, 7, .inl (v 5))), (g 4, .inl (cI, 7, .inl (v 2))), (g 5, .inl (cI, 7, .inl (v 3))), (g 6, .inl (cI, 7, .inl (v 4))), (g 7, .inl (cZ, 7, .inl (v 6)))] := hD
  have hl : lv_has ls 2 [(0, .ref (g 0)), (1, .int (nI k))] := hl
  have k_0 := hts (.fieldLink RX5 24 "HearsayMarch$Scene" "east" "[I") (by decide +kernel)
  have hin5 : ∀ w ∈ wsX50, w ∈ wsX5_eastAndThousand := by decide +kernel
  refine lv_sipush (v := nI 1000) hx hb dX5_eastAndThousand_0 (by decide) ?_
  refine lv_aload_n hx hb dX5_eastAndThousand_3 rfl (lv_at hl 0 rfl) ?_
  refine va_get (D := G) (ci := 5) (v := .ref (g 5)) (C := RX5) (T := TX5) (N := 9) hx hb hts hin5 hown hK.1 hP 0 rfl rfl 4 (by decide) k_0 (fun _ h9 => h9) rfl dX5_eastAndThousand_4 ?_
  refine lv_iload_n hx hb dX5_eastAndThousand_7 rfl (lv_at hl 1 rfl) ?_
  refine ald hx hb hK hP 5 0 rfl rfl (j := k) (by omega) (by omega) dX5_eastAndThousand_8 ?_
  refine lv_iadd hx hb dX5_eastAndThousand_9 ?_
  exact endI hx hb hr hlocks (()) (rfl) (hP.sub [0, 1, 2, 3, 4, 5, 6, 7] rfl) (hD.sub [0, 1, 2, 3, 4, 5, 6, 7] (by decide) rfl) hS dX5_eastAndThousand_10

set_option maxHeartbeats 4000000 in
set_option maxRecDepth 100000 in
theorem c_X5_draw {l : Launch} {G : va_G} {cI cJ cZ cS : ClassId} (g : Nat → Nat) (v : Nat → Nat → Int32) (mi : Int32) (se : Int64) : CI l G (kT cI cJ cZ cS) (S := Unit) yX5_draw wsX5_draw { frames := 0, cells := 0, slots := 0, locals := 0 } [.ref (g 0)] [(g 0, .inr (5, [.ref (g 1), .ref (g 2), .ref (g 3), .ref (g 4), .ref (g 5), .ref (g 6), .ref (g 7), .int mi, .long se])), (g 1, .inl (cI, 7, .inl (v 0))), (g 2, .inl (cI, 7, .inl (v 1))), (g 3, .inl (cI, 7, .inl (v 5))), (g 4, .inl (cI, 7, .inl (v 2))), (g 5, .inl (cI, 7, .inl (v 3))), (g 6, .inl (cI, 7, .inl (v 4))), (g 7, .inl (cZ, 7, .inl (v 6)))] (fun res _ => res = nI (drN (nxS se))) (fun _ => [(g 0, .inr (5, [.ref (g 1), .ref (g 2), .ref (g 3), .ref (g 4), .ref (g 5), .ref (g 6), .ref (g 7), .int mi, .long (nxS se)])), (g 1, .inl (cI, 7, .inl (v 0))), (g 2, .inl (cI, 7, .inl (v 1))), (g 3, .inl (cI, 7, .inl (v 5))), (g 4, .inl (cI, 7, .inl (v 2))), (g 5, .inl (cI, 7, .inl (v 3))), (g 6, .inl (cI, 7, .inl (v 4))), (g 7, .inl (cZ, 7, .inl (v 6)))]) := by
  refine CI.of (cc := cX5_draw) (maxL := 1) (by decide) rfl (Nat.le_of_ble_eq_true rfl) ?_
  intro p e s m below meth c A ls hB
  obtain ⟨hx, hb, hml, hr, hts, hown, hlocks, hmn, hK, hP, hD, hS, hA, hl⟩ := hB
  have hP : va_P G vwCl [(g 0, .inr (5, [.ref (g 1), .ref (g 2), .ref (g 3), .ref (g 4), .ref (g 5), .ref (g 6), .ref (g 7), .int mi, .long se])), (g 1, .inl (cI, 7, .inl (v 0))), (g 2, .inl (cI, 7, .inl (v 1))), (g 3, .inl (cI, 7, .inl (v 5))), (g 4, .inl (cI, 7, .inl (v 2))), (g 5, .inl (cI, 7, .inl (v 3))), (g 6, .inl (cI, 7, .inl (v 4))), (g 7, .inl (cZ, 7, .inl (v 6)))] s.heap := hP
  have hD : va_D A [(g 0, .inr (5, [.ref (g 1), .ref (g 2), .ref (g 3), .ref (g 4), .ref (g 5), .ref (g 6), .ref (g 7), .int mi, .long se])), (g 1, .inl (cI, 7, .inl (v 0))), (g 2, .inl (cI, 7, .inl (v 1))), (g 3, .inl (cI, 7, .inl (v 5))), (g 4, .inl (cI, 7, .inl (v 2))), (g 5, .inl (cI, 7, .inl (v 3))), (g 6, .inl (cI, 7, .inl (v 4))), (g 7, .inl (cZ, 7, .inl (v 6)))] := hD
  have hl : lv_has ls 1 [(0, .ref (g 0))] := hl
  have k_0 := hts (.fieldLink RX5 38 "HearsayMarch$Scene" "seed" "J") (by decide +kernel)
  have k_1 := hts (.constantLong RX5 84 (6364136223846793005)) (by decide +kernel)
  have k_2 := hts (.constantLong RX5 86 (1442695040888963407)) (by decide +kernel)
  have k_3 := hts (.constantLong RX5 88 (10)) (by decide +kernel)
  have hin5 : ∀ w ∈ wsX50, w ∈ wsX5_draw := by decide +kernel
  refine lv_aload_n hx hb dX5_draw_0 rfl (lv_at hl 0 rfl) ?_
  refine lv_aload_n hx hb dX5_draw_1 rfl (lv_at hl 0 rfl) ?_
  refine va_get (D := G) (ci := 5) (v := .long se) (C := RX5) (T := TX5) (N := 9) hx hb hts hin5 hown hK.1 hP 0 rfl rfl 8 (by decide) k_0 (fun _ h9 => h9) rfl dX5_draw_2 ?_
  refine lv_ldc2 (v := (6364136223846793005 : Int64)) hx hb hown k_1 dX5_draw_5 ?_
  refine lv_lmul hx hb dX5_draw_8 ?_
  refine lv_ldc2 (v := (1442695040888963407 : Int64)) hx hb hown k_2 dX5_draw_9 ?_
  refine lv_ladd hx hb dX5_draw_12 ?_
  refine lv_topl (fun s1 es1 => ?_)
  have es1 : s1 = nxS se := es1
  refine va_put (D := G) (ci := 5) (v := .long s1) (ty := tyX5 8) (C := RX5) (T := TX5) (N := 9) hx hb hts hin5 tyX5 tyX5_ok nmX5 hown hK.1 hP hD hS 0 rfl rfl 8 (by decide) k_0 (fun _ h9 => h9) rfl (by decide +kernel) rfl rfl (Nat.le_of_ble_eq_true rfl) dX5_draw_13 (fun H locs hP hD hS => ?_)
  have hP : va_P G vwCl [(g 0, .inr (5, [.ref (g 1), .ref (g 2), .ref (g 3), .ref (g 4), .ref (g 5), .ref (g 6), .ref (g 7), .int mi, .long s1])), (g 1, .inl (cI, 7, .inl (v 0))), (g 2, .inl (cI, 7, .inl (v 1))), (g 3, .inl (cI, 7, .inl (v 5))), (g 4, .inl (cI, 7, .inl (v 2))), (g 5, .inl (cI, 7, .inl (v 3))), (g 6, .inl (cI, 7, .inl (v 4))), (g 7, .inl (cZ, 7, .inl (v 6)))] _ := hP
  have hD : va_D A [(g 0, .inr (5, [.ref (g 1), .ref (g 2), .ref (g 3), .ref (g 4), .ref (g 5), .ref (g 6), .ref (g 7), .int mi, .long s1])), (g 1, .inl (cI, 7, .inl (v 0))), (g 2, .inl (cI, 7, .inl (v 1))), (g 3, .inl (cI, 7, .inl (v 5))), (g 4, .inl (cI, 7, .inl (v 2))), (g 5, .inl (cI, 7, .inl (v 3))), (g 6, .inl (cI, 7, .inl (v 4))), (g 7, .inl (cZ, 7, .inl (v 6)))] := hD
  refine lv_aload_n hx hb dX5_draw_16 rfl (lv_at hl 0 rfl) ?_
  refine va_get (D := G) (ci := 5) (v := .long s1) (C := RX5) (T := TX5) (N := 9) hx hb hts hin5 hown hK.1 hP 0 rfl rfl 8 (by decide) k_0 (fun _ h9 => h9) rfl dX5_draw_17 ?_
  refine lv_bipush (v := nI 33) hx hb dX5_draw_20 (by decide) ?_
  refine lv_lushr (v := ((s1).toUInt64 >>> ((nI 33).toInt64.toUInt64 &&& Int64.toUInt64 63)).toInt64) hx hb dX5_draw_22 rfl ?_
  refine lv_ldc2 (v := (10 : Int64)) hx hb hown k_3 dX5_draw_23 ?_
  refine lv_lrem hx hb dX5_draw_26 (by decide) ?_
  refine top_l (y := lN (drN s1)) (drX s1) ?_
  refine lv_l2i (v := nI (drN s1)) hx hb dX5_draw_27 (lN_i _) ?_
  subst es1
  exact endI hx hb hr hlocks (()) (rfl) (hP.sub [0, 1, 2, 3, 4, 5, 6, 7] rfl) (hD.sub [0, 1, 2, 3, 4, 5, 6, 7] (by decide) rfl) hS dX5_draw_28

set_option maxHeartbeats 4000000 in
set_option maxRecDepth 100000 in
theorem c_X5_take {l : Launch} {G : va_G} {cI cJ cZ cS : ClassId} (g : Nat → Nat) (v : Nat → Nat → Int32) (mi : Int32) (se : Int64) (h : Nat → Nat) (kd : Nat → Nat) (tn : Nat → Nat) (rk : Nat) (sl : Nat) (k : Nat) (o : Nat) (hk : k < 7) (hkd : kd k < 4) : CV l G (kT cI cJ cZ cS) (S := Unit) yX5_take wsX5_take { frames := 0, cells := 0, slots := 0, locals := 0 } [.ref (g 0), .ref (h 0), .int (nI k), .int (nI o)] [(g 0, .inr (5, [.ref (g 1), .ref (g 2), .ref (g 3), .ref (g 4), .ref (g 5), .ref (g 6), .ref (g 7), .int mi, .long se])), (g 1, .inl (cI, 7, .inl (v 0))), (g 2, .inl (cI, 7, .inl (v 1))), (g 3, .inl (cI, 7, .inl (v 5))), (g 4, .inl (cI, 7, .inl (v 2))), (g 5, .inl (cI, 7, .inl (v 3))), (g 6, .inl (cI, 7, .inl (v 4))), (g 7, .inl (cZ, 7, .inl (v 6))), (h 0, .inr (1, [.ref (h 1), .ref (h 2), .int (nI rk), .int (nI sl)])), (h 1, .inl (cI, 7, .inl (fun i9 => nI (kd i9)))), (h 2, .inl (cI, 175, .inl (fun i9 => nI (tn i9))))] (fun _ => True) (fun _ => [(g 0, .inr (5, [.ref (g 1), .ref (g 2), .ref (g 3), .ref (g 4), .ref (g 5), .ref (g 6), .ref (g 7), .int mi, .long se])), (g 1, .inl (cI, 7, .inl ((takeV (kd k) v k o) 0))), (g 2, .inl (cI, 7, .inl ((takeV (kd k) v k o) 1))), (g 3, .inl (cI, 7, .inl ((takeV (kd k) v k o) 5))), (g 4, .inl (cI, 7, .inl ((takeV (kd k) v k o) 2))), (g 5, .inl (cI, 7, .inl ((takeV (kd k) v k o) 3))), (g 6, .inl (cI, 7, .inl ((takeV (kd k) v k o) 4))), (g 7, .inl (cZ, 7, .inl ((takeV (kd k) v k o) 6))), (h 0, .inr (1, [.ref (h 1), .ref (h 2), .int (nI rk), .int (nI sl)])), (h 1, .inl (cI, 7, .inl (fun i9 => nI (kd i9)))), (h 2, .inl (cI, 175, .inl (fun i9 => nI (tn i9))))]) := by
  refine CV.of (cc := cX5_take) (maxL := 4) (by decide) rfl (Nat.le_of_ble_eq_true rfl) ?_
  intro p e s m below meth c A ls hB
  obtain ⟨hx, hb, hml, hr, hts, hown, hlocks, hmn, hK, hP, hD, hS, hA, hl⟩ := hB
  have hP : va_P G vwCl [(g 0, .inr (5, [.ref (g 1), .ref (g 2), .ref (g 3), .ref (g 4), .ref (g 5), .ref (g 6), .ref (g 7), .int mi, .long se])), (g 1, .inl (cI, 7, .inl (v 0))), (g 2, .inl (cI, 7, .inl (v 1))), (g 3, .inl (cI, 7, .inl (v 5))), (g 4, .inl (cI, 7, .inl (v 2))), (g 5, .inl (cI, 7, .inl (v 3))), (g 6, .inl (cI, 7, .inl (v 4))), (g 7, .inl (cZ, 7, .inl (v 6))), (h 0, .inr (1, [.ref (h 1), .ref (h 2), .int (nI rk), .int (nI sl)])), (h 1, .inl (cI, 7, .inl (fun i9 => nI (kd i9)))), (h 2, .inl (cI, 175, .inl (fun i9 => nI (tn i9))))] s.heap := hP
  have hD : va_D A [(g 0, .inr (5, [.ref (g 1), .ref (g 2), .ref (g 3), .ref (g 4), .ref (g 5), .ref (g 6), .ref (g 7), .int mi, .long se])), (g 1, .inl (cI, 7, .inl (v 0))), (g 2, .inl (cI, 7, .inl (v 1))), (g 3, .inl (cI, 7, .inl (v 5))), (g 4, .inl (cI, 7, .inl (v 2))), (g 5, .inl (cI, 7, .inl (v 3))), (g 6, .inl (cI, 7, .inl (v 4))), (g 7, .inl (cZ, 7, .inl (v 6))), (h 0, .inr (1, [.ref (h 1), .ref (h 2), .int (nI rk), .int (nI sl)])), (h 1, .inl (cI, 7, .inl (fun i9 => nI (kd i9)))), (h 2, .inl (cI, 175, .inl (fun i9 => nI (tn i9))))] := hD
  have hl : lv_has ls 4 [(0, .ref (g 0)), (1, .ref (h 0)), (2, .int (nI k)), (3, .int (nI o))] := hl
  have k_0 := hts (.fieldLink RX5 15 "HearsayMarch$Scene" "ahead" "[I") (by decide +kernel)
  have k_1 := hts (.fieldLink RX5 9 "HearsayMarch$Scene" "last" "[I") (by decide +kernel)
  have k_2 := hts (.fieldLink RX5 48 "HearsayMarch$Army" "kinds" "[I") (by decide +kernel)
  have k_3 := hts (.fieldLink RX5 21 "HearsayMarch$Scene" "does" "[I") (by decide +kernel)
  have hin1 : ∀ w ∈ wsX10, w ∈ wsX5_take := by decide +kernel
  have hin5 : ∀ w ∈ wsX50, w ∈ wsX5_take := by decide +kernel
  refine lv_aload_n hx hb dX5_take_0 rfl (lv_at hl 0 rfl) ?_
  refine va_get (D := G) (ci := 5) (v := .ref (g 2)) (C := RX5) (T := TX5) (N := 9) hx hb hts hin5 hown hK.1 hP 0 rfl rfl 1 (by decide) k_0 (fun _ h9 => h9) rfl dX5_take_1 ?_
  refine lv_iload_n hx hb dX5_take_4 rfl (lv_at hl 2 rfl) ?_
  refine lv_aload_n hx hb dX5_take_5 rfl (lv_at hl 0 rfl) ?_
  refine va_get (D := G) (ci := 5) (v := .ref (g 1)) (C := RX5) (T := TX5) (N := 9) hx hb hts hin5 hown hK.1 hP 0 rfl rfl 0 (by decide) k_1 (fun _ h9 => h9) rfl dX5_take_6 ?_
  refine lv_iload_n hx hb dX5_take_9 rfl (lv_at hl 2 rfl) ?_
  refine ald hx hb hK hP 1 0 rfl rfl (j := k) (by omega) (by omega) dX5_take_10 ?_
  refine ast (f' := upd (v 1) k ((v 0) k)) hx hb hK hP hD hS 2 0 rfl rfl (j := k) (by omega) (by omega) (rfl) dX5_take_11 (fun H locs hP hD hS => ?_)
  have hP : va_P G vwCl [(g 0, .inr (5, [.ref (g 1), .ref (g 2), .ref (g 3), .ref (g 4), .ref (g 5), .ref (g 6), .ref (g 7), .int mi, .long se])), (g 1, .inl (cI, 7, .inl ((up2 v 1 k ((v 0) k)) 0))), (g 2, .inl (cI, 7, .inl ((up2 v 1 k ((v 0) k)) 1))), (g 3, .inl (cI, 7, .inl ((up2 v 1 k ((v 0) k)) 5))), (g 4, .inl (cI, 7, .inl ((up2 v 1 k ((v 0) k)) 2))), (g 5, .inl (cI, 7, .inl ((up2 v 1 k ((v 0) k)) 3))), (g 6, .inl (cI, 7, .inl ((up2 v 1 k ((v 0) k)) 4))), (g 7, .inl (cZ, 7, .inl ((up2 v 1 k ((v 0) k)) 6))), (h 0, .inr (1, [.ref (h 1), .ref (h 2), .int (nI rk), .int (nI sl)])), (h 1, .inl (cI, 7, .inl (fun i9 => nI (kd i9)))), (h 2, .inl (cI, 175, .inl (fun i9 => nI (tn i9))))] _ := hP
  have hD : va_D A [(g 0, .inr (5, [.ref (g 1), .ref (g 2), .ref (g 3), .ref (g 4), .ref (g 5), .ref (g 6), .ref (g 7), .int mi, .long se])), (g 1, .inl (cI, 7, .inl ((up2 v 1 k ((v 0) k)) 0))), (g 2, .inl (cI, 7, .inl ((up2 v 1 k ((v 0) k)) 1))), (g 3, .inl (cI, 7, .inl ((up2 v 1 k ((v 0) k)) 5))), (g 4, .inl (cI, 7, .inl ((up2 v 1 k ((v 0) k)) 2))), (g 5, .inl (cI, 7, .inl ((up2 v 1 k ((v 0) k)) 3))), (g 6, .inl (cI, 7, .inl ((up2 v 1 k ((v 0) k)) 4))), (g 7, .inl (cZ, 7, .inl ((up2 v 1 k ((v 0) k)) 6))), (h 0, .inr (1, [.ref (h 1), .ref (h 2), .int (nI rk), .int (nI sl)])), (h 1, .inl (cI, 7, .inl (fun i9 => nI (kd i9)))), (h 2, .inl (cI, 175, .inl (fun i9 => nI (tn i9))))] := hD
  refine lv_aload_n hx hb dX5_take_12 rfl (lv_at hl 0 rfl) ?_
  refine va_get (D := G) (ci := 5) (v := .ref (g 1)) (C := RX5) (T := TX5) (N := 9) hx hb hts hin5 hown hK.1 hP 0 rfl rfl 0 (by decide) k_1 (fun _ h9 => h9) rfl dX5_take_13 ?_
  refine lv_iload_n hx hb dX5_take_16 rfl (lv_at hl 2 rfl) ?_
  refine lv_iload_n hx hb dX5_take_17 rfl (lv_at hl 3 rfl) ?_
  refine ast (f' := upd ((up2 v 1 k ((v 0) k)) 0) k (nI o)) hx hb hK hP hD hS 1 0 rfl rfl (j := k) (by omega) (by omega) (rfl) dX5_take_18 (fun H locs hP hD hS => ?_)
  have hP : va_P G vwCl [(g 0, .inr (5, [.ref (g 1), .ref (g 2), .ref (g 3), .ref (g 4), .ref (g 5), .ref (g 6), .ref (g 7), .int mi, .long se])), (g 1, .inl (cI, 7, .inl ((up2 (up2 v 1 k ((v 0) k)) 0 k (nI o)) 0))), (g 2, .inl (cI, 7, .inl ((up2 (up2 v 1 k ((v 0) k)) 0 k (nI o)) 1))), (g 3, .inl (cI, 7, .inl ((up2 (up2 v 1 k ((v 0) k)) 0 k (nI o)) 5))), (g 4, .inl (cI, 7, .inl ((up2 (up2 v 1 k ((v 0) k)) 0 k (nI o)) 2))), (g 5, .inl (cI, 7, .inl ((up2 (up2 v 1 k ((v 0) k)) 0 k (nI o)) 3))), (g 6, .inl (cI, 7, .inl ((up2 (up2 v 1 k ((v 0) k)) 0 k (nI o)) 4))), (g 7, .inl (cZ, 7, .inl ((up2 (up2 v 1 k ((v 0) k)) 0 k (nI o)) 6))), (h 0, .inr (1, [.ref (h 1), .ref (h 2), .int (nI rk), .int (nI sl)])), (h 1, .inl (cI, 7, .inl (fun i9 => nI (kd i9)))), (h 2, .inl (cI, 175, .inl (fun i9 => nI (tn i9))))] _ := hP
  have hD : va_D A [(g 0, .inr (5, [.ref (g 1), .ref (g 2), .ref (g 3), .ref (g 4), .ref (g 5), .ref (g 6), .ref (g 7), .int mi, .long se])), (g 1, .inl (cI, 7, .inl ((up2 (up2 v 1 k ((v 0) k)) 0 k (nI o)) 0))), (g 2, .inl (cI, 7, .inl ((up2 (up2 v 1 k ((v 0) k)) 0 k (nI o)) 1))), (g 3, .inl (cI, 7, .inl ((up2 (up2 v 1 k ((v 0) k)) 0 k (nI o)) 5))), (g 4, .inl (cI, 7, .inl ((up2 (up2 v 1 k ((v 0) k)) 0 k (nI o)) 2))), (g 5, .inl (cI, 7, .inl ((up2 (up2 v 1 k ((v 0) k)) 0 k (nI o)) 3))), (g 6, .inl (cI, 7, .inl ((up2 (up2 v 1 k ((v 0) k)) 0 k (nI o)) 4))), (g 7, .inl (cZ, 7, .inl ((up2 (up2 v 1 k ((v 0) k)) 0 k (nI o)) 6))), (h 0, .inr (1, [.ref (h 1), .ref (h 2), .int (nI rk), .int (nI sl)])), (h 1, .inl (cI, 7, .inl (fun i9 => nI (kd i9)))), (h 2, .inl (cI, 175, .inl (fun i9 => nI (tn i9))))] := hD
  refine lv_aload_n hx hb dX5_take_19 rfl (lv_at hl 1 rfl) ?_
  refine va_get (D := G) (ci := 1) (v := .ref (h 1)) (C := RX1) (T := TX1) (N := 4) hx hb hts hin1 hown hK.1 hP 8 rfl rfl 0 (by decide) k_2 (fun _ h9 => h9) rfl dX5_take_20 ?_
  refine lv_iload_n hx hb dX5_take_23 rfl (lv_at hl 2 rfl) ?_
  refine ald hx hb hK hP 9 0 rfl rfl (j := k) (by omega) (by omega) dX5_take_24 ?_
  refine lv_iconst (v := nI 1) hx hb dX5_take_25 (by decide) ?_
  refine lv_icmp_ne (tgt := 39) hx hb dX5_take_26 (by decide) (fun c_26 => ?_) (fun c_26 => ?_)
  · skip
    have c_26 := n_neT c_26 (by omega) (by omega)
    refine lv_aload_n hx hb dX5_take_39 rfl (lv_at hl 0 rfl) ?_
    refine va_get (D := G) (ci := 5) (v := .ref (g 4)) (C := RX5) (T := TX5) (N := 9) hx hb hts hin5 hown hK.1 hP 0 rfl rfl 3 (by decide) k_3 (fun _ h9 => h9) rfl dX5_take_40 ?_
    refine lv_iload_n hx hb dX5_take_43 rfl (lv_at hl 2 rfl) ?_
    refine lv_iload_n hx hb dX5_take_44 rfl (lv_at hl 3 rfl) ?_
    refine ast (f' := upd ((up2 (up2 v 1 k ((v 0) k)) 0 k (nI o)) 2) k (nI o)) hx hb hK hP hD hS 4 0 rfl rfl (j := k) (by omega) (by omega) (rfl) dX5_take_45 (fun H locs hP hD hS => ?_)
    have hP : va_P G vwCl [(g 0, .inr (5, [.ref (g 1), .ref (g 2), .ref (g 3), .ref (g 4), .ref (g 5), .ref (g 6), .ref (g 7), .int mi, .long se])), (g 1, .inl (cI, 7, .inl ((up2 (up2 (up2 v 1 k ((v 0) k)) 0 k (nI o)) 2 k (nI o)) 0))), (g 2, .inl (cI, 7, .inl ((up2 (up2 (up2 v 1 k ((v 0) k)) 0 k (nI o)) 2 k (nI o)) 1))), (g 3, .inl (cI, 7, .inl ((up2 (up2 (up2 v 1 k ((v 0) k)) 0 k (nI o)) 2 k (nI o)) 5))), (g 4, .inl (cI, 7, .inl ((up2 (up2 (up2 v 1 k ((v 0) k)) 0 k (nI o)) 2 k (nI o)) 2))), (g 5, .inl (cI, 7, .inl ((up2 (up2 (up2 v 1 k ((v 0) k)) 0 k (nI o)) 2 k (nI o)) 3))), (g 6, .inl (cI, 7, .inl ((up2 (up2 (up2 v 1 k ((v 0) k)) 0 k (nI o)) 2 k (nI o)) 4))), (g 7, .inl (cZ, 7, .inl ((up2 (up2 (up2 v 1 k ((v 0) k)) 0 k (nI o)) 2 k (nI o)) 6))), (h 0, .inr (1, [.ref (h 1), .ref (h 2), .int (nI rk), .int (nI sl)])), (h 1, .inl (cI, 7, .inl (fun i9 => nI (kd i9)))), (h 2, .inl (cI, 175, .inl (fun i9 => nI (tn i9))))] _ := hP
    have hD : va_D A [(g 0, .inr (5, [.ref (g 1), .ref (g 2), .ref (g 3), .ref (g 4), .ref (g 5), .ref (g 6), .ref (g 7), .int mi, .long se])), (g 1, .inl (cI, 7, .inl ((up2 (up2 (up2 v 1 k ((v 0) k)) 0 k (nI o)) 2 k (nI o)) 0))), (g 2, .inl (cI, 7, .inl ((up2 (up2 (up2 v 1 k ((v 0) k)) 0 k (nI o)) 2 k (nI o)) 1))), (g 3, .inl (cI, 7, .inl ((up2 (up2 (up2 v 1 k ((v 0) k)) 0 k (nI o)) 2 k (nI o)) 5))), (g 4, .inl (cI, 7, .inl ((up2 (up2 (up2 v 1 k ((v 0) k)) 0 k (nI o)) 2 k (nI o)) 2))), (g 5, .inl (cI, 7, .inl ((up2 (up2 (up2 v 1 k ((v 0) k)) 0 k (nI o)) 2 k (nI o)) 3))), (g 6, .inl (cI, 7, .inl ((up2 (up2 (up2 v 1 k ((v 0) k)) 0 k (nI o)) 2 k (nI o)) 4))), (g 7, .inl (cZ, 7, .inl ((up2 (up2 (up2 v 1 k ((v 0) k)) 0 k (nI o)) 2 k (nI o)) 6))), (h 0, .inr (1, [.ref (h 1), .ref (h 2), .int (nI rk), .int (nI sl)])), (h 1, .inl (cI, 7, .inl (fun i9 => nI (kd i9)))), (h 2, .inl (cI, 175, .inl (fun i9 => nI (tn i9))))] := hD
    have eS : (up2 (up2 (up2 v 1 k ((v 0) k)) 0 k (nI o)) 2 k (nI o)) = takeV (kd k) v k o := by first | exact takeV_n (fun z => c_26 z.1) | exact takeV_n (fun z => z.2 (up2_1.symm.trans c_36)) | exact takeV_y c_26 (fun z => c_36 (up2_1.trans z))
    rw [eS] at hP hD
    have hP : va_P G vwCl [(g 0, .inr (5, [.ref (g 1), .ref (g 2), .ref (g 3), .ref (g 4), .ref (g 5), .ref (g 6), .ref (g 7), .int mi, .long se])), (g 1, .inl (cI, 7, .inl ((takeV (kd k) v k o) 0))), (g 2, .inl (cI, 7, .inl ((takeV (kd k) v k o) 1))), (g 3, .inl (cI, 7, .inl ((takeV (kd k) v k o) 5))), (g 4, .inl (cI, 7, .inl ((takeV (kd k) v k o) 2))), (g 5, .inl (cI, 7, .inl ((takeV (kd k) v k o) 3))), (g 6, .inl (cI, 7, .inl ((takeV (kd k) v k o) 4))), (g 7, .inl (cZ, 7, .inl ((takeV (kd k) v k o) 6))), (h 0, .inr (1, [.ref (h 1), .ref (h 2), .int (nI rk), .int (nI sl)])), (h 1, .inl (cI, 7, .inl (fun i9 => nI (kd i9)))), (h 2, .inl (cI, 175, .inl (fun i9 => nI (tn i9))))] _ := hP
    have hD : va_D A [(g 0, .inr (5, [.ref (g 1), .ref (g 2), .ref (g 3), .ref (g 4), .ref (g 5), .ref (g 6), .ref (g 7), .int mi, .long se])), (g 1, .inl (cI, 7, .inl ((takeV (kd k) v k o) 0))), (g 2, .inl (cI, 7, .inl ((takeV (kd k) v k o) 1))), (g 3, .inl (cI, 7, .inl ((takeV (kd k) v k o) 5))), (g 4, .inl (cI, 7, .inl ((takeV (kd k) v k o) 2))), (g 5, .inl (cI, 7, .inl ((takeV (kd k) v k o) 3))), (g 6, .inl (cI, 7, .inl ((takeV (kd k) v k o) 4))), (g 7, .inl (cZ, 7, .inl ((takeV (kd k) v k o) 6))), (h 0, .inr (1, [.ref (h 1), .ref (h 2), .int (nI rk), .int (nI sl)])), (h 1, .inl (cI, 7, .inl (fun i9 => nI (kd i9)))), (h 2, .inl (cI, 175, .inl (fun i9 => nI (tn i9))))] := hD
    exact endV hx hb hr hlocks (()) (trivial) (hP.sub [0, 1, 2, 3, 4, 5, 6, 7, 8, 9, 10] rfl) (hD.sub [0, 1, 2, 3, 4, 5, 6, 7, 8, 9, 10] (by decide) rfl) hS dX5_take_46
  · skip
    have c_26 := n_neF c_26 (by omega) (by omega)
    refine lv_aload_n hx hb dX5_take_29 rfl (lv_at hl 0 rfl) ?_
    refine va_get (D := G) (ci := 5) (v := .ref (g 2)) (C := RX5) (T := TX5) (N := 9) hx hb hts hin5 hown hK.1 hP 0 rfl rfl 1 (by decide) k_0 (fun _ h9 => h9) rfl dX5_take_30 ?_
    refine lv_iload_n hx hb dX5_take_33 rfl (lv_at hl 2 rfl) ?_
    refine ald hx hb hK hP 2 0 rfl rfl (j := k) (by omega) (by omega) dX5_take_34 ?_
    refine lv_iload_n hx hb dX5_take_35 rfl (lv_at hl 3 rfl) ?_
    refine lv_icmp_ne (tgt := 46) hx hb dX5_take_36 (by decide) (fun c_36 => ?_) (fun c_36 => ?_)
    · skip
      have eS : (up2 (up2 v 1 k ((v 0) k)) 0 k (nI o)) = takeV (kd k) v k o := by first | exact takeV_n (fun z => c_26 z.1) | exact takeV_n (fun z => z.2 (up2_1.symm.trans c_36)) | exact takeV_y c_26 (fun z => c_36 (up2_1.trans z))
      rw [eS] at hP hD
      have hP : va_P G vwCl [(g 0, .inr (5, [.ref (g 1), .ref (g 2), .ref (g 3), .ref (g 4), .ref (g 5), .ref (g 6), .ref (g 7), .int mi, .long se])), (g 1, .inl (cI, 7, .inl ((takeV (kd k) v k o) 0))), (g 2, .inl (cI, 7, .inl ((takeV (kd k) v k o) 1))), (g 3, .inl (cI, 7, .inl ((takeV (kd k) v k o) 5))), (g 4, .inl (cI, 7, .inl ((takeV (kd k) v k o) 2))), (g 5, .inl (cI, 7, .inl ((takeV (kd k) v k o) 3))), (g 6, .inl (cI, 7, .inl ((takeV (kd k) v k o) 4))), (g 7, .inl (cZ, 7, .inl ((takeV (kd k) v k o) 6))), (h 0, .inr (1, [.ref (h 1), .ref (h 2), .int (nI rk), .int (nI sl)])), (h 1, .inl (cI, 7, .inl (fun i9 => nI (kd i9)))), (h 2, .inl (cI, 175, .inl (fun i9 => nI (tn i9))))] _ := hP
      have hD : va_D A [(g 0, .inr (5, [.ref (g 1), .ref (g 2), .ref (g 3), .ref (g 4), .ref (g 5), .ref (g 6), .ref (g 7), .int mi, .long se])), (g 1, .inl (cI, 7, .inl ((takeV (kd k) v k o) 0))), (g 2, .inl (cI, 7, .inl ((takeV (kd k) v k o) 1))), (g 3, .inl (cI, 7, .inl ((takeV (kd k) v k o) 5))), (g 4, .inl (cI, 7, .inl ((takeV (kd k) v k o) 2))), (g 5, .inl (cI, 7, .inl ((takeV (kd k) v k o) 3))), (g 6, .inl (cI, 7, .inl ((takeV (kd k) v k o) 4))), (g 7, .inl (cZ, 7, .inl ((takeV (kd k) v k o) 6))), (h 0, .inr (1, [.ref (h 1), .ref (h 2), .int (nI rk), .int (nI sl)])), (h 1, .inl (cI, 7, .inl (fun i9 => nI (kd i9)))), (h 2, .inl (cI, 175, .inl (fun i9 => nI (tn i9))))] := hD
      exact endV hx hb hr hlocks (()) (trivial) (hP.sub [0, 1, 2, 3, 4, 5, 6, 7, 8, 9, 10] rfl) (hD.sub [0, 1, 2, 3, 4, 5, 6, 7, 8, 9, 10] (by decide) rfl) hS dX5_take_46
    · skip
      refine lv_aload_n hx hb dX5_take_39 rfl (lv_at hl 0 rfl) ?_
      refine va_get (D := G) (ci := 5) (v := .ref (g 4)) (C := RX5) (T := TX5) (N := 9) hx hb hts hin5 hown hK.1 hP 0 rfl rfl 3 (by decide) k_3 (fun _ h9 => h9) rfl dX5_take_40 ?_
      refine lv_iload_n hx hb dX5_take_43 rfl (lv_at hl 2 rfl) ?_
      refine lv_iload_n hx hb dX5_take_44 rfl (lv_at hl 3 rfl) ?_
      refine ast (f' := upd ((up2 (up2 v 1 k ((v 0) k)) 0 k (nI o)) 2) k (nI o)) hx hb hK hP hD hS 4 0 rfl rfl (j := k) (by omega) (by omega) (rfl) dX5_take_45 (fun H locs hP hD hS => ?_)
      have hP : va_P G vwCl [(g 0, .inr (5, [.ref (g 1), .ref (g 2), .ref (g 3), .ref (g 4), .ref (g 5), .ref (g 6), .ref (g 7), .int mi, .long se])), (g 1, .inl (cI, 7, .inl ((up2 (up2 (up2 v 1 k ((v 0) k)) 0 k (nI o)) 2 k (nI o)) 0))), (g 2, .inl (cI, 7, .inl ((up2 (up2 (up2 v 1 k ((v 0) k)) 0 k (nI o)) 2 k (nI o)) 1))), (g 3, .inl (cI, 7, .inl ((up2 (up2 (up2 v 1 k ((v 0) k)) 0 k (nI o)) 2 k (nI o)) 5))), (g 4, .inl (cI, 7, .inl ((up2 (up2 (up2 v 1 k ((v 0) k)) 0 k (nI o)) 2 k (nI o)) 2))), (g 5, .inl (cI, 7, .inl ((up2 (up2 (up2 v 1 k ((v 0) k)) 0 k (nI o)) 2 k (nI o)) 3))), (g 6, .inl (cI, 7, .inl ((up2 (up2 (up2 v 1 k ((v 0) k)) 0 k (nI o)) 2 k (nI o)) 4))), (g 7, .inl (cZ, 7, .inl ((up2 (up2 (up2 v 1 k ((v 0) k)) 0 k (nI o)) 2 k (nI o)) 6))), (h 0, .inr (1, [.ref (h 1), .ref (h 2), .int (nI rk), .int (nI sl)])), (h 1, .inl (cI, 7, .inl (fun i9 => nI (kd i9)))), (h 2, .inl (cI, 175, .inl (fun i9 => nI (tn i9))))] _ := hP
      have hD : va_D A [(g 0, .inr (5, [.ref (g 1), .ref (g 2), .ref (g 3), .ref (g 4), .ref (g 5), .ref (g 6), .ref (g 7), .int mi, .long se])), (g 1, .inl (cI, 7, .inl ((up2 (up2 (up2 v 1 k ((v 0) k)) 0 k (nI o)) 2 k (nI o)) 0))), (g 2, .inl (cI, 7, .inl ((up2 (up2 (up2 v 1 k ((v 0) k)) 0 k (nI o)) 2 k (nI o)) 1))), (g 3, .inl (cI, 7, .inl ((up2 (up2 (up2 v 1 k ((v 0) k)) 0 k (nI o)) 2 k (nI o)) 5))), (g 4, .inl (cI, 7, .inl ((up2 (up2 (up2 v 1 k ((v 0) k)) 0 k (nI o)) 2 k (nI o)) 2))), (g 5, .inl (cI, 7, .inl ((up2 (up2 (up2 v 1 k ((v 0) k)) 0 k (nI o)) 2 k (nI o)) 3))), (g 6, .inl (cI, 7, .inl ((up2 (up2 (up2 v 1 k ((v 0) k)) 0 k (nI o)) 2 k (nI o)) 4))), (g 7, .inl (cZ, 7, .inl ((up2 (up2 (up2 v 1 k ((v 0) k)) 0 k (nI o)) 2 k (nI o)) 6))), (h 0, .inr (1, [.ref (h 1), .ref (h 2), .int (nI rk), .int (nI sl)])), (h 1, .inl (cI, 7, .inl (fun i9 => nI (kd i9)))), (h 2, .inl (cI, 175, .inl (fun i9 => nI (tn i9))))] := hD
      have eS : (up2 (up2 (up2 v 1 k ((v 0) k)) 0 k (nI o)) 2 k (nI o)) = takeV (kd k) v k o := by first | exact takeV_n (fun z => c_26 z.1) | exact takeV_n (fun z => z.2 (up2_1.symm.trans c_36)) | exact takeV_y c_26 (fun z => c_36 (up2_1.trans z))
      rw [eS] at hP hD
      have hP : va_P G vwCl [(g 0, .inr (5, [.ref (g 1), .ref (g 2), .ref (g 3), .ref (g 4), .ref (g 5), .ref (g 6), .ref (g 7), .int mi, .long se])), (g 1, .inl (cI, 7, .inl ((takeV (kd k) v k o) 0))), (g 2, .inl (cI, 7, .inl ((takeV (kd k) v k o) 1))), (g 3, .inl (cI, 7, .inl ((takeV (kd k) v k o) 5))), (g 4, .inl (cI, 7, .inl ((takeV (kd k) v k o) 2))), (g 5, .inl (cI, 7, .inl ((takeV (kd k) v k o) 3))), (g 6, .inl (cI, 7, .inl ((takeV (kd k) v k o) 4))), (g 7, .inl (cZ, 7, .inl ((takeV (kd k) v k o) 6))), (h 0, .inr (1, [.ref (h 1), .ref (h 2), .int (nI rk), .int (nI sl)])), (h 1, .inl (cI, 7, .inl (fun i9 => nI (kd i9)))), (h 2, .inl (cI, 175, .inl (fun i9 => nI (tn i9))))] _ := hP
      have hD : va_D A [(g 0, .inr (5, [.ref (g 1), .ref (g 2), .ref (g 3), .ref (g 4), .ref (g 5), .ref (g 6), .ref (g 7), .int mi, .long se])), (g 1, .inl (cI, 7, .inl ((takeV (kd k) v k o) 0))), (g 2, .inl (cI, 7, .inl ((takeV (kd k) v k o) 1))), (g 3, .inl (cI, 7, .inl ((takeV (kd k) v k o) 5))), (g 4, .inl (cI, 7, .inl ((takeV (kd k) v k o) 2))), (g 5, .inl (cI, 7, .inl ((takeV (kd k) v k o) 3))), (g 6, .inl (cI, 7, .inl ((takeV (kd k) v k o) 4))), (g 7, .inl (cZ, 7, .inl ((takeV (kd k) v k o) 6))), (h 0, .inr (1, [.ref (h 1), .ref (h 2), .int (nI rk), .int (nI sl)])), (h 1, .inl (cI, 7, .inl (fun i9 => nI (kd i9)))), (h 2, .inl (cI, 175, .inl (fun i9 => nI (tn i9))))] := hD
      exact endV hx hb hr hlocks (()) (trivial) (hP.sub [0, 1, 2, 3, 4, 5, 6, 7, 8, 9, 10] rfl) (hD.sub [0, 1, 2, 3, 4, 5, 6, 7, 8, 9, 10] (by decide) rfl) hS dX5_take_46

set_option maxHeartbeats 4000000 in
set_option maxRecDepth 100000 in
theorem c_X5_tell {l : Launch} {G : va_G} {cI cJ cZ cS : ClassId} (g : Nat → Nat) (v : Nat → Nat → Int32) (mi : Int32) (se : Int64) (h : Nat → Nat) (kd : Nat → Nat) (tn : Nat → Nat) (rk : Nat) (sl : Nat) (k : Nat) (o : Nat) (hk : k < 7) (hkd : kd k < 4) (ho : o < 5) : CI l G (kT cI cJ cZ cS) (S := Unit) yX5_tell wsX5_tell { frames := 1, cells := 0, slots := 0, locals := 23 } [.ref (g 0), .ref (h 0), .int (nI k), .int (nI o)] [(g 0, .inr (5, [.ref (g 1), .ref (g 2), .ref (g 3), .ref (g 4), .ref (g 5), .ref (g 6), .ref (g 7), .int mi, .long se])), (g 1, .inl (cI, 7, .inl (v 0))), (g 2, .inl (cI, 7, .inl (v 1))), (g 3, .inl (cI, 7, .inl (v 5))), (g 4, .inl (cI, 7, .inl (v 2))), (g 5, .inl (cI, 7, .inl (v 3))), (g 6, .inl (cI, 7, .inl (v 4))), (g 7, .inl (cZ, 7, .inl (v 6))), (h 0, .inr (1, [.ref (h 1), .ref (h 2), .int (nI rk), .int (nI sl)])), (h 1, .inl (cI, 7, .inl (fun i9 => nI (kd i9)))), (h 2, .inl (cI, 175, .inl (fun i9 => nI (tn i9))))] (fun res _ => res = tellR (kd k) v k o) (fun _ => [(g 0, .inr (5, [.ref (g 1), .ref (g 2), .ref (g 3), .ref (g 4), .ref (g 5), .ref (g 6), .ref (g 7), .int mi, .long se])), (g 1, .inl (cI, 7, .inl ((tellV (kd k) v k o) 0))), (g 2, .inl (cI, 7, .inl ((tellV (kd k) v k o) 1))), (g 3, .inl (cI, 7, .inl ((tellV (kd k) v k o) 5))), (g 4, .inl (cI, 7, .inl ((tellV (kd k) v k o) 2))), (g 5, .inl (cI, 7, .inl ((tellV (kd k) v k o) 3))), (g 6, .inl (cI, 7, .inl ((tellV (kd k) v k o) 4))), (g 7, .inl (cZ, 7, .inl ((tellV (kd k) v k o) 6))), (h 0, .inr (1, [.ref (h 1), .ref (h 2), .int (nI rk), .int (nI sl)])), (h 1, .inl (cI, 7, .inl (fun i9 => nI (kd i9)))), (h 2, .inl (cI, 175, .inl (fun i9 => nI (tn i9))))]) := by
  refine CI.of (cc := cX5_tell) (maxL := 5) (by decide) rfl (Nat.le_of_ble_eq_true rfl) ?_
  intro p e s m below meth c A ls hB
  obtain ⟨hx, hb, hml, hr, hts, hown, hlocks, hmn, hK, hP, hD, hS, hA, hl⟩ := hB
  have hP : va_P G vwCl [(g 0, .inr (5, [.ref (g 1), .ref (g 2), .ref (g 3), .ref (g 4), .ref (g 5), .ref (g 6), .ref (g 7), .int mi, .long se])), (g 1, .inl (cI, 7, .inl (v 0))), (g 2, .inl (cI, 7, .inl (v 1))), (g 3, .inl (cI, 7, .inl (v 5))), (g 4, .inl (cI, 7, .inl (v 2))), (g 5, .inl (cI, 7, .inl (v 3))), (g 6, .inl (cI, 7, .inl (v 4))), (g 7, .inl (cZ, 7, .inl (v 6))), (h 0, .inr (1, [.ref (h 1), .ref (h 2), .int (nI rk), .int (nI sl)])), (h 1, .inl (cI, 7, .inl (fun i9 => nI (kd i9)))), (h 2, .inl (cI, 175, .inl (fun i9 => nI (tn i9))))] s.heap := hP
  have hD : va_D A [(g 0, .inr (5, [.ref (g 1), .ref (g 2), .ref (g 3), .ref (g 4), .ref (g 5), .ref (g 6), .ref (g 7), .int mi, .long se])), (g 1, .inl (cI, 7, .inl (v 0))), (g 2, .inl (cI, 7, .inl (v 1))), (g 3, .inl (cI, 7, .inl (v 5))), (g 4, .inl (cI, 7, .inl (v 2))), (g 5, .inl (cI, 7, .inl (v 3))), (g 6, .inl (cI, 7, .inl (v 4))), (g 7, .inl (cZ, 7, .inl (v 6))), (h 0, .inr (1, [.ref (h 1), .ref (h 2), .int (nI rk), .int (nI sl)])), (h 1, .inl (cI, 7, .inl (fun i9 => nI (kd i9)))), (h 2, .inl (cI, 175, .inl (fun i9 => nI (tn i9))))] := hD
  have hl : lv_has ls 5 [(0, .ref (g 0)), (1, .ref (h 0)), (2, .int (nI k)), (3, .int (nI o))] := hl
  have k_0 := hts (.fieldLink RX5 30 "HearsayMarch$Scene" "asleep" "[Z") (by decide +kernel)
  have hin5 : ∀ w ∈ wsX50, w ∈ wsX5_tell := by decide +kernel
  refine lv_aload_n hx hb dX5_tell_0 rfl (lv_at hl 0 rfl) ?_
  refine va_get (D := G) (ci := 5) (v := .ref (g 7)) (C := RX5) (T := TX5) (N := 9) hx hb hts hin5 hown hK.1 hP 0 rfl rfl 6 (by decide) k_0 (fun _ h9 => h9) rfl dX5_tell_1 ?_
  refine lv_iload_n hx hb dX5_tell_4 rfl (lv_at hl 2 rfl) ?_
  refine zld hx hb hK hP 7 2 rfl rfl (j := k) (by omega) (by omega) dX5_tell_5 ?_
  refine lv_if_eq (tgt := 19) hx hb dX5_tell_6 (by decide) (fun c_6 => ?_) (fun c_6 => ?_)
  · skip
    refine lv_aload_n hx hb dX5_tell_19 rfl (lv_at hl 1 rfl) ?_
    refine lv_iload_n hx hb dX5_tell_20 rfl (lv_at hl 2 rfl) ?_
    refine lv_iload_n hx hb dX5_tell_21 rfl (lv_at hl 3 rfl) ?_
    refine aft_i (wr := [(g 0, .inr (5, [.ref (g 1), .ref (g 2), .ref (g 3), .ref (g 4), .ref (g 5), .ref (g 6), .ref (g 7), .int mi, .long se])), (g 1, .inl (cI, 7, .inl (v 0))), (g 2, .inl (cI, 7, .inl (v 1))), (g 3, .inl (cI, 7, .inl (v 5))), (g 4, .inl (cI, 7, .inl (v 2))), (g 5, .inl (cI, 7, .inl (v 3))), (g 6, .inl (cI, 7, .inl (v 4))), (g 7, .inl (cZ, 7, .inl (v 6)))]) (va_runV (As := [.int (nI k), .int (nI o)]) (rest := []) ⟨hx, hb, hml, hown, hts⟩ (c_X1_hears (h := h) (kd := kd) (tn := tn) (rk := rk) (sl := sl) (k := k) (o := o) (hk := by first | assumption | omega | exact hok.1 _ (by omega) | exact hok.2.2 _ _ (by omega) (by omega) | exact hok.2.1) (ho := by first | assumption | omega | exact hok.1 _ (by omega) | exact hok.2.2 _ _ (by omega) (by omega) | exact hok.2.1) (hd := by first | assumption | omega | exact hok.1 _ (by omega) | exact hok.2.2 _ _ (by omega) (by omega) | exact hok.2.1) _) (cwV 2 hts gX5_tell_X1_hears rfl rfl rfl (by decide +kernel) ⟨Nat.le_of_ble_eq_true rfl, Nat.le_of_ble_eq_true rfl⟩) (preV (cq := (RX1, TX1, 4)) (q0 := 8) (ci := 1) hK hP hD [8, 9, 10] rfl rfl rfl rfl) rfl rfl hl.1 rfl (lv_room (Nat.le_of_ble_eq_true rfl)) dX5_tell_22 ⟨Nat.le_of_ble_eq_true rfl, Nat.le_of_ble_eq_true rfl⟩) hP hD hS hA [8, 9, 10] [0, 1, 2, 3, 4, 5, 6, 7] rfl rfl rfl (by decide) (fun r_22 uu9 H locs hw hP hD hS => ?_)
    have hP : va_P G vwCl [(g 0, .inr (5, [.ref (g 1), .ref (g 2), .ref (g 3), .ref (g 4), .ref (g 5), .ref (g 6), .ref (g 7), .int mi, .long se])), (g 1, .inl (cI, 7, .inl (v 0))), (g 2, .inl (cI, 7, .inl (v 1))), (g 3, .inl (cI, 7, .inl (v 5))), (g 4, .inl (cI, 7, .inl (v 2))), (g 5, .inl (cI, 7, .inl (v 3))), (g 6, .inl (cI, 7, .inl (v 4))), (g 7, .inl (cZ, 7, .inl (v 6))), (h 0, .inr (1, [.ref (h 1), .ref (h 2), .int (nI rk), .int (nI sl)])), (h 1, .inl (cI, 7, .inl (fun i9 => nI (kd i9)))), (h 2, .inl (cI, 175, .inl (fun i9 => nI (tn i9))))] _ := hP
    have hD : va_D A [(g 0, .inr (5, [.ref (g 1), .ref (g 2), .ref (g 3), .ref (g 4), .ref (g 5), .ref (g 6), .ref (g 7), .int mi, .long se])), (g 1, .inl (cI, 7, .inl (v 0))), (g 2, .inl (cI, 7, .inl (v 1))), (g 3, .inl (cI, 7, .inl (v 5))), (g 4, .inl (cI, 7, .inl (v 2))), (g 5, .inl (cI, 7, .inl (v 3))), (g 6, .inl (cI, 7, .inl (v 4))), (g 7, .inl (cZ, 7, .inl (v 6))), (h 0, .inr (1, [.ref (h 1), .ref (h 2), .int (nI rk), .int (nI sl)])), (h 1, .inl (cI, 7, .inl (fun i9 => nI (kd i9)))), (h 2, .inl (cI, 175, .inl (fun i9 => nI (tn i9))))] := hD
    obtain rfl := hw
    refine top_i (y := nI (turnN (kd k) o)) rfl ?_
    refine lv_istore (lv' := [(4, .int (nI (turnN (kd k) o))), (0, .ref (g 0)), (1, .ref (h 0)), (2, .int (nI k)), (3, .int (nI o))]) hx hb dX5_tell_25 hl (by decide) rfl (fun ls hl => ?_)
    refine lv_aload_n hx hb dX5_tell_27 rfl (lv_at hl 1 rfl) ?_
    refine lv_aload_n hx hb dX5_tell_28 rfl (lv_at hl 2 rfl) ?_
    refine lv_iload_n hx hb dX5_tell_29 rfl (lv_at hl 3 rfl) ?_
    refine lv_iload hx hb dX5_tell_30 (lv_at hl 0 rfl) ?_
    refine aft_v (wr := []) (va_runV (As := [.ref (h 0), .int (nI k), .int (nI (turnN (kd k) o))]) (rest := []) ⟨hx, hb, hml, hown, hts⟩ (c_X5_take (g := g) (v := v) (mi := mi) (se := se) (h := h) (kd := kd) (tn := tn) (rk := rk) (sl := sl) (k := k) (o := turnN (kd k) o) (hk := by first | assumption | omega | exact hok.1 _ (by omega) | exact hok.2.2 _ _ (by omega) (by omega) | exact hok.2.1) (hkd := by first | assumption | omega | exact hok.1 _ (by omega) | exact hok.2.2 _ _ (by omega) (by omega) | exact hok.2.1) _) (cwV 3 hts gX5_tell_X5_take rfl rfl rfl (by decide +kernel) ⟨Nat.le_of_ble_eq_true rfl, Nat.le_of_ble_eq_true rfl⟩) (preV (cq := (RX5, TX5, 9)) (q0 := 0) (ci := 5) hK hP hD [0, 1, 2, 3, 4, 5, 6, 7, 8, 9, 10] rfl rfl rfl rfl) rfl rfl hl.1 rfl (lv_room (Nat.le_of_ble_eq_true rfl)) dX5_tell_32 ⟨Nat.le_of_ble_eq_true rfl, Nat.le_of_ble_eq_true rfl⟩) hP hD hS hA [0, 1, 2, 3, 4, 5, 6, 7, 8, 9, 10] [] rfl rfl rfl (by decide) (fun uu9 H locs hw hP hD hS => ?_)
    have hP : va_P G vwCl [(g 0, .inr (5, [.ref (g 1), .ref (g 2), .ref (g 3), .ref (g 4), .ref (g 5), .ref (g 6), .ref (g 7), .int mi, .long se])), (g 1, .inl (cI, 7, .inl ((takeV (kd k) v k (turnN (kd k) o)) 0))), (g 2, .inl (cI, 7, .inl ((takeV (kd k) v k (turnN (kd k) o)) 1))), (g 3, .inl (cI, 7, .inl ((takeV (kd k) v k (turnN (kd k) o)) 5))), (g 4, .inl (cI, 7, .inl ((takeV (kd k) v k (turnN (kd k) o)) 2))), (g 5, .inl (cI, 7, .inl ((takeV (kd k) v k (turnN (kd k) o)) 3))), (g 6, .inl (cI, 7, .inl ((takeV (kd k) v k (turnN (kd k) o)) 4))), (g 7, .inl (cZ, 7, .inl ((takeV (kd k) v k (turnN (kd k) o)) 6))), (h 0, .inr (1, [.ref (h 1), .ref (h 2), .int (nI rk), .int (nI sl)])), (h 1, .inl (cI, 7, .inl (fun i9 => nI (kd i9)))), (h 2, .inl (cI, 175, .inl (fun i9 => nI (tn i9))))] _ := hP
    have hD : va_D A [(g 0, .inr (5, [.ref (g 1), .ref (g 2), .ref (g 3), .ref (g 4), .ref (g 5), .ref (g 6), .ref (g 7), .int mi, .long se])), (g 1, .inl (cI, 7, .inl ((takeV (kd k) v k (turnN (kd k) o)) 0))), (g 2, .inl (cI, 7, .inl ((takeV (kd k) v k (turnN (kd k) o)) 1))), (g 3, .inl (cI, 7, .inl ((takeV (kd k) v k (turnN (kd k) o)) 5))), (g 4, .inl (cI, 7, .inl ((takeV (kd k) v k (turnN (kd k) o)) 2))), (g 5, .inl (cI, 7, .inl ((takeV (kd k) v k (turnN (kd k) o)) 3))), (g 6, .inl (cI, 7, .inl ((takeV (kd k) v k (turnN (kd k) o)) 4))), (g 7, .inl (cZ, 7, .inl ((takeV (kd k) v k (turnN (kd k) o)) 6))), (h 0, .inr (1, [.ref (h 1), .ref (h 2), .int (nI rk), .int (nI sl)])), (h 1, .inl (cI, 7, .inl (fun i9 => nI (kd i9)))), (h 2, .inl (cI, 175, .inl (fun i9 => nI (tn i9))))] := hD
    have eS : (takeV (kd k) v k (turnN (kd k) o)) = tellV (kd k) v k o := (by rw [tellV, if_pos c_6])
    rw [eS] at hP hD
    have hP : va_P G vwCl [(g 0, .inr (5, [.ref (g 1), .ref (g 2), .ref (g 3), .ref (g 4), .ref (g 5), .ref (g 6), .ref (g 7), .int mi, .long se])), (g 1, .inl (cI, 7, .inl ((tellV (kd k) v k o) 0))), (g 2, .inl (cI, 7, .inl ((tellV (kd k) v k o) 1))), (g 3, .inl (cI, 7, .inl ((tellV (kd k) v k o) 5))), (g 4, .inl (cI, 7, .inl ((tellV (kd k) v k o) 2))), (g 5, .inl (cI, 7, .inl ((tellV (kd k) v k o) 3))), (g 6, .inl (cI, 7, .inl ((tellV (kd k) v k o) 4))), (g 7, .inl (cZ, 7, .inl ((tellV (kd k) v k o) 6))), (h 0, .inr (1, [.ref (h 1), .ref (h 2), .int (nI rk), .int (nI sl)])), (h 1, .inl (cI, 7, .inl (fun i9 => nI (kd i9)))), (h 2, .inl (cI, 175, .inl (fun i9 => nI (tn i9))))] _ := hP
    have hD : va_D A [(g 0, .inr (5, [.ref (g 1), .ref (g 2), .ref (g 3), .ref (g 4), .ref (g 5), .ref (g 6), .ref (g 7), .int mi, .long se])), (g 1, .inl (cI, 7, .inl ((tellV (kd k) v k o) 0))), (g 2, .inl (cI, 7, .inl ((tellV (kd k) v k o) 1))), (g 3, .inl (cI, 7, .inl ((tellV (kd k) v k o) 5))), (g 4, .inl (cI, 7, .inl ((tellV (kd k) v k o) 2))), (g 5, .inl (cI, 7, .inl ((tellV (kd k) v k o) 3))), (g 6, .inl (cI, 7, .inl ((tellV (kd k) v k o) 4))), (g 7, .inl (cZ, 7, .inl ((tellV (kd k) v k o) 6))), (h 0, .inr (1, [.ref (h 1), .ref (h 2), .int (nI rk), .int (nI sl)])), (h 1, .inl (cI, 7, .inl (fun i9 => nI (kd i9)))), (h 2, .inl (cI, 175, .inl (fun i9 => nI (tn i9))))] := hD
    refine lv_iload hx hb dX5_tell_35 (lv_at hl 0 rfl) ?_
    exact endI hx hb hr hlocks (()) (by rw [tellR, if_pos c_6]) (hP.sub [0, 1, 2, 3, 4, 5, 6, 7, 8, 9, 10] rfl) (hD.sub [0, 1, 2, 3, 4, 5, 6, 7, 8, 9, 10] (by decide) rfl) hS dX5_tell_37
  · skip
    refine lv_aload_n hx hb dX5_tell_9 rfl (lv_at hl 0 rfl) ?_
    refine va_get (D := G) (ci := 5) (v := .ref (g 7)) (C := RX5) (T := TX5) (N := 9) hx hb hts hin5 hown hK.1 hP 0 rfl rfl 6 (by decide) k_0 (fun _ h9 => h9) rfl dX5_tell_10 ?_
    refine lv_iload_n hx hb dX5_tell_13 rfl (lv_at hl 2 rfl) ?_
    refine lv_iconst (v := nI 0) hx hb dX5_tell_14 (by decide) ?_
    refine zst (f' := upd (v 6) k (nI 0)) hx hb hK hP hD hS 7 2 rfl rfl (j := k) (by omega) (by omega) (by rfl) (rfl) dX5_tell_15 (fun H locs hP hD hS => ?_)
    have hP : va_P G vwCl [(g 0, .inr (5, [.ref (g 1), .ref (g 2), .ref (g 3), .ref (g 4), .ref (g 5), .ref (g 6), .ref (g 7), .int mi, .long se])), (g 1, .inl (cI, 7, .inl ((up2 v 6 k (nI 0)) 0))), (g 2, .inl (cI, 7, .inl ((up2 v 6 k (nI 0)) 1))), (g 3, .inl (cI, 7, .inl ((up2 v 6 k (nI 0)) 5))), (g 4, .inl (cI, 7, .inl ((up2 v 6 k (nI 0)) 2))), (g 5, .inl (cI, 7, .inl ((up2 v 6 k (nI 0)) 3))), (g 6, .inl (cI, 7, .inl ((up2 v 6 k (nI 0)) 4))), (g 7, .inl (cZ, 7, .inl ((up2 v 6 k (nI 0)) 6))), (h 0, .inr (1, [.ref (h 1), .ref (h 2), .int (nI rk), .int (nI sl)])), (h 1, .inl (cI, 7, .inl (fun i9 => nI (kd i9)))), (h 2, .inl (cI, 175, .inl (fun i9 => nI (tn i9))))] _ := hP
    have hD : va_D A [(g 0, .inr (5, [.ref (g 1), .ref (g 2), .ref (g 3), .ref (g 4), .ref (g 5), .ref (g 6), .ref (g 7), .int mi, .long se])), (g 1, .inl (cI, 7, .inl ((up2 v 6 k (nI 0)) 0))), (g 2, .inl (cI, 7, .inl ((up2 v 6 k (nI 0)) 1))), (g 3, .inl (cI, 7, .inl ((up2 v 6 k (nI 0)) 5))), (g 4, .inl (cI, 7, .inl ((up2 v 6 k (nI 0)) 2))), (g 5, .inl (cI, 7, .inl ((up2 v 6 k (nI 0)) 3))), (g 6, .inl (cI, 7, .inl ((up2 v 6 k (nI 0)) 4))), (g 7, .inl (cZ, 7, .inl ((up2 v 6 k (nI 0)) 6))), (h 0, .inr (1, [.ref (h 1), .ref (h 2), .int (nI rk), .int (nI sl)])), (h 1, .inl (cI, 7, .inl (fun i9 => nI (kd i9)))), (h 2, .inl (cI, 175, .inl (fun i9 => nI (tn i9))))] := hD
    have eS : (up2 v 6 k (nI 0)) = tellV (kd k) v k o := (by rw [tellV, if_neg c_6])
    rw [eS] at hP hD
    have hP : va_P G vwCl [(g 0, .inr (5, [.ref (g 1), .ref (g 2), .ref (g 3), .ref (g 4), .ref (g 5), .ref (g 6), .ref (g 7), .int mi, .long se])), (g 1, .inl (cI, 7, .inl ((tellV (kd k) v k o) 0))), (g 2, .inl (cI, 7, .inl ((tellV (kd k) v k o) 1))), (g 3, .inl (cI, 7, .inl ((tellV (kd k) v k o) 5))), (g 4, .inl (cI, 7, .inl ((tellV (kd k) v k o) 2))), (g 5, .inl (cI, 7, .inl ((tellV (kd k) v k o) 3))), (g 6, .inl (cI, 7, .inl ((tellV (kd k) v k o) 4))), (g 7, .inl (cZ, 7, .inl ((tellV (kd k) v k o) 6))), (h 0, .inr (1, [.ref (h 1), .ref (h 2), .int (nI rk), .int (nI sl)])), (h 1, .inl (cI, 7, .inl (fun i9 => nI (kd i9)))), (h 2, .inl (cI, 175, .inl (fun i9 => nI (tn i9))))] _ := hP
    have hD : va_D A [(g 0, .inr (5, [.ref (g 1), .ref (g 2), .ref (g 3), .ref (g 4), .ref (g 5), .ref (g 6), .ref (g 7), .int mi, .long se])), (g 1, .inl (cI, 7, .inl ((tellV (kd k) v k o) 0))), (g 2, .inl (cI, 7, .inl ((tellV (kd k) v k o) 1))), (g 3, .inl (cI, 7, .inl ((tellV (kd k) v k o) 5))), (g 4, .inl (cI, 7, .inl ((tellV (kd k) v k o) 2))), (g 5, .inl (cI, 7, .inl ((tellV (kd k) v k o) 3))), (g 6, .inl (cI, 7, .inl ((tellV (kd k) v k o) 4))), (g 7, .inl (cZ, 7, .inl ((tellV (kd k) v k o) 6))), (h 0, .inr (1, [.ref (h 1), .ref (h 2), .int (nI rk), .int (nI sl)])), (h 1, .inl (cI, 7, .inl (fun i9 => nI (kd i9)))), (h 2, .inl (cI, 175, .inl (fun i9 => nI (tn i9))))] := hD
    refine lv_bipush (v := (-9)) hx hb dX5_tell_16 (by decide) ?_
    exact endI hx hb hr hlocks (()) (by rw [tellR, if_neg c_6]) (hP.sub [0, 1, 2, 3, 4, 5, 6, 7, 8, 9, 10] rfl) (hD.sub [0, 1, 2, 3, 4, 5, 6, 7, 8, 9, 10] (by decide) rfl) hS dX5_tell_18

set_option maxHeartbeats 4000000 in
set_option maxRecDepth 100000 in
theorem c_X5_giveOrder {l : Launch} {G : va_G} {cI cJ cZ cS : ClassId} (g : Nat → Nat) (v : Nat → Nat → Int32) (mi : Int32) (se : Int64) (h : Nat → Nat) (kd : Nat → Nat) (tn : Nat → Nat) (rk : Nat) (sl : Nat) (o : Nat) (hkd : kd 0 < 4) (ho : o < 5) : CV l G (kT cI cJ cZ cS) (S := Unit) yX5_giveOrder wsX5_giveOrder { frames := 2, cells := 0, slots := 0, locals := 47 } [.ref (g 0), .ref (h 0), .int (nI o)] [(g 0, .inr (5, [.ref (g 1), .ref (g 2), .ref (g 3), .ref (g 4), .ref (g 5), .ref (g 6), .ref (g 7), .int mi, .long se])), (g 1, .inl (cI, 7, .inl (v 0))), (g 2, .inl (cI, 7, .inl (v 1))), (g 3, .inl (cI, 7, .inl (v 5))), (g 4, .inl (cI, 7, .inl (v 2))), (g 5, .inl (cI, 7, .inl (v 3))), (g 6, .inl (cI, 7, .inl (v 4))), (g 7, .inl (cZ, 7, .inl (v 6))), (h 0, .inr (1, [.ref (h 1), .ref (h 2), .int (nI rk), .int (nI sl)])), (h 1, .inl (cI, 7, .inl (fun i9 => nI (kd i9)))), (h 2, .inl (cI, 175, .inl (fun i9 => nI (tn i9))))] (fun _ => True) (fun _ => [(g 0, .inr (5, [.ref (g 1), .ref (g 2), .ref (g 3), .ref (g 4), .ref (g 5), .ref (g 6), .ref (g 7), .int mi, .long se])), (g 1, .inl (cI, 7, .inl ((giveV (kd 0) v o) 0))), (g 2, .inl (cI, 7, .inl ((giveV (kd 0) v o) 1))), (g 3, .inl (cI, 7, .inl ((giveV (kd 0) v o) 5))), (g 4, .inl (cI, 7, .inl ((giveV (kd 0) v o) 2))), (g 5, .inl (cI, 7, .inl ((giveV (kd 0) v o) 3))), (g 6, .inl (cI, 7, .inl ((giveV (kd 0) v o) 4))), (g 7, .inl (cZ, 7, .inl ((giveV (kd 0) v o) 6))), (h 0, .inr (1, [.ref (h 1), .ref (h 2), .int (nI rk), .int (nI sl)])), (h 1, .inl (cI, 7, .inl (fun i9 => nI (kd i9)))), (h 2, .inl (cI, 175, .inl (fun i9 => nI (tn i9))))]) := by
  refine CV.of (cc := cX5_giveOrder) (maxL := 3) (by decide) rfl (Nat.le_of_ble_eq_true rfl) ?_
  intro p e s m below meth c A ls hB
  obtain ⟨hx, hb, hml, hr, hts, hown, hlocks, hmn, hK, hP, hD, hS, hA, hl⟩ := hB
  have hP : va_P G vwCl [(g 0, .inr (5, [.ref (g 1), .ref (g 2), .ref (g 3), .ref (g 4), .ref (g 5), .ref (g 6), .ref (g 7), .int mi, .long se])), (g 1, .inl (cI, 7, .inl (v 0))), (g 2, .inl (cI, 7, .inl (v 1))), (g 3, .inl (cI, 7, .inl (v 5))), (g 4, .inl (cI, 7, .inl (v 2))), (g 5, .inl (cI, 7, .inl (v 3))), (g 6, .inl (cI, 7, .inl (v 4))), (g 7, .inl (cZ, 7, .inl (v 6))), (h 0, .inr (1, [.ref (h 1), .ref (h 2), .int (nI rk), .int (nI sl)])), (h 1, .inl (cI, 7, .inl (fun i9 => nI (kd i9)))), (h 2, .inl (cI, 175, .inl (fun i9 => nI (tn i9))))] s.heap := hP
  have hD : va_D A [(g 0, .inr (5, [.ref (g 1), .ref (g 2), .ref (g 3), .ref (g 4), .ref (g 5), .ref (g 6), .ref (g 7), .int mi, .long se])), (g 1, .inl (cI, 7, .inl (v 0))), (g 2, .inl (cI, 7, .inl (v 1))), (g 3, .inl (cI, 7, .inl (v 5))), (g 4, .inl (cI, 7, .inl (v 2))), (g 5, .inl (cI, 7, .inl (v 3))), (g 6, .inl (cI, 7, .inl (v 4))), (g 7, .inl (cZ, 7, .inl (v 6))), (h 0, .inr (1, [.ref (h 1), .ref (h 2), .int (nI rk), .int (nI sl)])), (h 1, .inl (cI, 7, .inl (fun i9 => nI (kd i9)))), (h 2, .inl (cI, 175, .inl (fun i9 => nI (tn i9))))] := hD
  have hl : lv_has ls 3 [(0, .ref (g 0)), (1, .ref (h 0)), (2, .int (nI o))] := hl
  have k_0 := hts (.fieldLink RX5 18 "HearsayMarch$Scene" "heardNow" "[I") (by decide +kernel)
  have hin5 : ∀ w ∈ wsX50, w ∈ wsX5_giveOrder := by decide +kernel
  refine lv_aload_n hx hb dX5_giveOrder_0 rfl (lv_at hl 0 rfl) ?_
  refine va_get (D := G) (ci := 5) (v := .ref (g 3)) (C := RX5) (T := TX5) (N := 9) hx hb hts hin5 hown hK.1 hP 0 rfl rfl 2 (by decide) k_0 (fun _ h9 => h9) rfl dX5_giveOrder_1 ?_
  refine lv_iconst (v := nI 0) hx hb dX5_giveOrder_4 (by decide) ?_
  refine lv_aload_n hx hb dX5_giveOrder_5 rfl (lv_at hl 0 rfl) ?_
  refine lv_aload_n hx hb dX5_giveOrder_6 rfl (lv_at hl 1 rfl) ?_
  refine lv_iconst (v := nI 0) hx hb dX5_giveOrder_7 (by decide) ?_
  refine lv_iload_n hx hb dX5_giveOrder_8 rfl (lv_at hl 2 rfl) ?_
  refine aft_i (wr := []) (va_runV (As := [.ref (h 0), .int (nI 0), .int (nI o)]) (rest := [.int (nI 0), .ref (g 3)]) ⟨hx, hb, hml, hown, hts⟩ (c_X5_tell (g := g) (v := v) (mi := mi) (se := se) (h := h) (kd := kd) (tn := tn) (rk := rk) (sl := sl) (k := 0) (o := o) (hk := by first | assumption | omega | exact hok.1 _ (by omega) | exact hok.2.2 _ _ (by omega) (by omega) | exact hok.2.1) (hkd := by first | assumption | omega | exact hok.1 _ (by omega) | exact hok.2.2 _ _ (by omega) (by omega) | exact hok.2.1) (ho := by first | assumption | omega | exact hok.1 _ (by omega) | exact hok.2.2 _ _ (by omega) (by omega) | exact hok.2.1) _) (cwV 3 hts gX5_giveOrder_X5_tell rfl rfl rfl (by decide +kernel) ⟨Nat.le_of_ble_eq_true rfl, Nat.le_of_ble_eq_true rfl⟩) (preV (cq := (RX5, TX5, 9)) (q0 := 0) (ci := 5) hK hP hD [0, 1, 2, 3, 4, 5, 6, 7, 8, 9, 10] rfl rfl rfl rfl) rfl rfl hl.1 rfl (lv_room (Nat.le_of_ble_eq_true rfl)) dX5_giveOrder_9 ⟨Nat.le_of_ble_eq_true rfl, Nat.le_of_ble_eq_true rfl⟩) hP hD hS hA [0, 1, 2, 3, 4, 5, 6, 7, 8, 9, 10] [] rfl rfl rfl (by decide) (fun r_9 uu9 H locs hw hP hD hS => ?_)
  have hP : va_P G vwCl [(g 0, .inr (5, [.ref (g 1), .ref (g 2), .ref (g 3), .ref (g 4), .ref (g 5), .ref (g 6), .ref (g 7), .int mi, .long se])), (g 1, .inl (cI, 7, .inl ((tellV (kd 0) v 0 o) 0))), (g 2, .inl (cI, 7, .inl ((tellV (kd 0) v 0 o) 1))), (g 3, .inl (cI, 7, .inl ((tellV (kd 0) v 0 o) 5))), (g 4, .inl (cI, 7, .inl ((tellV (kd 0) v 0 o) 2))), (g 5, .inl (cI, 7, .inl ((tellV (kd 0) v 0 o) 3))), (g 6, .inl (cI, 7, .inl ((tellV (kd 0) v 0 o) 4))), (g 7, .inl (cZ, 7, .inl ((tellV (kd 0) v 0 o) 6))), (h 0, .inr (1, [.ref (h 1), .ref (h 2), .int (nI rk), .int (nI sl)])), (h 1, .inl (cI, 7, .inl (fun i9 => nI (kd i9)))), (h 2, .inl (cI, 175, .inl (fun i9 => nI (tn i9))))] _ := hP
  have hD : va_D A [(g 0, .inr (5, [.ref (g 1), .ref (g 2), .ref (g 3), .ref (g 4), .ref (g 5), .ref (g 6), .ref (g 7), .int mi, .long se])), (g 1, .inl (cI, 7, .inl ((tellV (kd 0) v 0 o) 0))), (g 2, .inl (cI, 7, .inl ((tellV (kd 0) v 0 o) 1))), (g 3, .inl (cI, 7, .inl ((tellV (kd 0) v 0 o) 5))), (g 4, .inl (cI, 7, .inl ((tellV (kd 0) v 0 o) 2))), (g 5, .inl (cI, 7, .inl ((tellV (kd 0) v 0 o) 3))), (g 6, .inl (cI, 7, .inl ((tellV (kd 0) v 0 o) 4))), (g 7, .inl (cZ, 7, .inl ((tellV (kd 0) v 0 o) 6))), (h 0, .inr (1, [.ref (h 1), .ref (h 2), .int (nI rk), .int (nI sl)])), (h 1, .inl (cI, 7, .inl (fun i9 => nI (kd i9)))), (h 2, .inl (cI, 175, .inl (fun i9 => nI (tn i9))))] := hD
  obtain rfl := hw
  refine top_i (y := tellR (kd 0) v 0 o) rfl ?_
  refine ast (f' := upd ((tellV (kd 0) v 0 o) 5) 0 (tellR (kd 0) v 0 o)) hx hb hK hP hD hS 3 0 rfl rfl (j := 0) (by omega) (by omega) (rfl) dX5_giveOrder_12 (fun H locs hP hD hS => ?_)
  have hP : va_P G vwCl [(g 0, .inr (5, [.ref (g 1), .ref (g 2), .ref (g 3), .ref (g 4), .ref (g 5), .ref (g 6), .ref (g 7), .int mi, .long se])), (g 1, .inl (cI, 7, .inl ((up2 (tellV (kd 0) v 0 o) 5 0 (tellR (kd 0) v 0 o)) 0))), (g 2, .inl (cI, 7, .inl ((up2 (tellV (kd 0) v 0 o) 5 0 (tellR (kd 0) v 0 o)) 1))), (g 3, .inl (cI, 7, .inl ((up2 (tellV (kd 0) v 0 o) 5 0 (tellR (kd 0) v 0 o)) 5))), (g 4, .inl (cI, 7, .inl ((up2 (tellV (kd 0) v 0 o) 5 0 (tellR (kd 0) v 0 o)) 2))), (g 5, .inl (cI, 7, .inl ((up2 (tellV (kd 0) v 0 o) 5 0 (tellR (kd 0) v 0 o)) 3))), (g 6, .inl (cI, 7, .inl ((up2 (tellV (kd 0) v 0 o) 5 0 (tellR (kd 0) v 0 o)) 4))), (g 7, .inl (cZ, 7, .inl ((up2 (tellV (kd 0) v 0 o) 5 0 (tellR (kd 0) v 0 o)) 6))), (h 0, .inr (1, [.ref (h 1), .ref (h 2), .int (nI rk), .int (nI sl)])), (h 1, .inl (cI, 7, .inl (fun i9 => nI (kd i9)))), (h 2, .inl (cI, 175, .inl (fun i9 => nI (tn i9))))] _ := hP
  have hD : va_D A [(g 0, .inr (5, [.ref (g 1), .ref (g 2), .ref (g 3), .ref (g 4), .ref (g 5), .ref (g 6), .ref (g 7), .int mi, .long se])), (g 1, .inl (cI, 7, .inl ((up2 (tellV (kd 0) v 0 o) 5 0 (tellR (kd 0) v 0 o)) 0))), (g 2, .inl (cI, 7, .inl ((up2 (tellV (kd 0) v 0 o) 5 0 (tellR (kd 0) v 0 o)) 1))), (g 3, .inl (cI, 7, .inl ((up2 (tellV (kd 0) v 0 o) 5 0 (tellR (kd 0) v 0 o)) 5))), (g 4, .inl (cI, 7, .inl ((up2 (tellV (kd 0) v 0 o) 5 0 (tellR (kd 0) v 0 o)) 2))), (g 5, .inl (cI, 7, .inl ((up2 (tellV (kd 0) v 0 o) 5 0 (tellR (kd 0) v 0 o)) 3))), (g 6, .inl (cI, 7, .inl ((up2 (tellV (kd 0) v 0 o) 5 0 (tellR (kd 0) v 0 o)) 4))), (g 7, .inl (cZ, 7, .inl ((up2 (tellV (kd 0) v 0 o) 5 0 (tellR (kd 0) v 0 o)) 6))), (h 0, .inr (1, [.ref (h 1), .ref (h 2), .int (nI rk), .int (nI sl)])), (h 1, .inl (cI, 7, .inl (fun i9 => nI (kd i9)))), (h 2, .inl (cI, 175, .inl (fun i9 => nI (tn i9))))] := hD
  have eS : (up2 (tellV (kd 0) v 0 o) 5 0 (tellR (kd 0) v 0 o)) = giveV (kd 0) v o := rfl
  rw [eS] at hP hD
  have hP : va_P G vwCl [(g 0, .inr (5, [.ref (g 1), .ref (g 2), .ref (g 3), .ref (g 4), .ref (g 5), .ref (g 6), .ref (g 7), .int mi, .long se])), (g 1, .inl (cI, 7, .inl ((giveV (kd 0) v o) 0))), (g 2, .inl (cI, 7, .inl ((giveV (kd 0) v o) 1))), (g 3, .inl (cI, 7, .inl ((giveV (kd 0) v o) 5))), (g 4, .inl (cI, 7, .inl ((giveV (kd 0) v o) 2))), (g 5, .inl (cI, 7, .inl ((giveV (kd 0) v o) 3))), (g 6, .inl (cI, 7, .inl ((giveV (kd 0) v o) 4))), (g 7, .inl (cZ, 7, .inl ((giveV (kd 0) v o) 6))), (h 0, .inr (1, [.ref (h 1), .ref (h 2), .int (nI rk), .int (nI sl)])), (h 1, .inl (cI, 7, .inl (fun i9 => nI (kd i9)))), (h 2, .inl (cI, 175, .inl (fun i9 => nI (tn i9))))] _ := hP
  have hD : va_D A [(g 0, .inr (5, [.ref (g 1), .ref (g 2), .ref (g 3), .ref (g 4), .ref (g 5), .ref (g 6), .ref (g 7), .int mi, .long se])), (g 1, .inl (cI, 7, .inl ((giveV (kd 0) v o) 0))), (g 2, .inl (cI, 7, .inl ((giveV (kd 0) v o) 1))), (g 3, .inl (cI, 7, .inl ((giveV (kd 0) v o) 5))), (g 4, .inl (cI, 7, .inl ((giveV (kd 0) v o) 2))), (g 5, .inl (cI, 7, .inl ((giveV (kd 0) v o) 3))), (g 6, .inl (cI, 7, .inl ((giveV (kd 0) v o) 4))), (g 7, .inl (cZ, 7, .inl ((giveV (kd 0) v o) 6))), (h 0, .inr (1, [.ref (h 1), .ref (h 2), .int (nI rk), .int (nI sl)])), (h 1, .inl (cI, 7, .inl (fun i9 => nI (kd i9)))), (h 2, .inl (cI, 175, .inl (fun i9 => nI (tn i9))))] := hD
  exact endV hx hb hr hlocks (()) (trivial) (hP.sub [0, 1, 2, 3, 4, 5, 6, 7, 8, 9, 10] rfl) (hD.sub [0, 1, 2, 3, 4, 5, 6, 7, 8, 9, 10] (by decide) rfl) hS dX5_giveOrder_13

set_option maxHeartbeats 4000000 in
set_option maxRecDepth 100000 in
theorem c_X5_overTheWay {l : Launch} {G : va_G} {cI cJ cZ cS : ClassId} (g : Nat → Nat) (v : Nat → Nat → Int32) (mi : Int32) (se : Int64) (h : Nat → Nat) (kd : Nat → Nat) (tn : Nat → Nat) (rk : Nat) (sl : Nat) (k : Nat) (u : Nat) (hok : ArmyOk kd tn) (hk : k < 7) (hu : u < 5) : CI l G (kT cI cJ cZ cS) (S := Unit) yX5_overTheWay wsX5_overTheWay { frames := 3, cells := 0, slots := 0, locals := 69 } [.ref (g 0), .ref (h 0), .int (nI k), .int (nI u)] [(g 0, .inr (5, [.ref (g 1), .ref (g 2), .ref (g 3), .ref (g 4), .ref (g 5), .ref (g 6), .ref (g 7), .int mi, .long se])), (g 1, .inl (cI, 7, .inl (v 0))), (g 2, .inl (cI, 7, .inl (v 1))), (g 3, .inl (cI, 7, .inl (v 5))), (g 4, .inl (cI, 7, .inl (v 2))), (g 5, .inl (cI, 7, .inl (v 3))), (g 6, .inl (cI, 7, .inl (v 4))), (g 7, .inl (cZ, 7, .inl (v 6))), (h 0, .inr (1, [.ref (h 1), .ref (h 2), .int (nI rk), .int (nI sl)])), (h 1, .inl (cI, 7, .inl (fun i9 => nI (kd i9)))), (h 2, .inl (cI, 175, .inl (fun i9 => nI (tn i9))))] (fun res _ => res = nI (wayO tn k u se)) (fun _ => [(g 0, .inr (5, [.ref (g 1), .ref (g 2), .ref (g 3), .ref (g 4), .ref (g 5), .ref (g 6), .ref (g 7), .int mi, .long (wayS tn k u se)])), (g 1, .inl (cI, 7, .inl (v 0))), (g 2, .inl (cI, 7, .inl (v 1))), (g 3, .inl (cI, 7, .inl (v 5))), (g 4, .inl (cI, 7, .inl (v 2))), (g 5, .inl (cI, 7, .inl (v 3))), (g 6, .inl (cI, 7, .inl (v 4))), (g 7, .inl (cZ, 7, .inl (v 6))), (h 0, .inr (1, [.ref (h 1), .ref (h 2), .int (nI rk), .int (nI sl)])), (h 1, .inl (cI, 7, .inl (fun i9 => nI (kd i9)))), (h 2, .inl (cI, 175, .inl (fun i9 => nI (tn i9))))]) := by
  refine CI.of (cc := cX5_overTheWay) (maxL := 7) (by decide) rfl (Nat.le_of_ble_eq_true rfl) ?_
  intro p e s m below meth c A ls hB
  obtain ⟨hx, hb, hml, hr, hts, hown, hlocks, hmn, hK, hP, hD, hS, hA, hl⟩ := hB
  have hP : va_P G vwCl [(g 0, .inr (5, [.ref (g 1), .ref (g 2), .ref (g 3), .ref (g 4), .ref (g 5), .ref (g 6), .ref (g 7), .int mi, .long se])), (g 1, .inl (cI, 7, .inl (v 0))), (g 2, .inl (cI, 7, .inl (v 1))), (g 3, .inl (cI, 7, .inl (v 5))), (g 4, .inl (cI, 7, .inl (v 2))), (g 5, .inl (cI, 7, .inl (v 3))), (g 6, .inl (cI, 7, .inl (v 4))), (g 7, .inl (cZ, 7, .inl (v 6))), (h 0, .inr (1, [.ref (h 1), .ref (h 2), .int (nI rk), .int (nI sl)])), (h 1, .inl (cI, 7, .inl (fun i9 => nI (kd i9)))), (h 2, .inl (cI, 175, .inl (fun i9 => nI (tn i9))))] s.heap := hP
  have hD : va_D A [(g 0, .inr (5, [.ref (g 1), .ref (g 2), .ref (g 3), .ref (g 4), .ref (g 5), .ref (g 6), .ref (g 7), .int mi, .long se])), (g 1, .inl (cI, 7, .inl (v 0))), (g 2, .inl (cI, 7, .inl (v 1))), (g 3, .inl (cI, 7, .inl (v 5))), (g 4, .inl (cI, 7, .inl (v 2))), (g 5, .inl (cI, 7, .inl (v 3))), (g 6, .inl (cI, 7, .inl (v 4))), (g 7, .inl (cZ, 7, .inl (v 6))), (h 0, .inr (1, [.ref (h 1), .ref (h 2), .int (nI rk), .int (nI sl)])), (h 1, .inl (cI, 7, .inl (fun i9 => nI (kd i9)))), (h 2, .inl (cI, 175, .inl (fun i9 => nI (tn i9))))] := hD
  have hl : lv_has ls 7 [(0, .ref (g 0)), (1, .ref (h 0)), (2, .int (nI k)), (3, .int (nI u))] := hl
  refine lv_aload_n hx hb dX5_overTheWay_0 rfl (lv_at hl 1 rfl) ?_
  refine lv_iload_n hx hb dX5_overTheWay_1 rfl (lv_at hl 2 rfl) ?_
  refine lv_iload_n hx hb dX5_overTheWay_2 rfl (lv_at hl 3 rfl) ?_
  refine aft_i (wr := [(g 0, .inr (5, [.ref (g 1), .ref (g 2), .ref (g 3), .ref (g 4), .ref (g 5), .ref (g 6), .ref (g 7), .int mi, .long se])), (g 1, .inl (cI, 7, .inl (v 0))), (g 2, .inl (cI, 7, .inl (v 1))), (g 3, .inl (cI, 7, .inl (v 5))), (g 4, .inl (cI, 7, .inl (v 2))), (g 5, .inl (cI, 7, .inl (v 3))), (g 6, .inl (cI, 7, .inl (v 4))), (g 7, .inl (cZ, 7, .inl (v 6)))]) (va_runV (As := [.int (nI k), .int (nI u)]) (rest := []) ⟨hx, hb, hml, hown, hts⟩ (c_X1_slipped (h := h) (kd := kd) (tn := tn) (rk := rk) (sl := sl) (k := k) (u := u) (hk := by first | assumption | omega | exact hok.1 _ (by omega) | exact hok.2.2 _ _ (by omega) (by omega) | exact hok.2.1) (hu := by first | assumption | omega | exact hok.1 _ (by omega) | exact hok.2.2 _ _ (by omega) (by omega) | exact hok.2.1) _) (cwV 2 hts gX5_overTheWay_X1_slipped rfl rfl rfl (by decide +kernel) ⟨Nat.le_of_ble_eq_true rfl, Nat.le_of_ble_eq_true rfl⟩) (preV (cq := (RX1, TX1, 4)) (q0 := 8) (ci := 1) hK hP hD [8, 9, 10] rfl rfl rfl rfl) rfl rfl hl.1 rfl (lv_room (Nat.le_of_ble_eq_true rfl)) dX5_overTheWay_3 ⟨Nat.le_of_ble_eq_true rfl, Nat.le_of_ble_eq_true rfl⟩) hP hD hS hA [8, 9, 10] [0, 1, 2, 3, 4, 5, 6, 7] rfl rfl rfl (by decide) (fun r_3 uu9 H locs hw hP hD hS => ?_)
  have hP : va_P G vwCl [(g 0, .inr (5, [.ref (g 1), .ref (g 2), .ref (g 3), .ref (g 4), .ref (g 5), .ref (g 6), .ref (g 7), .int mi, .long se])), (g 1, .inl (cI, 7, .inl (v 0))), (g 2, .inl (cI, 7, .inl (v 1))), (g 3, .inl (cI, 7, .inl (v 5))), (g 4, .inl (cI, 7, .inl (v 2))), (g 5, .inl (cI, 7, .inl (v 3))), (g 6, .inl (cI, 7, .inl (v 4))), (g 7, .inl (cZ, 7, .inl (v 6))), (h 0, .inr (1, [.ref (h 1), .ref (h 2), .int (nI rk), .int (nI sl)])), (h 1, .inl (cI, 7, .inl (fun i9 => nI (kd i9)))), (h 2, .inl (cI, 175, .inl (fun i9 => nI (tn i9))))] _ := hP
  have hD : va_D A [(g 0, .inr (5, [.ref (g 1), .ref (g 2), .ref (g 3), .ref (g 4), .ref (g 5), .ref (g 6), .ref (g 7), .int mi, .long se])), (g 1, .inl (cI, 7, .inl (v 0))), (g 2, .inl (cI, 7, .inl (v 1))), (g 3, .inl (cI, 7, .inl (v 5))), (g 4, .inl (cI, 7, .inl (v 2))), (g 5, .inl (cI, 7, .inl (v 3))), (g 6, .inl (cI, 7, .inl (v 4))), (g 7, .inl (cZ, 7, .inl (v 6))), (h 0, .inr (1, [.ref (h 1), .ref (h 2), .int (nI rk), .int (nI sl)])), (h 1, .inl (cI, 7, .inl (fun i9 => nI (kd i9)))), (h 2, .inl (cI, 175, .inl (fun i9 => nI (tn i9))))] := hD
  obtain rfl := hw
  refine top_i (y := nI (sumN (slT tn k u) 5)) rfl ?_
  have hs9 := hok.2.2 k u hk hu
  refine lv_if_ne (tgt := 11) hx hb dX5_overTheWay_6 (by decide) (fun c_6 => ?_) (fun c_6 => ?_)
  · skip
    have c_6 := z_neT c_6 (by omega)
    refine lv_aload_n hx hb dX5_overTheWay_11 rfl (lv_at hl 0 rfl) ?_
    refine aft_i (wr := [(h 0, .inr (1, [.ref (h 1), .ref (h 2), .int (nI rk), .int (nI sl)])), (h 1, .inl (cI, 7, .inl (fun i9 => nI (kd i9)))), (h 2, .inl (cI, 175, .inl (fun i9 => nI (tn i9))))]) (va_runV (As := []) (rest := []) ⟨hx, hb, hml, hown, hts⟩ (c_X5_draw (g := g) (v := v) (mi := mi) (se := se) _) (cwV 0 hts gX5_overTheWay_X5_draw rfl rfl rfl (by decide +kernel) ⟨Nat.le_of_ble_eq_true rfl, Nat.le_of_ble_eq_true rfl⟩) (preV (cq := (RX5, TX5, 9)) (q0 := 0) (ci := 5) hK hP hD [0, 1, 2, 3, 4, 5, 6, 7] rfl rfl rfl rfl) rfl rfl hl.1 rfl (lv_room (Nat.le_of_ble_eq_true rfl)) dX5_overTheWay_12 ⟨Nat.le_of_ble_eq_true rfl, Nat.le_of_ble_eq_true rfl⟩) hP hD hS hA [0, 1, 2, 3, 4, 5, 6, 7] [8, 9, 10] rfl rfl rfl (by decide) (fun r_12 uu9 H locs hw hP hD hS => ?_)
    have hP : va_P G vwCl [(h 0, .inr (1, [.ref (h 1), .ref (h 2), .int (nI rk), .int (nI sl)])), (h 1, .inl (cI, 7, .inl (fun i9 => nI (kd i9)))), (h 2, .inl (cI, 175, .inl (fun i9 => nI (tn i9)))), (g 0, .inr (5, [.ref (g 1), .ref (g 2), .ref (g 3), .ref (g 4), .ref (g 5), .ref (g 6), .ref (g 7), .int mi, .long (nxS se)])), (g 1, .inl (cI, 7, .inl (v 0))), (g 2, .inl (cI, 7, .inl (v 1))), (g 3, .inl (cI, 7, .inl (v 5))), (g 4, .inl (cI, 7, .inl (v 2))), (g 5, .inl (cI, 7, .inl (v 3))), (g 6, .inl (cI, 7, .inl (v 4))), (g 7, .inl (cZ, 7, .inl (v 6)))] _ := hP
    have hD : va_D A [(h 0, .inr (1, [.ref (h 1), .ref (h 2), .int (nI rk), .int (nI sl)])), (h 1, .inl (cI, 7, .inl (fun i9 => nI (kd i9)))), (h 2, .inl (cI, 175, .inl (fun i9 => nI (tn i9)))), (g 0, .inr (5, [.ref (g 1), .ref (g 2), .ref (g 3), .ref (g 4), .ref (g 5), .ref (g 6), .ref (g 7), .int mi, .long (nxS se)])), (g 1, .inl (cI, 7, .inl (v 0))), (g 2, .inl (cI, 7, .inl (v 1))), (g 3, .inl (cI, 7, .inl (v 5))), (g 4, .inl (cI, 7, .inl (v 2))), (g 5, .inl (cI, 7, .inl (v 3))), (g 6, .inl (cI, 7, .inl (v 4))), (g 7, .inl (cZ, 7, .inl (v 6)))] := hD
    obtain rfl := hw
    refine top_i (y := nI (drN (nxS se))) rfl ?_
    have hd9 := drN_lt (nxS se)
    refine lv_istore (lv' := [(4, .int (nI (drN (nxS se)))), (0, .ref (g 0)), (1, .ref (h 0)), (2, .int (nI k)), (3, .int (nI u))]) hx hb dX5_overTheWay_15 hl (by decide) rfl (fun ls hl => ?_)
    rw [show nxS se = wayS tn k u se by rw [wayS, if_neg c_6]] at hP hD
    have hP : va_P G vwCl [(h 0, .inr (1, [.ref (h 1), .ref (h 2), .int (nI rk), .int (nI sl)])), (h 1, .inl (cI, 7, .inl (fun i9 => nI (kd i9)))), (h 2, .inl (cI, 175, .inl (fun i9 => nI (tn i9)))), (g 0, .inr (5, [.ref (g 1), .ref (g 2), .ref (g 3), .ref (g 4), .ref (g 5), .ref (g 6), .ref (g 7), .int mi, .long (wayS tn k u se)])), (g 1, .inl (cI, 7, .inl (v 0))), (g 2, .inl (cI, 7, .inl (v 1))), (g 3, .inl (cI, 7, .inl (v 5))), (g 4, .inl (cI, 7, .inl (v 2))), (g 5, .inl (cI, 7, .inl (v 3))), (g 6, .inl (cI, 7, .inl (v 4))), (g 7, .inl (cZ, 7, .inl (v 6)))] _ := hP
    have hD : va_D A [(h 0, .inr (1, [.ref (h 1), .ref (h 2), .int (nI rk), .int (nI sl)])), (h 1, .inl (cI, 7, .inl (fun i9 => nI (kd i9)))), (h 2, .inl (cI, 175, .inl (fun i9 => nI (tn i9)))), (g 0, .inr (5, [.ref (g 1), .ref (g 2), .ref (g 3), .ref (g 4), .ref (g 5), .ref (g 6), .ref (g 7), .int mi, .long (wayS tn k u se)])), (g 1, .inl (cI, 7, .inl (v 0))), (g 2, .inl (cI, 7, .inl (v 1))), (g 3, .inl (cI, 7, .inl (v 5))), (g 4, .inl (cI, 7, .inl (v 2))), (g 5, .inl (cI, 7, .inl (v 3))), (g 6, .inl (cI, 7, .inl (v 4))), (g 7, .inl (cZ, 7, .inl (v 6)))] := hD
    refine lv_iconst (v := nI 0) hx hb dX5_overTheWay_17 (by decide) ?_
    refine lv_istore (lv' := [(5, .int (nI 0)), (4, .int (nI (drN (nxS se)))), (0, .ref (g 0)), (1, .ref (h 0)), (2, .int (nI k)), (3, .int (nI u))]) hx hb dX5_overTheWay_18 hl (by decide) rfl (fun ls hl => ?_)
    refine lv_iconst (v := nI 0) hx hb dX5_overTheWay_20 (by decide) ?_
    refine lv_istore (lv' := [(6, .int (nI 0)), (5, .int (nI 0)), (4, .int (nI (drN (nxS se)))), (0, .ref (g 0)), (1, .ref (h 0)), (2, .int (nI k)), (3, .int (nI u))]) hx hb dX5_overTheWay_21 hl (by decide) rfl (fun ls hl => ?_)
    refine loopW (σ := Nat) 23 (fun (w : Nat) H locs ls => (w ≤ 5) ∧ (∀ z, z < w → sumN (slT tn k u) (z + 1) ≤ drN (nxS se)) ∧ va_P G vwCl [(h 0, .inr (1, [.ref (h 1), .ref (h 2), .int (nI rk), .int (nI sl)])), (h 1, .inl (cI, 7, .inl (fun i9 => nI (kd i9)))), (h 2, .inl (cI, 175, .inl (fun i9 => nI (tn i9)))), (g 0, .inr (5, [.ref (g 1), .ref (g 2), .ref (g 3), .ref (g 4), .ref (g 5), .ref (g 6), .ref (g 7), .int mi, .long (wayS tn k u se)])), (g 1, .inl (cI, 7, .inl (v 0))), (g 2, .inl (cI, 7, .inl (v 1))), (g 3, .inl (cI, 7, .inl (v 5))), (g 4, .inl (cI, 7, .inl (v 2))), (g 5, .inl (cI, 7, .inl (v 3))), (g 6, .inl (cI, 7, .inl (v 4))), (g 7, .inl (cZ, 7, .inl (v 6)))] H ∧ va_D A [(h 0, .inr (1, [.ref (h 1), .ref (h 2), .int (nI rk), .int (nI sl)])), (h 1, .inl (cI, 7, .inl (fun i9 => nI (kd i9)))), (h 2, .inl (cI, 175, .inl (fun i9 => nI (tn i9)))), (g 0, .inr (5, [.ref (g 1), .ref (g 2), .ref (g 3), .ref (g 4), .ref (g 5), .ref (g 6), .ref (g 7), .int mi, .long (wayS tn k u se)])), (g 1, .inl (cI, 7, .inl (v 0))), (g 2, .inl (cI, 7, .inl (v 1))), (g 3, .inl (cI, 7, .inl (v 5))), (g 4, .inl (cI, 7, .inl (v 2))), (g 5, .inl (cI, 7, .inl (v 3))), (g 6, .inl (cI, 7, .inl (v 4))), (g 7, .inl (cZ, 7, .inl (v 6)))] ∧ va_S A s.heap H locs ∧ lv_has ls 7 [(6, .int (nI w)), (5, .int (nI (sumN (slT tn k u) w))), (4, .int (nI (drN (nxS se)))), (0, .ref (g 0)), (1, .ref (h 0)), (2, .int (nI k)), (3, .int (nI u))]) (fun (w : Nat) => []) (fun (w : Nat) => 5 - w) ?_ 0 ⟨by first | assumption | omega | (simp; done), by first | assumption | omega | (simp; done), hP.sub [0, 1, 2, 3, 4, 5, 6, 7, 8, 9, 10] rfl, hD.sub [0, 1, 2, 3, 4, 5, 6, 7, 8, 9, 10] (by decide) rfl, hS, lv_sub hl [0, 1, 2, 3, 4, 5, 6] rfl⟩
    intro xx9 H locs ls hI ih_23
    obtain ⟨w, rfl⟩ : ∃ z, z = xx9 := ⟨_, rfl⟩
    obtain ⟨hw, hno, hP, hD, hS, hl⟩ := hI
    have hw : w ≤ 5 := hw
    have hno : ∀ z, z < w → sumN (slT tn k u) (z + 1) ≤ drN (nxS se) := hno
    have hP : va_P G vwCl [(h 0, .inr (1, [.ref (h 1), .ref (h 2), .int (nI rk), .int (nI sl)])), (h 1, .inl (cI, 7, .inl (fun i9 => nI (kd i9)))), (h 2, .inl (cI, 175, .inl (fun i9 => nI (tn i9)))), (g 0, .inr (5, [.ref (g 1), .ref (g 2), .ref (g 3), .ref (g 4), .ref (g 5), .ref (g 6), .ref (g 7), .int mi, .long (wayS tn k u se)])), (g 1, .inl (cI, 7, .inl (v 0))), (g 2, .inl (cI, 7, .inl (v 1))), (g 3, .inl (cI, 7, .inl (v 5))), (g 4, .inl (cI, 7, .inl (v 2))), (g 5, .inl (cI, 7, .inl (v 3))), (g 6, .inl (cI, 7, .inl (v 4))), (g 7, .inl (cZ, 7, .inl (v 6)))] _ := hP
    have hD : va_D A [(h 0, .inr (1, [.ref (h 1), .ref (h 2), .int (nI rk), .int (nI sl)])), (h 1, .inl (cI, 7, .inl (fun i9 => nI (kd i9)))), (h 2, .inl (cI, 175, .inl (fun i9 => nI (tn i9)))), (g 0, .inr (5, [.ref (g 1), .ref (g 2), .ref (g 3), .ref (g 4), .ref (g 5), .ref (g 6), .ref (g 7), .int mi, .long (wayS tn k u se)])), (g 1, .inl (cI, 7, .inl (v 0))), (g 2, .inl (cI, 7, .inl (v 1))), (g 3, .inl (cI, 7, .inl (v 5))), (g 4, .inl (cI, 7, .inl (v 2))), (g 5, .inl (cI, 7, .inl (v 3))), (g 6, .inl (cI, 7, .inl (v 4))), (g 7, .inl (cZ, 7, .inl (v 6)))] := hD
    have hl : lv_has ls 7 [(6, .int (nI w)), (5, .int (nI (sumN (slT tn k u) w))), (4, .int (nI (drN (nxS se)))), (0, .ref (g 0)), (1, .ref (h 0)), (2, .int (nI k)), (3, .int (nI u))] := hl
    refine lv_iload hx hb dX5_overTheWay_23 (lv_at hl 0 rfl) ?_
    refine lv_iconst (v := nI 5) hx hb dX5_overTheWay_25 (by decide) ?_
    refine lv_icmp_ge (tgt := 58) hx hb dX5_overTheWay_26 (by decide) (fun c_26 => ?_) (fun c_26 => ?_)
    · skip
      have c_26 := n_geT c_26 (by omega) (by omega)
      refine lv_iload_n hx hb dX5_overTheWay_58 rfl (lv_at hl 6 rfl) ?_
      exact endI hx hb hr hlocks (()) (by rw [wayO, if_neg c_6, pickN_miss (fun z hz => hno z (by omega))]) (hP.sub [3, 4, 5, 6, 7, 8, 9, 10, 0, 1, 2] rfl) (hD.sub [3, 4, 5, 6, 7, 8, 9, 10, 0, 1, 2] (by decide) rfl) hS dX5_overTheWay_59
    · skip
      have c_26 := n_geF c_26 (by omega) (by omega)
      refine lv_iload hx hb dX5_overTheWay_29 (lv_at hl 1 rfl) ?_
      refine lv_aload_n hx hb dX5_overTheWay_31 rfl (lv_at hl 4 rfl) ?_
      refine lv_iload_n hx hb dX5_overTheWay_32 rfl (lv_at hl 5 rfl) ?_
      refine lv_iload_n hx hb dX5_overTheWay_33 rfl (lv_at hl 6 rfl) ?_
      refine lv_iload hx hb dX5_overTheWay_34 (lv_at hl 0 rfl) ?_
      refine aft_i (wr := [(g 0, .inr (5, [.ref (g 1), .ref (g 2), .ref (g 3), .ref (g 4), .ref (g 5), .ref (g 6), .ref (g 7), .int mi, .long (wayS tn k u se)])), (g 1, .inl (cI, 7, .inl (v 0))), (g 2, .inl (cI, 7, .inl (v 1))), (g 3, .inl (cI, 7, .inl (v 5))), (g 4, .inl (cI, 7, .inl (v 2))), (g 5, .inl (cI, 7, .inl (v 3))), (g 6, .inl (cI, 7, .inl (v 4))), (g 7, .inl (cZ, 7, .inl (v 6)))]) (va_runV (As := [.int (nI k), .int (nI u), .int (nI w)]) (rest := [.int (nI (sumN (slT tn k u) w))]) ⟨hx, hb, hml, hown, hts⟩ (c_X1_slipTenths (h := h) (kd := kd) (tn := tn) (rk := rk) (sl := sl) (k := k) (u := u) (v := w) (hk := by first | assumption | omega | exact hok.1 _ (by omega) | exact hok.2.2 _ _ (by omega) (by omega) | exact hok.2.1) (hu := by first | assumption | omega | exact hok.1 _ (by omega) | exact hok.2.2 _ _ (by omega) (by omega) | exact hok.2.1) (hv := by first | assumption | omega | exact hok.1 _ (by omega) | exact hok.2.2 _ _ (by omega) (by omega) | exact hok.2.1) _) (cwV 3 hts gX5_overTheWay_X1_slipTenths rfl rfl rfl (by decide +kernel) ⟨Nat.le_of_ble_eq_true rfl, Nat.le_of_ble_eq_true rfl⟩) (preV (cq := (RX1, TX1, 4)) (q0 := 0) (ci := 1) hK hP hD [0, 1, 2] rfl rfl rfl rfl) rfl rfl hl.1 rfl (lv_room (Nat.le_of_ble_eq_true rfl)) dX5_overTheWay_36 ⟨Nat.le_of_ble_eq_true rfl, Nat.le_of_ble_eq_true rfl⟩) hP hD hS hA [0, 1, 2] [3, 4, 5, 6, 7, 8, 9, 10] rfl rfl rfl (by decide) (fun r_36 uu9 H locs hw hP hD hS => ?_)
      have hP : va_P G vwCl [(g 0, .inr (5, [.ref (g 1), .ref (g 2), .ref (g 3), .ref (g 4), .ref (g 5), .ref (g 6), .ref (g 7), .int mi, .long (wayS tn k u se)])), (g 1, .inl (cI, 7, .inl (v 0))), (g 2, .inl (cI, 7, .inl (v 1))), (g 3, .inl (cI, 7, .inl (v 5))), (g 4, .inl (cI, 7, .inl (v 2))), (g 5, .inl (cI, 7, .inl (v 3))), (g 6, .inl (cI, 7, .inl (v 4))), (g 7, .inl (cZ, 7, .inl (v 6))), (h 0, .inr (1, [.ref (h 1), .ref (h 2), .int (nI rk), .int (nI sl)])), (h 1, .inl (cI, 7, .inl (fun i9 => nI (kd i9)))), (h 2, .inl (cI, 175, .inl (fun i9 => nI (tn i9))))] _ := hP
      have hD : va_D A [(g 0, .inr (5, [.ref (g 1), .ref (g 2), .ref (g 3), .ref (g 4), .ref (g 5), .ref (g 6), .ref (g 7), .int mi, .long (wayS tn k u se)])), (g 1, .inl (cI, 7, .inl (v 0))), (g 2, .inl (cI, 7, .inl (v 1))), (g 3, .inl (cI, 7, .inl (v 5))), (g 4, .inl (cI, 7, .inl (v 2))), (g 5, .inl (cI, 7, .inl (v 3))), (g 6, .inl (cI, 7, .inl (v 4))), (g 7, .inl (cZ, 7, .inl (v 6))), (h 0, .inr (1, [.ref (h 1), .ref (h 2), .int (nI rk), .int (nI sl)])), (h 1, .inl (cI, 7, .inl (fun i9 => nI (kd i9)))), (h 2, .inl (cI, 175, .inl (fun i9 => nI (tn i9))))] := hD
      obtain rfl := hw
      refine top_i (y := nI (slT tn k u w)) rfl ?_
      refine lv_iadd hx hb dX5_overTheWay_39 ?_
      refine top_i (y := nI (sumN (slT tn k u) w + (slT tn k u w))) (nI_add _ _) ?_
      refine top_i (y := nI (sumN (slT tn k u) (w + 1))) (rfl) ?_
      have hw9 := sumN_le5 (slT tn k u) (n := w + 1) (by omega)
      refine lv_istore (lv' := [(5, .int (nI (sumN (slT tn k u) (w + 1)))), (6, .int (nI w)), (4, .int (nI (drN (nxS se)))), (0, .ref (g 0)), (1, .ref (h 0)), (2, .int (nI k)), (3, .int (nI u))]) hx hb dX5_overTheWay_40 hl (by decide) rfl (fun ls hl => ?_)
      refine lv_iload hx hb dX5_overTheWay_42 (lv_at hl 2 rfl) ?_
      refine lv_iload hx hb dX5_overTheWay_44 (lv_at hl 0 rfl) ?_
      refine lv_icmp_ge (tgt := 52) hx hb dX5_overTheWay_46 (by decide) (fun c_46 => ?_) (fun c_46 => ?_)
      · skip
        have c_46 := n_geT c_46 (by omega) (by omega)
        refine lv_iinc (v := nI (w + 1)) (lv' := [(6, .int (nI (w + 1))), (5, .int (nI (sumN (slT tn k u) (w + 1)))), (4, .int (nI (drN (nxS se)))), (0, .ref (g 0)), (1, .ref (h 0)), (2, .int (nI k)), (3, .int (nI u))]) hx hb dX5_overTheWay_52 hl (k := 1) rfl (nI_inc _ 1 1 (by decide)) (by decide) rfl (fun ls hl => ?_)
        refine lv_goto (tgt := 23) hx hb dX5_overTheWay_55 (by decide) ?_
        exact ih_23 (w + 1) _ _ _ (by first | omega | (simp only []; omega) | (show _ < _; omega)) ⟨by first | assumption | omega | (simp; done), lt_s hno c_46, hP.sub [8, 9, 10, 0, 1, 2, 3, 4, 5, 6, 7] rfl, hD.sub [8, 9, 10, 0, 1, 2, 3, 4, 5, 6, 7] (by decide) rfl, hS, lv_sub hl [0, 1, 2, 3, 4, 5, 6] rfl⟩
      · skip
        have c_46 := n_geF c_46 (by omega) (by omega)
        refine lv_iload hx hb dX5_overTheWay_49 (lv_at hl 1 rfl) ?_
        exact endI hx hb hr hlocks (()) (by rw [wayO, if_neg c_6, pickN_hit (by omega) hno c_46]) (hP.sub [0, 1, 2, 3, 4, 5, 6, 7, 8, 9, 10] rfl) (hD.sub [0, 1, 2, 3, 4, 5, 6, 7, 8, 9, 10] (by decide) rfl) hS dX5_overTheWay_51
  · skip
    have c_6 := z_neF c_6 (by omega)
    rw [show se = wayS tn k u se by rw [wayS, if_pos c_6]] at hP hD
    have hP : va_P G vwCl [(g 0, .inr (5, [.ref (g 1), .ref (g 2), .ref (g 3), .ref (g 4), .ref (g 5), .ref (g 6), .ref (g 7), .int mi, .long (wayS tn k u se)])), (g 1, .inl (cI, 7, .inl (v 0))), (g 2, .inl (cI, 7, .inl (v 1))), (g 3, .inl (cI, 7, .inl (v 5))), (g 4, .inl (cI, 7, .inl (v 2))), (g 5, .inl (cI, 7, .inl (v 3))), (g 6, .inl (cI, 7, .inl (v 4))), (g 7, .inl (cZ, 7, .inl (v 6))), (h 0, .inr (1, [.ref (h 1), .ref (h 2), .int (nI rk), .int (nI sl)])), (h 1, .inl (cI, 7, .inl (fun i9 => nI (kd i9)))), (h 2, .inl (cI, 175, .inl (fun i9 => nI (tn i9))))] _ := hP
    have hD : va_D A [(g 0, .inr (5, [.ref (g 1), .ref (g 2), .ref (g 3), .ref (g 4), .ref (g 5), .ref (g 6), .ref (g 7), .int mi, .long (wayS tn k u se)])), (g 1, .inl (cI, 7, .inl (v 0))), (g 2, .inl (cI, 7, .inl (v 1))), (g 3, .inl (cI, 7, .inl (v 5))), (g 4, .inl (cI, 7, .inl (v 2))), (g 5, .inl (cI, 7, .inl (v 3))), (g 6, .inl (cI, 7, .inl (v 4))), (g 7, .inl (cZ, 7, .inl (v 6))), (h 0, .inr (1, [.ref (h 1), .ref (h 2), .int (nI rk), .int (nI sl)])), (h 1, .inl (cI, 7, .inl (fun i9 => nI (kd i9)))), (h 2, .inl (cI, 175, .inl (fun i9 => nI (tn i9))))] := hD
    refine lv_iload_n hx hb dX5_overTheWay_9 rfl (lv_at hl 3 rfl) ?_
    exact endI hx hb hr hlocks (()) (by rw [wayO, if_pos c_6]) (hP.sub [0, 1, 2, 3, 4, 5, 6, 7, 8, 9, 10] rfl) (hD.sub [0, 1, 2, 3, 4, 5, 6, 7, 8, 9, 10] (by decide) rfl) hS dX5_overTheWay_10

set_option maxHeartbeats 4000000 in
set_option maxRecDepth 100000 in
theorem c_X5_walk {l : Launch} {G : va_G} {cI cJ cZ cS : ClassId} (g : Nat → Nat) (v : Nat → Nat → Int32) (mi : Int32) (se : Int64) (k : Nat) (hk : k < 7) : CV l G (kT cI cJ cZ cS) (S := Unit) yX5_walk wsX5_walk { frames := 0, cells := 0, slots := 0, locals := 0 } [.ref (g 0), .int (nI k)] [(g 0, .inr (5, [.ref (g 1), .ref (g 2), .ref (g 3), .ref (g 4), .ref (g 5), .ref (g 6), .ref (g 7), .int mi, .long se])), (g 1, .inl (cI, 7, .inl (v 0))), (g 2, .inl (cI, 7, .inl (v 1))), (g 3, .inl (cI, 7, .inl (v 5))), (g 4, .inl (cI, 7, .inl (v 2))), (g 5, .inl (cI, 7, .inl (v 3))), (g 6, .inl (cI, 7, .inl (v 4))), (g 7, .inl (cZ, 7, .inl (v 6)))] (fun _ => True) (fun _ => [(g 0, .inr (5, [.ref (g 1), .ref (g 2), .ref (g 3), .ref (g 4), .ref (g 5), .ref (g 6), .ref (g 7), .int mi, .long se])), (g 1, .inl (cI, 7, .inl ((walkV v k) 0))), (g 2, .inl (cI, 7, .inl ((walkV v k) 1))), (g 3, .inl (cI, 7, .inl ((walkV v k) 5))), (g 4, .inl (cI, 7, .inl ((walkV v k) 2))), (g 5, .inl (cI, 7, .inl ((walkV v k) 3))), (g 6, .inl (cI, 7, .inl ((walkV v k) 4))), (g 7, .inl (cZ, 7, .inl ((walkV v k) 6)))]) := by
  refine CV.of (cc := cX5_walk) (maxL := 2) (by decide) rfl (Nat.le_of_ble_eq_true rfl) ?_
  intro p e s m below meth c A ls hB
  obtain ⟨hx, hb, hml, hr, hts, hown, hlocks, hmn, hK, hP, hD, hS, hA, hl⟩ := hB
  have hP : va_P G vwCl [(g 0, .inr (5, [.ref (g 1), .ref (g 2), .ref (g 3), .ref (g 4), .ref (g 5), .ref (g 6), .ref (g 7), .int mi, .long se])), (g 1, .inl (cI, 7, .inl (v 0))), (g 2, .inl (cI, 7, .inl (v 1))), (g 3, .inl (cI, 7, .inl (v 5))), (g 4, .inl (cI, 7, .inl (v 2))), (g 5, .inl (cI, 7, .inl (v 3))), (g 6, .inl (cI, 7, .inl (v 4))), (g 7, .inl (cZ, 7, .inl (v 6)))] s.heap := hP
  have hD : va_D A [(g 0, .inr (5, [.ref (g 1), .ref (g 2), .ref (g 3), .ref (g 4), .ref (g 5), .ref (g 6), .ref (g 7), .int mi, .long se])), (g 1, .inl (cI, 7, .inl (v 0))), (g 2, .inl (cI, 7, .inl (v 1))), (g 3, .inl (cI, 7, .inl (v 5))), (g 4, .inl (cI, 7, .inl (v 2))), (g 5, .inl (cI, 7, .inl (v 3))), (g 6, .inl (cI, 7, .inl (v 4))), (g 7, .inl (cZ, 7, .inl (v 6)))] := hD
  have hl : lv_has ls 2 [(0, .ref (g 0)), (1, .int (nI k))] := hl
  have k_0 := hts (.fieldLink RX5 21 "HearsayMarch$Scene" "does" "[I") (by decide +kernel)
  have k_1 := hts (.fieldLink RX5 24 "HearsayMarch$Scene" "east" "[I") (by decide +kernel)
  have k_2 := hts (.fieldLink RX5 27 "HearsayMarch$Scene" "north" "[I") (by decide +kernel)
  have hin5 : ∀ w ∈ wsX50, w ∈ wsX5_walk := by decide +kernel
  refine lv_aload_n hx hb dX5_walk_0 rfl (lv_at hl 0 rfl) ?_
  refine va_get (D := G) (ci := 5) (v := .ref (g 4)) (C := RX5) (T := TX5) (N := 9) hx hb hts hin5 hown hK.1 hP 0 rfl rfl 3 (by decide) k_0 (fun _ h9 => h9) rfl dX5_walk_1 ?_
  refine lv_iload_n hx hb dX5_walk_4 rfl (lv_at hl 1 rfl) ?_
  refine ald hx hb hK hP 4 0 rfl rfl (j := k) (by omega) (by omega) dX5_walk_5 ?_
  refine lv_iconst (v := nI 1) hx hb dX5_walk_6 (by decide) ?_
  refine lv_icmp_ne (tgt := 23) hx hb dX5_walk_7 (by decide) (fun c_7 => ?_) (fun c_7 => ?_)
  · skip
    refine lv_aload_n hx hb dX5_walk_23 rfl (lv_at hl 0 rfl) ?_
    refine va_get (D := G) (ci := 5) (v := .ref (g 4)) (C := RX5) (T := TX5) (N := 9) hx hb hts hin5 hown hK.1 hP 0 rfl rfl 3 (by decide) k_0 (fun _ h9 => h9) rfl dX5_walk_24 ?_
    refine lv_iload_n hx hb dX5_walk_27 rfl (lv_at hl 1 rfl) ?_
    refine ald hx hb hK hP 4 0 rfl rfl (j := k) (by omega) (by omega) dX5_walk_28 ?_
    refine lv_iconst (v := nI 2) hx hb dX5_walk_29 (by decide) ?_
    refine lv_icmp_ne (tgt := 46) hx hb dX5_walk_30 (by decide) (fun c_30 => ?_) (fun c_30 => ?_)
    · skip
      refine lv_aload_n hx hb dX5_walk_46 rfl (lv_at hl 0 rfl) ?_
      refine va_get (D := G) (ci := 5) (v := .ref (g 4)) (C := RX5) (T := TX5) (N := 9) hx hb hts hin5 hown hK.1 hP 0 rfl rfl 3 (by decide) k_0 (fun _ h9 => h9) rfl dX5_walk_47 ?_
      refine lv_iload_n hx hb dX5_walk_50 rfl (lv_at hl 1 rfl) ?_
      refine ald hx hb hK hP 4 0 rfl rfl (j := k) (by omega) (by omega) dX5_walk_51 ?_
      refine lv_iconst (v := nI 3) hx hb dX5_walk_52 (by decide) ?_
      refine lv_icmp_ne (tgt := 66) hx hb dX5_walk_53 (by decide) (fun c_53 => ?_) (fun c_53 => ?_)
      · skip
        have eS : v = walkV v k := by first | exact walkV_1 c_7 | exact walkV_2 c_7 c_30 | exact walkV_3 c_7 c_30 c_53 | exact walkV_0 c_7 c_30 c_53
        rw [eS] at hP hD
        have hP : va_P G vwCl [(g 0, .inr (5, [.ref (g 1), .ref (g 2), .ref (g 3), .ref (g 4), .ref (g 5), .ref (g 6), .ref (g 7), .int mi, .long se])), (g 1, .inl (cI, 7, .inl ((walkV v k) 0))), (g 2, .inl (cI, 7, .inl ((walkV v k) 1))), (g 3, .inl (cI, 7, .inl ((walkV v k) 5))), (g 4, .inl (cI, 7, .inl ((walkV v k) 2))), (g 5, .inl (cI, 7, .inl ((walkV v k) 3))), (g 6, .inl (cI, 7, .inl ((walkV v k) 4))), (g 7, .inl (cZ, 7, .inl ((walkV v k) 6)))] _ := hP
        have hD : va_D A [(g 0, .inr (5, [.ref (g 1), .ref (g 2), .ref (g 3), .ref (g 4), .ref (g 5), .ref (g 6), .ref (g 7), .int mi, .long se])), (g 1, .inl (cI, 7, .inl ((walkV v k) 0))), (g 2, .inl (cI, 7, .inl ((walkV v k) 1))), (g 3, .inl (cI, 7, .inl ((walkV v k) 5))), (g 4, .inl (cI, 7, .inl ((walkV v k) 2))), (g 5, .inl (cI, 7, .inl ((walkV v k) 3))), (g 6, .inl (cI, 7, .inl ((walkV v k) 4))), (g 7, .inl (cZ, 7, .inl ((walkV v k) 6)))] := hD
        exact endV hx hb hr hlocks (()) (trivial) (hP.sub [0, 1, 2, 3, 4, 5, 6, 7] rfl) (hD.sub [0, 1, 2, 3, 4, 5, 6, 7] (by decide) rfl) hS dX5_walk_66
      · skip
        refine lv_aload_n hx hb dX5_walk_56 rfl (lv_at hl 0 rfl) ?_
        refine va_get (D := G) (ci := 5) (v := .ref (g 5)) (C := RX5) (T := TX5) (N := 9) hx hb hts hin5 hown hK.1 hP 0 rfl rfl 4 (by decide) k_1 (fun _ h9 => h9) rfl dX5_walk_57 ?_
        refine lv_iload_n hx hb dX5_walk_60 rfl (lv_at hl 1 rfl) ?_
        refine lv_dup2_11 hx hb dX5_walk_61 rfl rfl ?_
        refine ald hx hb hK hP 5 0 rfl rfl (j := k) (by omega) (by omega) dX5_walk_62 ?_
        refine lv_iconst (v := nI 1) hx hb dX5_walk_63 (by decide) ?_
        refine lv_iadd hx hb dX5_walk_64 ?_
        refine ast (f' := upd (v 3) k (((v 3) k) + (nI 1))) hx hb hK hP hD hS 5 0 rfl rfl (j := k) (by omega) (by omega) (rfl) dX5_walk_65 (fun H locs hP hD hS => ?_)
        have hP : va_P G vwCl [(g 0, .inr (5, [.ref (g 1), .ref (g 2), .ref (g 3), .ref (g 4), .ref (g 5), .ref (g 6), .ref (g 7), .int mi, .long se])), (g 1, .inl (cI, 7, .inl ((up2 v 3 k (((v 3) k) + (nI 1))) 0))), (g 2, .inl (cI, 7, .inl ((up2 v 3 k (((v 3) k) + (nI 1))) 1))), (g 3, .inl (cI, 7, .inl ((up2 v 3 k (((v 3) k) + (nI 1))) 5))), (g 4, .inl (cI, 7, .inl ((up2 v 3 k (((v 3) k) + (nI 1))) 2))), (g 5, .inl (cI, 7, .inl ((up2 v 3 k (((v 3) k) + (nI 1))) 3))), (g 6, .inl (cI, 7, .inl ((up2 v 3 k (((v 3) k) + (nI 1))) 4))), (g 7, .inl (cZ, 7, .inl ((up2 v 3 k (((v 3) k) + (nI 1))) 6)))] _ := hP
        have hD : va_D A [(g 0, .inr (5, [.ref (g 1), .ref (g 2), .ref (g 3), .ref (g 4), .ref (g 5), .ref (g 6), .ref (g 7), .int mi, .long se])), (g 1, .inl (cI, 7, .inl ((up2 v 3 k (((v 3) k) + (nI 1))) 0))), (g 2, .inl (cI, 7, .inl ((up2 v 3 k (((v 3) k) + (nI 1))) 1))), (g 3, .inl (cI, 7, .inl ((up2 v 3 k (((v 3) k) + (nI 1))) 5))), (g 4, .inl (cI, 7, .inl ((up2 v 3 k (((v 3) k) + (nI 1))) 2))), (g 5, .inl (cI, 7, .inl ((up2 v 3 k (((v 3) k) + (nI 1))) 3))), (g 6, .inl (cI, 7, .inl ((up2 v 3 k (((v 3) k) + (nI 1))) 4))), (g 7, .inl (cZ, 7, .inl ((up2 v 3 k (((v 3) k) + (nI 1))) 6)))] := hD
        have eS : (up2 v 3 k (((v 3) k) + (nI 1))) = walkV v k := by first | exact walkV_1 c_7 | exact walkV_2 c_7 c_30 | exact walkV_3 c_7 c_30 c_53 | exact walkV_0 c_7 c_30 c_53
        rw [eS] at hP hD
        have hP : va_P G vwCl [(g 0, .inr (5, [.ref (g 1), .ref (g 2), .ref (g 3), .ref (g 4), .ref (g 5), .ref (g 6), .ref (g 7), .int mi, .long se])), (g 1, .inl (cI, 7, .inl ((walkV v k) 0))), (g 2, .inl (cI, 7, .inl ((walkV v k) 1))), (g 3, .inl (cI, 7, .inl ((walkV v k) 5))), (g 4, .inl (cI, 7, .inl ((walkV v k) 2))), (g 5, .inl (cI, 7, .inl ((walkV v k) 3))), (g 6, .inl (cI, 7, .inl ((walkV v k) 4))), (g 7, .inl (cZ, 7, .inl ((walkV v k) 6)))] _ := hP
        have hD : va_D A [(g 0, .inr (5, [.ref (g 1), .ref (g 2), .ref (g 3), .ref (g 4), .ref (g 5), .ref (g 6), .ref (g 7), .int mi, .long se])), (g 1, .inl (cI, 7, .inl ((walkV v k) 0))), (g 2, .inl (cI, 7, .inl ((walkV v k) 1))), (g 3, .inl (cI, 7, .inl ((walkV v k) 5))), (g 4, .inl (cI, 7, .inl ((walkV v k) 2))), (g 5, .inl (cI, 7, .inl ((walkV v k) 3))), (g 6, .inl (cI, 7, .inl ((walkV v k) 4))), (g 7, .inl (cZ, 7, .inl ((walkV v k) 6)))] := hD
        exact endV hx hb hr hlocks (()) (trivial) (hP.sub [0, 1, 2, 3, 4, 5, 6, 7] rfl) (hD.sub [0, 1, 2, 3, 4, 5, 6, 7] (by decide) rfl) hS dX5_walk_66
    · skip
      refine lv_aload_n hx hb dX5_walk_33 rfl (lv_at hl 0 rfl) ?_
      refine va_get (D := G) (ci := 5) (v := .ref (g 5)) (C := RX5) (T := TX5) (N := 9) hx hb hts hin5 hown hK.1 hP 0 rfl rfl 4 (by decide) k_1 (fun _ h9 => h9) rfl dX5_walk_34 ?_
      refine lv_iload_n hx hb dX5_walk_37 rfl (lv_at hl 1 rfl) ?_
      refine lv_dup2_11 hx hb dX5_walk_38 rfl rfl ?_
      refine ald hx hb hK hP 5 0 rfl rfl (j := k) (by omega) (by omega) dX5_walk_39 ?_
      refine lv_iconst (v := nI 1) hx hb dX5_walk_40 (by decide) ?_
      refine lv_isub hx hb dX5_walk_41 ?_
      refine ast (f' := upd (v 3) k (((v 3) k) - (nI 1))) hx hb hK hP hD hS 5 0 rfl rfl (j := k) (by omega) (by omega) (rfl) dX5_walk_42 (fun H locs hP hD hS => ?_)
      have hP : va_P G vwCl [(g 0, .inr (5, [.ref (g 1), .ref (g 2), .ref (g 3), .ref (g 4), .ref (g 5), .ref (g 6), .ref (g 7), .int mi, .long se])), (g 1, .inl (cI, 7, .inl ((up2 v 3 k (((v 3) k) - (nI 1))) 0))), (g 2, .inl (cI, 7, .inl ((up2 v 3 k (((v 3) k) - (nI 1))) 1))), (g 3, .inl (cI, 7, .inl ((up2 v 3 k (((v 3) k) - (nI 1))) 5))), (g 4, .inl (cI, 7, .inl ((up2 v 3 k (((v 3) k) - (nI 1))) 2))), (g 5, .inl (cI, 7, .inl ((up2 v 3 k (((v 3) k) - (nI 1))) 3))), (g 6, .inl (cI, 7, .inl ((up2 v 3 k (((v 3) k) - (nI 1))) 4))), (g 7, .inl (cZ, 7, .inl ((up2 v 3 k (((v 3) k) - (nI 1))) 6)))] _ := hP
      have hD : va_D A [(g 0, .inr (5, [.ref (g 1), .ref (g 2), .ref (g 3), .ref (g 4), .ref (g 5), .ref (g 6), .ref (g 7), .int mi, .long se])), (g 1, .inl (cI, 7, .inl ((up2 v 3 k (((v 3) k) - (nI 1))) 0))), (g 2, .inl (cI, 7, .inl ((up2 v 3 k (((v 3) k) - (nI 1))) 1))), (g 3, .inl (cI, 7, .inl ((up2 v 3 k (((v 3) k) - (nI 1))) 5))), (g 4, .inl (cI, 7, .inl ((up2 v 3 k (((v 3) k) - (nI 1))) 2))), (g 5, .inl (cI, 7, .inl ((up2 v 3 k (((v 3) k) - (nI 1))) 3))), (g 6, .inl (cI, 7, .inl ((up2 v 3 k (((v 3) k) - (nI 1))) 4))), (g 7, .inl (cZ, 7, .inl ((up2 v 3 k (((v 3) k) - (nI 1))) 6)))] := hD
      refine lv_goto (tgt := 66) hx hb dX5_walk_43 (by decide) ?_
      have eS : (up2 v 3 k (((v 3) k) - (nI 1))) = walkV v k := by first | exact walkV_1 c_7 | exact walkV_2 c_7 c_30 | exact walkV_3 c_7 c_30 c_53 | exact walkV_0 c_7 c_30 c_53
      rw [eS] at hP hD
      have hP : va_P G vwCl [(g 0, .inr (5, [.ref (g 1), .ref (g 2), .ref (g 3), .ref (g 4), .ref (g 5), .ref (g 6), .ref (g 7), .int mi, .long se])), (g 1, .inl (cI, 7, .inl ((walkV v k) 0))), (g 2, .inl (cI, 7, .inl ((walkV v k) 1))), (g 3, .inl (cI, 7, .inl ((walkV v k) 5))), (g 4, .inl (cI, 7, .inl ((walkV v k) 2))), (g 5, .inl (cI, 7, .inl ((walkV v k) 3))), (g 6, .inl (cI, 7, .inl ((walkV v k) 4))), (g 7, .inl (cZ, 7, .inl ((walkV v k) 6)))] _ := hP
      have hD : va_D A [(g 0, .inr (5, [.ref (g 1), .ref (g 2), .ref (g 3), .ref (g 4), .ref (g 5), .ref (g 6), .ref (g 7), .int mi, .long se])), (g 1, .inl (cI, 7, .inl ((walkV v k) 0))), (g 2, .inl (cI, 7, .inl ((walkV v k) 1))), (g 3, .inl (cI, 7, .inl ((walkV v k) 5))), (g 4, .inl (cI, 7, .inl ((walkV v k) 2))), (g 5, .inl (cI, 7, .inl ((walkV v k) 3))), (g 6, .inl (cI, 7, .inl ((walkV v k) 4))), (g 7, .inl (cZ, 7, .inl ((walkV v k) 6)))] := hD
      exact endV hx hb hr hlocks (()) (trivial) (hP.sub [0, 1, 2, 3, 4, 5, 6, 7] rfl) (hD.sub [0, 1, 2, 3, 4, 5, 6, 7] (by decide) rfl) hS dX5_walk_66
  · skip
    refine lv_aload_n hx hb dX5_walk_10 rfl (lv_at hl 0 rfl) ?_
    refine va_get (D := G) (ci := 5) (v := .ref (g 6)) (C := RX5) (T := TX5) (N := 9) hx hb hts hin5 hown hK.1 hP 0 rfl rfl 5 (by decide) k_2 (fun _ h9 => h9) rfl dX5_walk_11 ?_
    refine lv_iload_n hx hb dX5_walk_14 rfl (lv_at hl 1 rfl) ?_
    refine lv_dup2_11 hx hb dX5_walk_15 rfl rfl ?_
    refine ald hx hb hK hP 6 0 rfl rfl (j := k) (by omega) (by omega) dX5_walk_16 ?_
    refine lv_iconst (v := nI 1) hx hb dX5_walk_17 (by decide) ?_
    refine lv_iadd hx hb dX5_walk_18 ?_
    refine ast (f' := upd (v 4) k (((v 4) k) + (nI 1))) hx hb hK hP hD hS 6 0 rfl rfl (j := k) (by omega) (by omega) (rfl) dX5_walk_19 (fun H locs hP hD hS => ?_)
    have hP : va_P G vwCl [(g 0, .inr (5, [.ref (g 1), .ref (g 2), .ref (g 3), .ref (g 4), .ref (g 5), .ref (g 6), .ref (g 7), .int mi, .long se])), (g 1, .inl (cI, 7, .inl ((up2 v 4 k (((v 4) k) + (nI 1))) 0))), (g 2, .inl (cI, 7, .inl ((up2 v 4 k (((v 4) k) + (nI 1))) 1))), (g 3, .inl (cI, 7, .inl ((up2 v 4 k (((v 4) k) + (nI 1))) 5))), (g 4, .inl (cI, 7, .inl ((up2 v 4 k (((v 4) k) + (nI 1))) 2))), (g 5, .inl (cI, 7, .inl ((up2 v 4 k (((v 4) k) + (nI 1))) 3))), (g 6, .inl (cI, 7, .inl ((up2 v 4 k (((v 4) k) + (nI 1))) 4))), (g 7, .inl (cZ, 7, .inl ((up2 v 4 k (((v 4) k) + (nI 1))) 6)))] _ := hP
    have hD : va_D A [(g 0, .inr (5, [.ref (g 1), .ref (g 2), .ref (g 3), .ref (g 4), .ref (g 5), .ref (g 6), .ref (g 7), .int mi, .long se])), (g 1, .inl (cI, 7, .inl ((up2 v 4 k (((v 4) k) + (nI 1))) 0))), (g 2, .inl (cI, 7, .inl ((up2 v 4 k (((v 4) k) + (nI 1))) 1))), (g 3, .inl (cI, 7, .inl ((up2 v 4 k (((v 4) k) + (nI 1))) 5))), (g 4, .inl (cI, 7, .inl ((up2 v 4 k (((v 4) k) + (nI 1))) 2))), (g 5, .inl (cI, 7, .inl ((up2 v 4 k (((v 4) k) + (nI 1))) 3))), (g 6, .inl (cI, 7, .inl ((up2 v 4 k (((v 4) k) + (nI 1))) 4))), (g 7, .inl (cZ, 7, .inl ((up2 v 4 k (((v 4) k) + (nI 1))) 6)))] := hD
    refine lv_goto (tgt := 66) hx hb dX5_walk_20 (by decide) ?_
    have eS : (up2 v 4 k (((v 4) k) + (nI 1))) = walkV v k := by first | exact walkV_1 c_7 | exact walkV_2 c_7 c_30 | exact walkV_3 c_7 c_30 c_53 | exact walkV_0 c_7 c_30 c_53
    rw [eS] at hP hD
    have hP : va_P G vwCl [(g 0, .inr (5, [.ref (g 1), .ref (g 2), .ref (g 3), .ref (g 4), .ref (g 5), .ref (g 6), .ref (g 7), .int mi, .long se])), (g 1, .inl (cI, 7, .inl ((walkV v k) 0))), (g 2, .inl (cI, 7, .inl ((walkV v k) 1))), (g 3, .inl (cI, 7, .inl ((walkV v k) 5))), (g 4, .inl (cI, 7, .inl ((walkV v k) 2))), (g 5, .inl (cI, 7, .inl ((walkV v k) 3))), (g 6, .inl (cI, 7, .inl ((walkV v k) 4))), (g 7, .inl (cZ, 7, .inl ((walkV v k) 6)))] _ := hP
    have hD : va_D A [(g 0, .inr (5, [.ref (g 1), .ref (g 2), .ref (g 3), .ref (g 4), .ref (g 5), .ref (g 6), .ref (g 7), .int mi, .long se])), (g 1, .inl (cI, 7, .inl ((walkV v k) 0))), (g 2, .inl (cI, 7, .inl ((walkV v k) 1))), (g 3, .inl (cI, 7, .inl ((walkV v k) 5))), (g 4, .inl (cI, 7, .inl ((walkV v k) 2))), (g 5, .inl (cI, 7, .inl ((walkV v k) 3))), (g 6, .inl (cI, 7, .inl ((walkV v k) 4))), (g 7, .inl (cZ, 7, .inl ((walkV v k) 6)))] := hD
    exact endV hx hb hr hlocks (()) (trivial) (hP.sub [0, 1, 2, 3, 4, 5, 6, 7] rfl) (hD.sub [0, 1, 2, 3, 4, 5, 6, 7] (by decide) rfl) hS dX5_walk_66

set_option maxHeartbeats 4000000 in
set_option maxRecDepth 100000 in
theorem c_X5_sleepers {l : Launch} {G : va_G} {cI cJ cZ cS : ClassId} (g : Nat → Nat) (v : Nat → Nat → Int32) (mi : Int32) (se : Int64) (h : Nat → Nat) (kd : Nat → Nat) (tn : Nat → Nat) (rk : Nat) (sl : Nat) (hrk : rk < 8) : CI l G (kT cI cJ cZ cS) (S := Unit) yX5_sleepers wsX5_sleepers { frames := 0, cells := 0, slots := 0, locals := 0 } [.ref (g 0), .ref (h 0)] [(g 0, .inr (5, [.ref (g 1), .ref (g 2), .ref (g 3), .ref (g 4), .ref (g 5), .ref (g 6), .ref (g 7), .int mi, .long se])), (g 1, .inl (cI, 7, .inl (v 0))), (g 2, .inl (cI, 7, .inl (v 1))), (g 3, .inl (cI, 7, .inl (v 5))), (g 4, .inl (cI, 7, .inl (v 2))), (g 5, .inl (cI, 7, .inl (v 3))), (g 6, .inl (cI, 7, .inl (v 4))), (g 7, .inl (cZ, 7, .inl (v 6))), (h 0, .inr (1, [.ref (h 1), .ref (h 2), .int (nI rk), .int (nI sl)])), (h 1, .inl (cI, 7, .inl (fun i9 => nI (kd i9)))), (h 2, .inl (cI, 175, .inl (fun i9 => nI (tn i9))))] (fun res _ => res = slpI v rk) (fun _ => [(g 0, .inr (5, [.ref (g 1), .ref (g 2), .ref (g 3), .ref (g 4), .ref (g 5), .ref (g 6), .ref (g 7), .int mi, .long se])), (g 1, .inl (cI, 7, .inl (v 0))), (g 2, .inl (cI, 7, .inl (v 1))), (g 3, .inl (cI, 7, .inl (v 5))), (g 4, .inl (cI, 7, .inl (v 2))), (g 5, .inl (cI, 7, .inl (v 3))), (g 6, .inl (cI, 7, .inl (v 4))), (g 7, .inl (cZ, 7, .inl (v 6))), (h 0, .inr (1, [.ref (h 1), .ref (h 2), .int (nI rk), .int (nI sl)])), (h 1, .inl (cI, 7, .inl (fun i9 => nI (kd i9)))), (h 2, .inl (cI, 175, .inl (fun i9 => nI (tn i9))))]) := by
  refine CI.of (cc := cX5_sleepers) (maxL := 4) (by decide) rfl (Nat.le_of_ble_eq_true rfl) ?_
  intro p e s m below meth c A ls hB
  obtain ⟨hx, hb, hml, hr, hts, hown, hlocks, hmn, hK, hP, hD, hS, hA, hl⟩ := hB
  have hP : va_P G vwCl [(g 0, .inr (5, [.ref (g 1), .ref (g 2), .ref (g 3), .ref (g 4), .ref (g 5), .ref (g 6), .ref (g 7), .int mi, .long se])), (g 1, .inl (cI, 7, .inl (v 0))), (g 2, .inl (cI, 7, .inl (v 1))), (g 3, .inl (cI, 7, .inl (v 5))), (g 4, .inl (cI, 7, .inl (v 2))), (g 5, .inl (cI, 7, .inl (v 3))), (g 6, .inl (cI, 7, .inl (v 4))), (g 7, .inl (cZ, 7, .inl (v 6))), (h 0, .inr (1, [.ref (h 1), .ref (h 2), .int (nI rk), .int (nI sl)])), (h 1, .inl (cI, 7, .inl (fun i9 => nI (kd i9)))), (h 2, .inl (cI, 175, .inl (fun i9 => nI (tn i9))))] s.heap := hP
  have hD : va_D A [(g 0, .inr (5, [.ref (g 1), .ref (g 2), .ref (g 3), .ref (g 4), .ref (g 5), .ref (g 6), .ref (g 7), .int mi, .long se])), (g 1, .inl (cI, 7, .inl (v 0))), (g 2, .inl (cI, 7, .inl (v 1))), (g 3, .inl (cI, 7, .inl (v 5))), (g 4, .inl (cI, 7, .inl (v 2))), (g 5, .inl (cI, 7, .inl (v 3))), (g 6, .inl (cI, 7, .inl (v 4))), (g 7, .inl (cZ, 7, .inl (v 6))), (h 0, .inr (1, [.ref (h 1), .ref (h 2), .int (nI rk), .int (nI sl)])), (h 1, .inl (cI, 7, .inl (fun i9 => nI (kd i9)))), (h 2, .inl (cI, 175, .inl (fun i9 => nI (tn i9))))] := hD
  have hl : lv_has ls 4 [(0, .ref (g 0)), (1, .ref (h 0))] := hl
  have k_0 := hts (.fieldLink RX5 55 "HearsayMarch$Army" "ranks" "I") (by decide +kernel)
  have k_1 := hts (.fieldLink RX5 30 "HearsayMarch$Scene" "asleep" "[Z") (by decide +kernel)
  have hin1 : ∀ w ∈ wsX10, w ∈ wsX5_sleepers := by decide +kernel
  have hin5 : ∀ w ∈ wsX50, w ∈ wsX5_sleepers := by decide +kernel
  refine lv_iconst (v := nI 0) hx hb dX5_sleepers_0 (by decide) ?_
  refine lv_istore_n (lv' := [(2, .int (nI 0)), (0, .ref (g 0)), (1, .ref (h 0))]) hx hb dX5_sleepers_1 rfl hl (by decide) rfl (fun ls hl => ?_)
  refine lv_iconst (v := nI 0) hx hb dX5_sleepers_2 (by decide) ?_
  refine lv_istore_n (lv' := [(3, .int (nI 0)), (2, .int (nI 0)), (0, .ref (g 0)), (1, .ref (h 0))]) hx hb dX5_sleepers_3 rfl hl (by decide) rfl (fun ls hl => ?_)
  refine loopW (σ := Nat) 4 (fun (k : Nat) H locs ls => (k ≤ rk) ∧ va_P G vwCl [(g 0, .inr (5, [.ref (g 1), .ref (g 2), .ref (g 3), .ref (g 4), .ref (g 5), .ref (g 6), .ref (g 7), .int mi, .long se])), (g 1, .inl (cI, 7, .inl (v 0))), (g 2, .inl (cI, 7, .inl (v 1))), (g 3, .inl (cI, 7, .inl (v 5))), (g 4, .inl (cI, 7, .inl (v 2))), (g 5, .inl (cI, 7, .inl (v 3))), (g 6, .inl (cI, 7, .inl (v 4))), (g 7, .inl (cZ, 7, .inl (v 6))), (h 0, .inr (1, [.ref (h 1), .ref (h 2), .int (nI rk), .int (nI sl)])), (h 1, .inl (cI, 7, .inl (fun i9 => nI (kd i9)))), (h 2, .inl (cI, 175, .inl (fun i9 => nI (tn i9))))] H ∧ va_D A [(g 0, .inr (5, [.ref (g 1), .ref (g 2), .ref (g 3), .ref (g 4), .ref (g 5), .ref (g 6), .ref (g 7), .int mi, .long se])), (g 1, .inl (cI, 7, .inl (v 0))), (g 2, .inl (cI, 7, .inl (v 1))), (g 3, .inl (cI, 7, .inl (v 5))), (g 4, .inl (cI, 7, .inl (v 2))), (g 5, .inl (cI, 7, .inl (v 3))), (g 6, .inl (cI, 7, .inl (v 4))), (g 7, .inl (cZ, 7, .inl (v 6))), (h 0, .inr (1, [.ref (h 1), .ref (h 2), .int (nI rk), .int (nI sl)])), (h 1, .inl (cI, 7, .inl (fun i9 => nI (kd i9)))), (h 2, .inl (cI, 175, .inl (fun i9 => nI (tn i9))))] ∧ va_S A s.heap H locs ∧ lv_has ls 4 [(3, .int (nI k)), (2, .int (slpI v k)), (0, .ref (g 0)), (1, .ref (h 0))]) (fun (k : Nat) => []) (fun (k : Nat) => rk - k) ?_ 0 ⟨by first | assumption | omega | (simp; done), hP.sub [0, 1, 2, 3, 4, 5, 6, 7, 8, 9, 10] rfl, hD.sub [0, 1, 2, 3, 4, 5, 6, 7, 8, 9, 10] (by decide) rfl, hS, lv_sub hl [0, 1, 2, 3] rfl⟩
  intro xx9 H locs ls hI ih_4
  obtain ⟨k, rfl⟩ : ∃ z, z = xx9 := ⟨_, rfl⟩
  obtain ⟨hk, hP, hD, hS, hl⟩ := hI
  have hk : k ≤ rk := hk
  have hP : va_P G vwCl [(g 0, .inr (5, [.ref (g 1), .ref (g 2), .ref (g 3), .ref (g 4), .ref (g 5), .ref (g 6), .ref (g 7), .int mi, .long se])), (g 1, .inl (cI, 7, .inl (v 0))), (g 2, .inl (cI, 7, .inl (v 1))), (g 3, .inl (cI, 7, .inl (v 5))), (g 4, .inl (cI, 7, .inl (v 2))), (g 5, .inl (cI, 7, .inl (v 3))), (g 6, .inl (cI, 7, .inl (v 4))), (g 7, .inl (cZ, 7, .inl (v 6))), (h 0, .inr (1, [.ref (h 1), .ref (h 2), .int (nI rk), .int (nI sl)])), (h 1, .inl (cI, 7, .inl (fun i9 => nI (kd i9)))), (h 2, .inl (cI, 175, .inl (fun i9 => nI (tn i9))))] _ := hP
  have hD : va_D A [(g 0, .inr (5, [.ref (g 1), .ref (g 2), .ref (g 3), .ref (g 4), .ref (g 5), .ref (g 6), .ref (g 7), .int mi, .long se])), (g 1, .inl (cI, 7, .inl (v 0))), (g 2, .inl (cI, 7, .inl (v 1))), (g 3, .inl (cI, 7, .inl (v 5))), (g 4, .inl (cI, 7, .inl (v 2))), (g 5, .inl (cI, 7, .inl (v 3))), (g 6, .inl (cI, 7, .inl (v 4))), (g 7, .inl (cZ, 7, .inl (v 6))), (h 0, .inr (1, [.ref (h 1), .ref (h 2), .int (nI rk), .int (nI sl)])), (h 1, .inl (cI, 7, .inl (fun i9 => nI (kd i9)))), (h 2, .inl (cI, 175, .inl (fun i9 => nI (tn i9))))] := hD
  have hl : lv_has ls 4 [(3, .int (nI k)), (2, .int (slpI v k)), (0, .ref (g 0)), (1, .ref (h 0))] := hl
  refine lv_iload_n hx hb dX5_sleepers_4 rfl (lv_at hl 0 rfl) ?_
  refine lv_aload_n hx hb dX5_sleepers_5 rfl (lv_at hl 3 rfl) ?_
  refine va_get (D := G) (ci := 1) (v := .int (nI rk)) (C := RX1) (T := TX1) (N := 4) hx hb hts hin1 hown hK.1 hP 8 rfl rfl 2 (by decide) k_0 (fun _ h9 => h9) rfl dX5_sleepers_6 ?_
  refine lv_icmp_ge (tgt := 37) hx hb dX5_sleepers_9 (by decide) (fun c_9 => ?_) (fun c_9 => ?_)
  · skip
    have c_9 := n_geT c_9 (by omega) (by omega)
    have hk9 : k = rk := by omega
    subst hk9
    refine lv_iload_n hx hb dX5_sleepers_37 rfl (lv_at hl 1 rfl) ?_
    exact endI hx hb hr hlocks (()) (rfl) (hP.sub [0, 1, 2, 3, 4, 5, 6, 7, 8, 9, 10] rfl) (hD.sub [0, 1, 2, 3, 4, 5, 6, 7, 8, 9, 10] (by decide) rfl) hS dX5_sleepers_38
  · skip
    have c_9 := n_geF c_9 (by omega) (by omega)
    refine lv_iload_n hx hb dX5_sleepers_12 rfl (lv_at hl 1 rfl) ?_
    refine lv_aload_n hx hb dX5_sleepers_13 rfl (lv_at hl 2 rfl) ?_
    refine va_get (D := G) (ci := 5) (v := .ref (g 7)) (C := RX5) (T := TX5) (N := 9) hx hb hts hin5 hown hK.1 hP 0 rfl rfl 6 (by decide) k_1 (fun _ h9 => h9) rfl dX5_sleepers_14 ?_
    refine lv_iload_n hx hb dX5_sleepers_17 rfl (lv_at hl 0 rfl) ?_
    refine zld hx hb hK hP 7 2 rfl rfl (j := k) (by omega) (by omega) dX5_sleepers_18 ?_
    refine lv_if_eq (tgt := 28) hx hb dX5_sleepers_19 (by decide) (fun c_19 => ?_) (fun c_19 => ?_)
    · skip
      refine lv_iconst (v := nI 0) hx hb dX5_sleepers_28 (by decide) ?_
      refine lv_ior hx hb dX5_sleepers_29 ?_
      refine top_i (y := slpI v (k + 1)) (by first | exact (slpI_y c_19).symm | exact (slpI_n c_19).symm) ?_
      refine lv_istore_n (lv' := [(2, .int (slpI v (k + 1))), (3, .int (nI k)), (0, .ref (g 0)), (1, .ref (h 0))]) hx hb dX5_sleepers_30 rfl hl (by decide) rfl (fun ls hl => ?_)
      refine lv_iinc (v := nI (k + 1)) (lv' := [(3, .int (nI (k + 1))), (2, .int (slpI v (k + 1))), (0, .ref (g 0)), (1, .ref (h 0))]) hx hb dX5_sleepers_31 hl (k := 1) rfl (nI_inc _ 1 1 (by decide)) (by decide) rfl (fun ls hl => ?_)
      refine lv_goto (tgt := 4) hx hb dX5_sleepers_34 (by decide) ?_
      exact ih_4 (k + 1) _ _ _ (by first | omega | (simp only []; omega) | (show _ < _; omega)) ⟨by first | assumption | omega | (simp; done), hP.sub [0, 1, 2, 3, 4, 5, 6, 7, 8, 9, 10] rfl, hD.sub [0, 1, 2, 3, 4, 5, 6, 7, 8, 9, 10] (by decide) rfl, hS, lv_sub hl [0, 1, 2, 3] rfl⟩
    · skip
      refine lv_iconst (v := nI 1) hx hb dX5_sleepers_22 (by decide) ?_
      refine lv_iload_n hx hb dX5_sleepers_23 rfl (lv_at hl 0 rfl) ?_
      refine lv_ishl hx hb dX5_sleepers_24 ?_
      refine lv_goto (tgt := 29) hx hb dX5_sleepers_25 (by decide) ?_
      refine lv_ior hx hb dX5_sleepers_29 ?_
      refine top_i (y := slpI v (k + 1)) (by first | exact (slpI_y c_19).symm | exact (slpI_n c_19).symm) ?_
      refine lv_istore_n (lv' := [(2, .int (slpI v (k + 1))), (3, .int (nI k)), (0, .ref (g 0)), (1, .ref (h 0))]) hx hb dX5_sleepers_30 rfl hl (by decide) rfl (fun ls hl => ?_)
      refine lv_iinc (v := nI (k + 1)) (lv' := [(3, .int (nI (k + 1))), (2, .int (slpI v (k + 1))), (0, .ref (g 0)), (1, .ref (h 0))]) hx hb dX5_sleepers_31 hl (k := 1) rfl (nI_inc _ 1 1 (by decide)) (by decide) rfl (fun ls hl => ?_)
      refine lv_goto (tgt := 4) hx hb dX5_sleepers_34 (by decide) ?_
      exact ih_4 (k + 1) _ _ _ (by first | omega | (simp only []; omega) | (show _ < _; omega)) ⟨by first | assumption | omega | (simp; done), hP.sub [0, 1, 2, 3, 4, 5, 6, 7, 8, 9, 10] rfl, hD.sub [0, 1, 2, 3, 4, 5, 6, 7, 8, 9, 10] (by decide) rfl, hS, lv_sub hl [0, 1, 2, 3] rfl⟩

set_option maxHeartbeats 4000000 in
set_option maxRecDepth 100000 in
theorem c_X5_hearers {l : Launch} {G : va_G} {cI cJ cZ cS : ClassId} (g : Nat → Nat) (v : Nat → Nat → Int32) (mi : Int32) (se : Int64) (h : Nat → Nat) (kd : Nat → Nat) (tn : Nat → Nat) (rk : Nat) (sl : Nat) (hrk : rk < 8) : CI l G (kT cI cJ cZ cS) (S := Unit) yX5_hearers wsX5_hearers { frames := 0, cells := 0, slots := 0, locals := 0 } [.ref (g 0), .ref (h 0)] [(g 0, .inr (5, [.ref (g 1), .ref (g 2), .ref (g 3), .ref (g 4), .ref (g 5), .ref (g 6), .ref (g 7), .int mi, .long se])), (g 1, .inl (cI, 7, .inl (v 0))), (g 2, .inl (cI, 7, .inl (v 1))), (g 3, .inl (cI, 7, .inl (v 5))), (g 4, .inl (cI, 7, .inl (v 2))), (g 5, .inl (cI, 7, .inl (v 3))), (g 6, .inl (cI, 7, .inl (v 4))), (g 7, .inl (cZ, 7, .inl (v 6))), (h 0, .inr (1, [.ref (h 1), .ref (h 2), .int (nI rk), .int (nI sl)])), (h 1, .inl (cI, 7, .inl (fun i9 => nI (kd i9)))), (h 2, .inl (cI, 175, .inl (fun i9 => nI (tn i9))))] (fun res _ => res = hrsI v rk) (fun _ => [(g 0, .inr (5, [.ref (g 1), .ref (g 2), .ref (g 3), .ref (g 4), .ref (g 5), .ref (g 6), .ref (g 7), .int mi, .long se])), (g 1, .inl (cI, 7, .inl (v 0))), (g 2, .inl (cI, 7, .inl (v 1))), (g 3, .inl (cI, 7, .inl (v 5))), (g 4, .inl (cI, 7, .inl (v 2))), (g 5, .inl (cI, 7, .inl (v 3))), (g 6, .inl (cI, 7, .inl (v 4))), (g 7, .inl (cZ, 7, .inl (v 6))), (h 0, .inr (1, [.ref (h 1), .ref (h 2), .int (nI rk), .int (nI sl)])), (h 1, .inl (cI, 7, .inl (fun i9 => nI (kd i9)))), (h 2, .inl (cI, 175, .inl (fun i9 => nI (tn i9))))]) := by
  refine CI.of (cc := cX5_hearers) (maxL := 4) (by decide) rfl (Nat.le_of_ble_eq_true rfl) ?_
  intro p e s m below meth c A ls hB
  obtain ⟨hx, hb, hml, hr, hts, hown, hlocks, hmn, hK, hP, hD, hS, hA, hl⟩ := hB
  have hP : va_P G vwCl [(g 0, .inr (5, [.ref (g 1), .ref (g 2), .ref (g 3), .ref (g 4), .ref (g 5), .ref (g 6), .ref (g 7), .int mi, .long se])), (g 1, .inl (cI, 7, .inl (v 0))), (g 2, .inl (cI, 7, .inl (v 1))), (g 3, .inl (cI, 7, .inl (v 5))), (g 4, .inl (cI, 7, .inl (v 2))), (g 5, .inl (cI, 7, .inl (v 3))), (g 6, .inl (cI, 7, .inl (v 4))), (g 7, .inl (cZ, 7, .inl (v 6))), (h 0, .inr (1, [.ref (h 1), .ref (h 2), .int (nI rk), .int (nI sl)])), (h 1, .inl (cI, 7, .inl (fun i9 => nI (kd i9)))), (h 2, .inl (cI, 175, .inl (fun i9 => nI (tn i9))))] s.heap := hP
  have hD : va_D A [(g 0, .inr (5, [.ref (g 1), .ref (g 2), .ref (g 3), .ref (g 4), .ref (g 5), .ref (g 6), .ref (g 7), .int mi, .long se])), (g 1, .inl (cI, 7, .inl (v 0))), (g 2, .inl (cI, 7, .inl (v 1))), (g 3, .inl (cI, 7, .inl (v 5))), (g 4, .inl (cI, 7, .inl (v 2))), (g 5, .inl (cI, 7, .inl (v 3))), (g 6, .inl (cI, 7, .inl (v 4))), (g 7, .inl (cZ, 7, .inl (v 6))), (h 0, .inr (1, [.ref (h 1), .ref (h 2), .int (nI rk), .int (nI sl)])), (h 1, .inl (cI, 7, .inl (fun i9 => nI (kd i9)))), (h 2, .inl (cI, 175, .inl (fun i9 => nI (tn i9))))] := hD
  have hl : lv_has ls 4 [(0, .ref (g 0)), (1, .ref (h 0))] := hl
  have k_0 := hts (.fieldLink RX5 55 "HearsayMarch$Army" "ranks" "I") (by decide +kernel)
  have k_1 := hts (.fieldLink RX5 18 "HearsayMarch$Scene" "heardNow" "[I") (by decide +kernel)
  have hin1 : ∀ w ∈ wsX10, w ∈ wsX5_hearers := by decide +kernel
  have hin5 : ∀ w ∈ wsX50, w ∈ wsX5_hearers := by decide +kernel
  refine lv_iconst (v := nI 0) hx hb dX5_hearers_0 (by decide) ?_
  refine lv_istore_n (lv' := [(2, .int (nI 0)), (0, .ref (g 0)), (1, .ref (h 0))]) hx hb dX5_hearers_1 rfl hl (by decide) rfl (fun ls hl => ?_)
  refine lv_iconst (v := nI 0) hx hb dX5_hearers_2 (by decide) ?_
  refine lv_istore_n (lv' := [(3, .int (nI 0)), (2, .int (nI 0)), (0, .ref (g 0)), (1, .ref (h 0))]) hx hb dX5_hearers_3 rfl hl (by decide) rfl (fun ls hl => ?_)
  refine loopW (σ := Nat) 4 (fun (k : Nat) H locs ls => (k ≤ rk) ∧ va_P G vwCl [(g 0, .inr (5, [.ref (g 1), .ref (g 2), .ref (g 3), .ref (g 4), .ref (g 5), .ref (g 6), .ref (g 7), .int mi, .long se])), (g 1, .inl (cI, 7, .inl (v 0))), (g 2, .inl (cI, 7, .inl (v 1))), (g 3, .inl (cI, 7, .inl (v 5))), (g 4, .inl (cI, 7, .inl (v 2))), (g 5, .inl (cI, 7, .inl (v 3))), (g 6, .inl (cI, 7, .inl (v 4))), (g 7, .inl (cZ, 7, .inl (v 6))), (h 0, .inr (1, [.ref (h 1), .ref (h 2), .int (nI rk), .int (nI sl)])), (h 1, .inl (cI, 7, .inl (fun i9 => nI (kd i9)))), (h 2, .inl (cI, 175, .inl (fun i9 => nI (tn i9))))] H ∧ va_D A [(g 0, .inr (5, [.ref (g 1), .ref (g 2), .ref (g 3), .ref (g 4), .ref (g 5), .ref (g 6), .ref (g 7), .int mi, .long se])), (g 1, .inl (cI, 7, .inl (v 0))), (g 2, .inl (cI, 7, .inl (v 1))), (g 3, .inl (cI, 7, .inl (v 5))), (g 4, .inl (cI, 7, .inl (v 2))), (g 5, .inl (cI, 7, .inl (v 3))), (g 6, .inl (cI, 7, .inl (v 4))), (g 7, .inl (cZ, 7, .inl (v 6))), (h 0, .inr (1, [.ref (h 1), .ref (h 2), .int (nI rk), .int (nI sl)])), (h 1, .inl (cI, 7, .inl (fun i9 => nI (kd i9)))), (h 2, .inl (cI, 175, .inl (fun i9 => nI (tn i9))))] ∧ va_S A s.heap H locs ∧ lv_has ls 4 [(3, .int (nI k)), (2, .int (hrsI v k)), (0, .ref (g 0)), (1, .ref (h 0))]) (fun (k : Nat) => []) (fun (k : Nat) => rk - k) ?_ 0 ⟨by first | assumption | omega | (simp; done), hP.sub [0, 1, 2, 3, 4, 5, 6, 7, 8, 9, 10] rfl, hD.sub [0, 1, 2, 3, 4, 5, 6, 7, 8, 9, 10] (by decide) rfl, hS, lv_sub hl [0, 1, 2, 3] rfl⟩
  intro xx9 H locs ls hI ih_4
  obtain ⟨k, rfl⟩ : ∃ z, z = xx9 := ⟨_, rfl⟩
  obtain ⟨hk, hP, hD, hS, hl⟩ := hI
  have hk : k ≤ rk := hk
  have hP : va_P G vwCl [(g 0, .inr (5, [.ref (g 1), .ref (g 2), .ref (g 3), .ref (g 4), .ref (g 5), .ref (g 6), .ref (g 7), .int mi, .long se])), (g 1, .inl (cI, 7, .inl (v 0))), (g 2, .inl (cI, 7, .inl (v 1))), (g 3, .inl (cI, 7, .inl (v 5))), (g 4, .inl (cI, 7, .inl (v 2))), (g 5, .inl (cI, 7, .inl (v 3))), (g 6, .inl (cI, 7, .inl (v 4))), (g 7, .inl (cZ, 7, .inl (v 6))), (h 0, .inr (1, [.ref (h 1), .ref (h 2), .int (nI rk), .int (nI sl)])), (h 1, .inl (cI, 7, .inl (fun i9 => nI (kd i9)))), (h 2, .inl (cI, 175, .inl (fun i9 => nI (tn i9))))] _ := hP
  have hD : va_D A [(g 0, .inr (5, [.ref (g 1), .ref (g 2), .ref (g 3), .ref (g 4), .ref (g 5), .ref (g 6), .ref (g 7), .int mi, .long se])), (g 1, .inl (cI, 7, .inl (v 0))), (g 2, .inl (cI, 7, .inl (v 1))), (g 3, .inl (cI, 7, .inl (v 5))), (g 4, .inl (cI, 7, .inl (v 2))), (g 5, .inl (cI, 7, .inl (v 3))), (g 6, .inl (cI, 7, .inl (v 4))), (g 7, .inl (cZ, 7, .inl (v 6))), (h 0, .inr (1, [.ref (h 1), .ref (h 2), .int (nI rk), .int (nI sl)])), (h 1, .inl (cI, 7, .inl (fun i9 => nI (kd i9)))), (h 2, .inl (cI, 175, .inl (fun i9 => nI (tn i9))))] := hD
  have hl : lv_has ls 4 [(3, .int (nI k)), (2, .int (hrsI v k)), (0, .ref (g 0)), (1, .ref (h 0))] := hl
  refine lv_iload_n hx hb dX5_hearers_4 rfl (lv_at hl 0 rfl) ?_
  refine lv_aload_n hx hb dX5_hearers_5 rfl (lv_at hl 3 rfl) ?_
  refine va_get (D := G) (ci := 1) (v := .int (nI rk)) (C := RX1) (T := TX1) (N := 4) hx hb hts hin1 hown hK.1 hP 8 rfl rfl 2 (by decide) k_0 (fun _ h9 => h9) rfl dX5_hearers_6 ?_
  refine lv_icmp_ge (tgt := 39) hx hb dX5_hearers_9 (by decide) (fun c_9 => ?_) (fun c_9 => ?_)
  · skip
    have c_9 := n_geT c_9 (by omega) (by omega)
    have hk9 : k = rk := by omega
    subst hk9
    refine lv_iload_n hx hb dX5_hearers_39 rfl (lv_at hl 1 rfl) ?_
    exact endI hx hb hr hlocks (()) (rfl) (hP.sub [0, 1, 2, 3, 4, 5, 6, 7, 8, 9, 10] rfl) (hD.sub [0, 1, 2, 3, 4, 5, 6, 7, 8, 9, 10] (by decide) rfl) hS dX5_hearers_40
  · skip
    have c_9 := n_geF c_9 (by omega) (by omega)
    refine lv_iload_n hx hb dX5_hearers_12 rfl (lv_at hl 1 rfl) ?_
    refine lv_aload_n hx hb dX5_hearers_13 rfl (lv_at hl 2 rfl) ?_
    refine va_get (D := G) (ci := 5) (v := .ref (g 3)) (C := RX5) (T := TX5) (N := 9) hx hb hts hin5 hown hK.1 hP 0 rfl rfl 2 (by decide) k_1 (fun _ h9 => h9) rfl dX5_hearers_14 ?_
    refine lv_iload_n hx hb dX5_hearers_17 rfl (lv_at hl 0 rfl) ?_
    refine ald hx hb hK hP 3 0 rfl rfl (j := k) (by omega) (by omega) dX5_hearers_18 ?_
    refine lv_bipush (v := (-9)) hx hb dX5_hearers_19 (by decide) ?_
    refine lv_icmp_eq (tgt := 30) hx hb dX5_hearers_21 (by decide) (fun c_21 => ?_) (fun c_21 => ?_)
    · skip
      refine lv_iconst (v := nI 0) hx hb dX5_hearers_30 (by decide) ?_
      refine lv_ior hx hb dX5_hearers_31 ?_
      refine top_i (y := hrsI v (k + 1)) (by first | exact (hrsI_y c_21).symm | exact (hrsI_n c_21).symm) ?_
      refine lv_istore_n (lv' := [(2, .int (hrsI v (k + 1))), (3, .int (nI k)), (0, .ref (g 0)), (1, .ref (h 0))]) hx hb dX5_hearers_32 rfl hl (by decide) rfl (fun ls hl => ?_)
      refine lv_iinc (v := nI (k + 1)) (lv' := [(3, .int (nI (k + 1))), (2, .int (hrsI v (k + 1))), (0, .ref (g 0)), (1, .ref (h 0))]) hx hb dX5_hearers_33 hl (k := 1) rfl (nI_inc _ 1 1 (by decide)) (by decide) rfl (fun ls hl => ?_)
      refine lv_goto (tgt := 4) hx hb dX5_hearers_36 (by decide) ?_
      exact ih_4 (k + 1) _ _ _ (by first | omega | (simp only []; omega) | (show _ < _; omega)) ⟨by first | assumption | omega | (simp; done), hP.sub [0, 1, 2, 3, 4, 5, 6, 7, 8, 9, 10] rfl, hD.sub [0, 1, 2, 3, 4, 5, 6, 7, 8, 9, 10] (by decide) rfl, hS, lv_sub hl [0, 1, 2, 3] rfl⟩
    · skip
      refine lv_iconst (v := nI 1) hx hb dX5_hearers_24 (by decide) ?_
      refine lv_iload_n hx hb dX5_hearers_25 rfl (lv_at hl 0 rfl) ?_
      refine lv_ishl hx hb dX5_hearers_26 ?_
      refine lv_goto (tgt := 31) hx hb dX5_hearers_27 (by decide) ?_
      refine lv_ior hx hb dX5_hearers_31 ?_
      refine top_i (y := hrsI v (k + 1)) (by first | exact (hrsI_y c_21).symm | exact (hrsI_n c_21).symm) ?_
      refine lv_istore_n (lv' := [(2, .int (hrsI v (k + 1))), (3, .int (nI k)), (0, .ref (g 0)), (1, .ref (h 0))]) hx hb dX5_hearers_32 rfl hl (by decide) rfl (fun ls hl => ?_)
      refine lv_iinc (v := nI (k + 1)) (lv' := [(3, .int (nI (k + 1))), (2, .int (hrsI v (k + 1))), (0, .ref (g 0)), (1, .ref (h 0))]) hx hb dX5_hearers_33 hl (k := 1) rfl (nI_inc _ 1 1 (by decide)) (by decide) rfl (fun ls hl => ?_)
      refine lv_goto (tgt := 4) hx hb dX5_hearers_36 (by decide) ?_
      exact ih_4 (k + 1) _ _ _ (by first | omega | (simp only []; omega) | (show _ < _; omega)) ⟨by first | assumption | omega | (simp; done), hP.sub [0, 1, 2, 3, 4, 5, 6, 7, 8, 9, 10] rfl, hD.sub [0, 1, 2, 3, 4, 5, 6, 7, 8, 9, 10] (by decide) rfl, hS, lv_sub hl [0, 1, 2, 3] rfl⟩
