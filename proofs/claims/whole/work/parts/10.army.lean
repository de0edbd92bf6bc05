/-! class Army -/
def sumN (f : Nat → Nat) : Nat → Nat
  | 0 => 0
  | n + 1 => sumN f n + f n
theorem sumN_lt5 {f : Nat → Nat} (h : ∀ j, j < 5 → f j < 10) : sumN f 5 < 51 := by
  have h0 := h 0 (by omega)
  have h1 := h 1 (by omega)
  have h2 := h 2 (by omega)
  have h3 := h 3 (by omega)
  have h4 := h 4 (by omega)
  simp only [sumN]
  omega
def slT (tn : Nat → Nat) (k u v : Nat) : Nat := tn ((k * 5 + u) * 5 + v)
def wayT (tn : Nat → Nat) (k u v : Nat) : Nat := if u = v then 10 - sumN (slT tn k u) 5 else slT tn k u v
def turnN (kk o : Nat) : Nat := if kk = 2 then (if o = 2 then 3 else if o = 3 then 2 else o) else o
theorem not_lt_of {x : Int32} (h : 0 ≤ x) (k : x < 0) : False := by
  rw [Int32.lt_iff_toInt_lt] at k
  rw [Int32.le_iff_toInt_le] at h
  omega
theorem not_le_of {x y : Int32} (h : x < y) (k : y ≤ x) : False := by
  rw [Int32.lt_iff_toInt_lt] at h
  rw [Int32.le_iff_toInt_le] at k
  omega
theorem le_of_not {x y : Int32} (h : ¬ x < y) : y ≤ x := by
  rw [Int32.lt_iff_toInt_lt] at h
  rw [Int32.le_iff_toInt_le]
  omega
theorem lt_of_not {x y : Int32} (h : ¬ y ≤ x) : x < y := by
  rw [Int32.le_iff_toInt_le] at h
  rw [Int32.lt_iff_toInt_lt]
  omega
theorem up_fill {t : Nat → Nat} {i v : Nat} (h : ∀ j, j < i → t j = v) : ∀ j, j < i + 1 → va_up t i v j = v := by
  intro j hj
  by_cases e : j = i
  · rw [e, va_up_self]
  · rw [va_up_ne _ _ e]; exact h j (by omega)
theorem cpy_nat {f g : Nat → Nat} {a b n : Nat} : va_cpy (fun i => nI (f i)) (fun i => nI (g i)) a b n = fun i => nI (va_cpy f g a b n i) := by
  funext i
  simp only [va_cpy]
  split <;> rfl
theorem cpy_natL {f g : Nat → Nat} {a b n : Nat} : va_cpy (fun i => lN (f i)) (fun i => lN (g i)) a b n = fun i => lN (va_cpy f g a b n i) := by
  funext i
  simp only [va_cpy]
  split <;> rfl
set_option maxHeartbeats 4000000 in
set_option maxRecDepth 100000 in
theorem c_X1_place {l : Launch} {G : va_G} {cI cJ cZ cS : ClassId} (r : Nat) (u : Nat) (v : Nat) : CI l G (kT cI cJ cZ cS) (S := Unit) yX1_place wsX1_place { frames := 0, cells := 0, slots := 0, locals := 0 } [.int (nI r), .int (nI u), .int (nI v)] [] (fun res _ => res = nI ((r * 5 + u) * 5 + v)) (fun _ => []) := by
  refine CI.of (cc := cX1_place) (maxL := 3) (by decide) rfl (Nat.le_of_ble_eq_true rfl) ?_
  intro p e s m below meth c A ls hB
  obtain ⟨hx, hb, hml, hr, hts, hown, hlocks, hmn, hK, hP, hD, hS, hA, hl⟩ := hB
  have hP : va_P G vwCl [] s.heap := hP
  have hD : va_D A [] := hD
  have hl : lv_has ls 3 [(0, .int (nI r)), (1, .int (nI u)), (2, .int (nI v))] := hl
  refine lv_iload_n hx hb dX1_place_0 rfl (lv_at hl 0 rfl) ?_
  refine lv_iconst (v := nI 5) hx hb dX1_place_1 (by decide) ?_
  refine lv_imul hx hb dX1_place_2 ?_
  refine top_i (y := nI (r * 5)) (pk_mul _ _) ?_
  refine lv_iload_n hx hb dX1_place_3 rfl (lv_at hl 1 rfl) ?_
  refine lv_iadd hx hb dX1_place_4 ?_
  refine top_i (y := nI (r * 5 + u)) (nI_add _ _) ?_
  refine lv_iconst (v := nI 5) hx hb dX1_place_5 (by decide) ?_
  refine lv_imul hx hb dX1_place_6 ?_
  refine top_i (y := nI ((r * 5 + u) * 5)) (pk_mul _ _) ?_
  refine lv_iload_n hx hb dX1_place_7 rfl (lv_at hl 2 rfl) ?_
  refine lv_iadd hx hb dX1_place_8 ?_
  refine top_i (y := nI ((r * 5 + u) * 5 + v)) (nI_add _ _) ?_
  exact endI hx hb hr hlocks (()) (rfl) (hP.sub [] rfl) (hD.sub [] (by decide) rfl) hS dX1_place_9

set_option maxHeartbeats 4000000 in
set_option maxRecDepth 100000 in
theorem c_X1_slipTenths {l : Launch} {G : va_G} {cI cJ cZ cS : ClassId} (h : Nat → Nat) (kd : Nat → Nat) (tn : Nat → Nat) (rk : Nat) (sl : Nat) (k : Nat) (u : Nat) (v : Nat) (hk : k < 7) (hu : u < 5) (hv : v < 5) : CI l G (kT cI cJ cZ cS) (S := Unit) yX1_slipTenths wsX1_slipTenths { frames := 1, cells := 0, slots := 0, locals := 22 } [.ref (h 0), .int (nI k), .int (nI u), .int (nI v)] [(h 0, .inr (1, [.ref (h 1), .ref (h 2), .int (nI rk), .int (nI sl)])), (h 1, .inl (cI, 7, .inl (fun i9 => nI (kd i9)))), (h 2, .inl (cI, 175, .inl (fun i9 => nI (tn i9))))] (fun res _ => res = nI (slT tn k u v)) (fun _ => [(h 0, .inr (1, [.ref (h 1), .ref (h 2), .int (nI rk), .int (nI sl)])), (h 1, .inl (cI, 7, .inl (fun i9 => nI (kd i9)))), (h 2, .inl (cI, 175, .inl (fun i9 => nI (tn i9))))]) := by
  refine CI.of (cc := cX1_slipTenths) (maxL := 4) (by decide) rfl (Nat.le_of_ble_eq_true rfl) ?_
  intro p e s m below meth c A ls hB
  obtain ⟨hx, hb, hml, hr, hts, hown, hlocks, hmn, hK, hP, hD, hS, hA, hl⟩ := hB
  have hP : va_P G vwCl [(h 0, .inr (1, [.ref (h 1), .ref (h 2), .int (nI rk), .int (nI sl)])), (h 1, .inl (cI, 7, .inl (fun i9 => nI (kd i9)))), (h 2, .inl (cI, 175, .inl (fun i9 => nI (tn i9))))] s.heap := hP
  have hD : va_D A [(h 0, .inr (1, [.ref (h 1), .ref (h 2), .int (nI rk), .int (nI sl)])), (h 1, .inl (cI, 7, .inl (fun i9 => nI (kd i9)))), (h 2, .inl (cI, 175, .inl (fun i9 => nI (tn i9))))] := hD
  have hl : lv_has ls 4 [(0, .ref (h 0)), (1, .int (nI k)), (2, .int (nI u)), (3, .int (nI v))] := hl
  have k_0 := hts (.fieldLink RX1 15 "HearsayMarch$Army" "tenths" "[I") (by decide +kernel)
  have hin1 : ∀ w ∈ wsX10, w ∈ wsX1_slipTenths := by decide +kernel
  refine lv_aload_n hx hb dX1_slipTenths_0 rfl (lv_at hl 0 rfl) ?_
  refine va_get (D := G) (ci := 1) (v := .ref (h 2)) (C := RX1) (T := TX1) (N := 4) hx hb hts hin1 hown hK.1 hP 0 rfl rfl 1 (by decide) k_0 (fun _ h9 => h9) rfl dX1_slipTenths_1 ?_
  refine lv_iload_n hx hb dX1_slipTenths_4 rfl (lv_at hl 1 rfl) ?_
  refine lv_iload_n hx hb dX1_slipTenths_5 rfl (lv_at hl 2 rfl) ?_
  refine lv_iload_n hx hb dX1_slipTenths_6 rfl (lv_at hl 3 rfl) ?_
  refine aft_i (wr := [(h 0, .inr (1, [.ref (h 1), .ref (h 2), .int (nI rk), .int (nI sl)])), (h 1, .inl (cI, 7, .inl (fun i9 => nI (kd i9)))), (h 2, .inl (cI, 175, .inl (fun i9 => nI (tn i9))))]) (va_runS (As := [.int (nI k), .int (nI u), .int (nI v)]) (rest := [.ref (h 2)]) ⟨hx, hb, hml, hown, hts⟩ (c_X1_place (r := k) (u := u) (v := v) _) (va_cwS 3 hts gX1_slipTenths_X1_place rfl rfl rfl (by decide +kernel) ⟨Nat.le_of_ble_eq_true rfl, Nat.le_of_ble_eq_true rfl⟩) (preS hK hP hD [] rfl rfl) rfl rfl hl.1 rfl (lv_room (Nat.le_of_ble_eq_true rfl)) dX1_slipTenths_7 ⟨Nat.le_of_ble_eq_true rfl, Nat.le_of_ble_eq_true rfl⟩) hP hD hS hA [] [0, 1, 2] rfl rfl rfl (by decide) (fun r_7 uu9 H locs hw hP hD hS => ?_)
  have hP : va_P G vwCl [(h 0, .inr (1, [.ref (h 1), .ref (h 2), .int (nI rk), .int (nI sl)])), (h 1, .inl (cI, 7, .inl (fun i9 => nI (kd i9)))), (h 2, .inl (cI, 175, .inl (fun i9 => nI (tn i9))))] _ := hP
  have hD : va_D A [(h 0, .inr (1, [.ref (h 1), .ref (h 2), .int (nI rk), .int (nI sl)])), (h 1, .inl (cI, 7, .inl (fun i9 => nI (kd i9)))), (h 2, .inl (cI, 175, .inl (fun i9 => nI (tn i9))))] := hD
  obtain rfl := hw
  refine top_i (y := nI ((k * 5 + u) * 5 + v)) rfl ?_
  refine ald hx hb hK hP 2 0 rfl rfl (j := (k * 5 + u) * 5 + v) (by omega) (by omega) dX1_slipTenths_10 ?_
  exact endI hx hb hr hlocks (()) (rfl) (hP.sub [0, 1, 2] rfl) (hD.sub [0, 1, 2] (by decide) rfl) hS dX1_slipTenths_11

set_option maxHeartbeats 4000000 in
set_option maxRecDepth 100000 in
theorem c_X1_slipped {l : Launch} {G : va_G} {cI cJ cZ cS : ClassId} (h : Nat → Nat) (kd : Nat → Nat) (tn : Nat → Nat) (rk : Nat) (sl : Nat) (k : Nat) (u : Nat) (hk : k < 7) (hu : u < 5) : CI l G (kT cI cJ cZ cS) (S := Unit) yX1_slipped wsX1_slipped { frames := 2, cells := 0, slots := 0, locals := 45 } [.ref (h 0), .int (nI k), .int (nI u)] [(h 0, .inr (1, [.ref (h 1), .ref (h 2), .int (nI rk), .int (nI sl)])), (h 1, .inl (cI, 7, .inl (fun i9 => nI (kd i9)))), (h 2, .inl (cI, 175, .inl (fun i9 => nI (tn i9))))] (fun res _ => res = nI (sumN (slT tn k u) 5)) (fun _ => [(h 0, .inr (1, [.ref (h 1), .ref (h 2), .int (nI rk), .int (nI sl)])), (h 1, .inl (cI, 7, .inl (fun i9 => nI (kd i9)))), (h 2, .inl (cI, 175, .inl (fun i9 => nI (tn i9))))]) := by
  refine CI.of (cc := cX1_slipped) (maxL := 5) (by decide) rfl (Nat.le_of_ble_eq_true rfl) ?_
  intro p e s m below meth c A ls hB
  obtain ⟨hx, hb, hml, hr, hts, hown, hlocks, hmn, hK, hP, hD, hS, hA, hl⟩ := hB
  have hP : va_P G vwCl [(h 0, .inr (1, [.ref (h 1), .ref (h 2), .int (nI rk), .int (nI sl)])), (h 1, .inl (cI, 7, .inl (fun i9 => nI (kd i9)))), (h 2, .inl (cI, 175, .inl (fun i9 => nI (tn i9))))] s.heap := hP
  have hD : va_D A [(h 0, .inr (1, [.ref (h 1), .ref (h 2), .int (nI rk), .int (nI sl)])), (h 1, .inl (cI, 7, .inl (fun i9 => nI (kd i9)))), (h 2, .inl (cI, 175, .inl (fun i9 => nI (tn i9))))] := hD
  have hl : lv_has ls 5 [(0, .ref (h 0)), (1, .int (nI k)), (2, .int (nI u))] := hl
  refine lv_iconst (v := nI 0) hx hb dX1_slipped_0 (by decide) ?_
  refine lv_istore_n (lv' := [(3, .int (nI 0)), (0, .ref (h 0)), (1, .int (nI k)), (2, .int (nI u))]) hx hb dX1_slipped_1 rfl hl (by decide) rfl (fun ls hl => ?_)
  refine lv_iconst (v := nI 0) hx hb dX1_slipped_2 (by decide) ?_
  refine lv_istore (lv' := [(4, .int (nI 0)), (3, .int (nI 0)), (0, .ref (h 0)), (1, .int (nI k)), (2, .int (nI u))]) hx hb dX1_slipped_3 hl (by decide) rfl (fun ls hl => ?_)
  refine loopW (σ := Nat) 5 (fun (v : Nat) H locs ls => (v ≤ 5) ∧ va_P G vwCl [(h 0, .inr (1, [.ref (h 1), .ref (h 2), .int (nI rk), .int (nI sl)])), (h 1, .inl (cI, 7, .inl (fun i9 => nI (kd i9)))), (h 2, .inl (cI, 175, .inl (fun i9 => nI (tn i9))))] H ∧ va_D A [(h 0, .inr (1, [.ref (h 1), .ref (h 2), .int (nI rk), .int (nI sl)])), (h 1, .inl (cI, 7, .inl (fun i9 => nI (kd i9)))), (h 2, .inl (cI, 175, .inl (fun i9 => nI (tn i9))))] ∧ va_S A s.heap H locs ∧ lv_has ls 5 [(4, .int (nI v)), (3, .int (nI (sumN (slT tn k u) v))), (0, .ref (h 0)), (1, .int (nI k)), (2, .int (nI u))]) (fun (v : Nat) => []) (fun (v : Nat) => 5 - v) ?_ 0 ⟨by first | assumption | omega | (simp; done), hP.sub [0, 1, 2] rfl, hD.sub [0, 1, 2] (by decide) rfl, hS, lv_sub hl [0, 1, 2, 3, 4] rfl⟩
  intro xx9 H locs ls hI ih_5
  obtain ⟨v, rfl⟩ : ∃ z, z = xx9 := ⟨_, rfl⟩
  obtain ⟨hv, hP, hD, hS, hl⟩ := hI
  have hv : v ≤ 5 := hv
  have hP : va_P G vwCl [(h 0, .inr (1, [.ref (h 1), .ref (h 2), .int (nI rk), .int (nI sl)])), (h 1, .inl (cI, 7, .inl (fun i9 => nI (kd i9)))), (h 2, .inl (cI, 175, .inl (fun i9 => nI (tn i9))))] _ := hP
  have hD : va_D A [(h 0, .inr (1, [.ref (h 1), .ref (h 2), .int (nI rk), .int (nI sl)])), (h 1, .inl (cI, 7, .inl (fun i9 => nI (kd i9)))), (h 2, .inl (cI, 175, .inl (fun i9 => nI (tn i9))))] := hD
  have hl : lv_has ls 5 [(4, .int (nI v)), (3, .int (nI (sumN (slT tn k u) v))), (0, .ref (h 0)), (1, .int (nI k)), (2, .int (nI u))] := hl
  refine lv_iload hx hb dX1_slipped_5 (lv_at hl 0 rfl) ?_
  refine lv_iconst (v := nI 5) hx hb dX1_slipped_7 (by decide) ?_
  refine lv_icmp_ge (tgt := 28) hx hb dX1_slipped_8 (by decide) (fun c_8 => ?_) (fun c_8 => ?_)
  · skip
    have c_8 := n_geT c_8 (by omega) (by omega)
    refine lv_iload_n hx hb dX1_slipped_28 rfl (lv_at hl 1 rfl) ?_
    exact endI hx hb hr hlocks (()) (by rw [show v = 5 by omega]) (hP.sub [0, 1, 2] rfl) (hD.sub [0, 1, 2] (by decide) rfl) hS dX1_slipped_29
  · skip
    have c_8 := n_geF c_8 (by omega) (by omega)
    refine lv_iload_n hx hb dX1_slipped_11 rfl (lv_at hl 1 rfl) ?_
    refine lv_aload_n hx hb dX1_slipped_12 rfl (lv_at hl 2 rfl) ?_
    refine lv_iload_n hx hb dX1_slipped_13 rfl (lv_at hl 3 rfl) ?_
    refine lv_iload_n hx hb dX1_slipped_14 rfl (lv_at hl 4 rfl) ?_
    refine lv_iload hx hb dX1_slipped_15 (lv_at hl 0 rfl) ?_
    refine aft_i (wr := []) (va_runV (As := [.int (nI k), .int (nI u), .int (nI v)]) (rest := [.int (nI (sumN (slT tn k u) v))]) ⟨hx, hb, hml, hown, hts⟩ (c_X1_slipTenths (h := h) (kd := kd) (tn := tn) (rk := rk) (sl := sl) (k := k) (u := u) (v := v) (hk := by first | assumption | omega) (hu := by first | assumption | omega) (hv := by first | assumption | omega) _) (cwV 3 hts gX1_slipped_X1_slipTenths rfl rfl rfl (by decide +kernel) ⟨Nat.le_of_ble_eq_true rfl, Nat.le_of_ble_eq_true rfl⟩) (preV (cq := (RX1, TX1, 4)) (q0 := 0) (ci := 1) hK hP hD [0, 1, 2] rfl rfl rfl rfl) rfl rfl hl.1 rfl (lv_room (Nat.le_of_ble_eq_true rfl)) dX1_slipped_17 ⟨Nat.le_of_ble_eq_true rfl, Nat.le_of_ble_eq_true rfl⟩) hP hD hS hA [0, 1, 2] [] rfl rfl rfl (by decide) (fun r_17 uu9 H locs hw hP hD hS => ?_)
    have hP : va_P G vwCl [(h 0, .inr (1, [.ref (h 1), .ref (h 2), .int (nI rk), .int (nI sl)])), (h 1, .inl (cI, 7, .inl (fun i9 => nI (kd i9)))), (h 2, .inl (cI, 175, .inl (fun i9 => nI (tn i9))))] _ := hP
    have hD : va_D A [(h 0, .inr (1, [.ref (h 1), .ref (h 2), .int (nI rk), .int (nI sl)])), (h 1, .inl (cI, 7, .inl (fun i9 => nI (kd i9)))), (h 2, .inl (cI, 175, .inl (fun i9 => nI (tn i9))))] := hD
    obtain rfl := hw
    refine top_i (y := nI (slT tn k u v)) rfl ?_
    refine lv_iadd hx hb dX1_slipped_20 ?_
    refine top_i (y := nI (sumN (slT tn k u) v + (slT tn k u v))) (nI_add _ _) ?_
    refine lv_istore_n (lv' := [(3, .int (nI (sumN (slT tn k u) v + (slT tn k u v)))), (4, .int (nI v)), (0, .ref (h 0)), (1, .int (nI k)), (2, .int (nI u))]) hx hb dX1_slipped_21 rfl hl (by decide) rfl (fun ls hl => ?_)
    refine lv_iinc (v := nI (v + 1)) (lv' := [(4, .int (nI (v + 1))), (3, .int (nI (sumN (slT tn k u) v + (slT tn k u v)))), (0, .ref (h 0)), (1, .int (nI k)), (2, .int (nI u))]) hx hb dX1_slipped_22 hl (k := 1) rfl (nI_inc _ 1 1 (by decide)) (by decide) rfl (fun ls hl => ?_)
    refine lv_goto (tgt := 5) hx hb dX1_slipped_25 (by decide) ?_
    exact ih_5 (v + 1) _ _ _ (by first | omega | (simp only []; omega) | (show _ < _; omega)) ⟨by first | assumption | omega | (simp; done), hP.sub [0, 1, 2] rfl, hD.sub [0, 1, 2] (by decide) rfl, hS, lv_sub hl [0, 1, 2, 3, 4] rfl⟩

set_option maxHeartbeats 4000000 in
set_option maxRecDepth 100000 in
theorem c_X1_canSlipTo {l : Launch} {G : va_G} {cI cJ cZ cS : ClassId} (h : Nat → Nat) (kd : Nat → Nat) (tn : Nat → Nat) (rk : Nat) (sl : Nat) (k : Nat) (u : Nat) (v : Nat) (hk : k < 7) (hu : u < 5) (hv : v < 5) (ht : ∀ i, i < 175 → tn i < 10) : CI l G (kT cI cJ cZ cS) (S := Unit) yX1_canSlipTo wsX1_canSlipTo { frames := 2, cells := 0, slots := 0, locals := 45 } [.ref (h 0), .int (nI k), .int (nI u), .int (nI v)] [(h 0, .inr (1, [.ref (h 1), .ref (h 2), .int (nI rk), .int (nI sl)])), (h 1, .inl (cI, 7, .inl (fun i9 => nI (kd i9)))), (h 2, .inl (cI, 175, .inl (fun i9 => nI (tn i9))))] (fun res _ => res = bI (¬ v = u ∧ slT tn k u v = 0)) (fun _ => [(h 0, .inr (1, [.ref (h 1), .ref (h 2), .int (nI rk), .int (nI sl)])), (h 1, .inl (cI, 7, .inl (fun i9 => nI (kd i9)))), (h 2, .inl (cI, 175, .inl (fun i9 => nI (tn i9))))]) := by
  refine CI.of (cc := cX1_canSlipTo) (maxL := 4) (by decide) rfl (Nat.le_of_ble_eq_true rfl) ?_
  intro p e s m below meth c A ls hB
  obtain ⟨hx, hb, hml, hr, hts, hown, hlocks, hmn, hK, hP, hD, hS, hA, hl⟩ := hB
  have hP : va_P G vwCl [(h 0, .inr (1, [.ref (h 1), .ref (h 2), .int (nI rk), .int (nI sl)])), (h 1, .inl (cI, 7, .inl (fun i9 => nI (kd i9)))), (h 2, .inl (cI, 175, .inl (fun i9 => nI (tn i9))))] s.heap := hP
  have hD : va_D A [(h 0, .inr (1, [.ref (h 1), .ref (h 2), .int (nI rk), .int (nI sl)])), (h 1, .inl (cI, 7, .inl (fun i9 => nI (kd i9)))), (h 2, .inl (cI, 175, .inl (fun i9 => nI (tn i9))))] := hD
  have hl : lv_has ls 4 [(0, .ref (h 0)), (1, .int (nI k)), (2, .int (nI u)), (3, .int (nI v))] := hl
  refine lv_iload_n hx hb dX1_canSlipTo_0 rfl (lv_at hl 3 rfl) ?_
  refine lv_iload_n hx hb dX1_canSlipTo_1 rfl (lv_at hl 2 rfl) ?_
  refine lv_icmp_eq (tgt := 19) hx hb dX1_canSlipTo_2 (by decide) (fun c_2 => ?_) (fun c_2 => ?_)
  · skip
    have c_2 := n_eqT c_2 (by omega) (by omega)
    refine lv_iconst (v := nI 0) hx hb dX1_canSlipTo_19 (by decide) ?_
    exact endZ hx hb hr hlocks (rfl) (()) (bI_n (fun z => z.1 (by omega))) (hP.sub [0, 1, 2] rfl) (hD.sub [0, 1, 2] (by decide) rfl) hS dX1_canSlipTo_20
  · skip
    have c_2 := n_eqF c_2 (by omega) (by omega)
    refine lv_aload_n hx hb dX1_canSlipTo_5 rfl (lv_at hl 0 rfl) ?_
    refine lv_iload_n hx hb dX1_canSlipTo_6 rfl (lv_at hl 1 rfl) ?_
    refine lv_iload_n hx hb dX1_canSlipTo_7 rfl (lv_at hl 2 rfl) ?_
    refine lv_iload_n hx hb dX1_canSlipTo_8 rfl (lv_at hl 3 rfl) ?_
    refine aft_i (wr := []) (va_runV (As := [.int (nI k), .int (nI u), .int (nI v)]) (rest := []) ⟨hx, hb, hml, hown, hts⟩ (c_X1_slipTenths (h := h) (kd := kd) (tn := tn) (rk := rk) (sl := sl) (k := k) (u := u) (v := v) (hk := by first | assumption | omega) (hu := by first | assumption | omega) (hv := by first | assumption | omega) _) (cwV 3 hts gX1_canSlipTo_X1_slipTenths rfl rfl rfl (by decide +kernel) ⟨Nat.le_of_ble_eq_true rfl, Nat.le_of_ble_eq_true rfl⟩) (preV (cq := (RX1, TX1, 4)) (q0 := 0) (ci := 1) hK hP hD [0, 1, 2] rfl rfl rfl rfl) rfl rfl hl.1 rfl (lv_room (Nat.le_of_ble_eq_true rfl)) dX1_canSlipTo_9 ⟨Nat.le_of_ble_eq_true rfl, Nat.le_of_ble_eq_true rfl⟩) hP hD hS hA [0, 1, 2] [] rfl rfl rfl (by decide) (fun r_9 uu9 H locs hw hP hD hS => ?_)
    have hP : va_P G vwCl [(h 0, .inr (1, [.ref (h 1), .ref (h 2), .int (nI rk), .int (nI sl)])), (h 1, .inl (cI, 7, .inl (fun i9 => nI (kd i9)))), (h 2, .inl (cI, 175, .inl (fun i9 => nI (tn i9))))] _ := hP
    have hD : va_D A [(h 0, .inr (1, [.ref (h 1), .ref (h 2), .int (nI rk), .int (nI sl)])), (h 1, .inl (cI, 7, .inl (fun i9 => nI (kd i9)))), (h 2, .inl (cI, 175, .inl (fun i9 => nI (tn i9))))] := hD
    obtain rfl := hw
    refine top_i (y := nI (slT tn k u v)) rfl ?_
    have ht9 : slT tn k u v < 10 := ht _ (by omega)
    refine lv_if_ne (tgt := 19) hx hb dX1_canSlipTo_12 (by decide) (fun c_12 => ?_) (fun c_12 => ?_)
    · skip
      have c_12 := z_neT c_12 (by omega)
      refine lv_iconst (v := nI 0) hx hb dX1_canSlipTo_19 (by decide) ?_
      exact endZ hx hb hr hlocks (rfl) (()) (bI_n (fun z => by omega)) (hP.sub [0, 1, 2] rfl) (hD.sub [0, 1, 2] (by decide) rfl) hS dX1_canSlipTo_20
    · skip
      have c_12 := z_neF c_12 (by omega)
      refine lv_iconst (v := nI 1) hx hb dX1_canSlipTo_15 (by decide) ?_
      refine lv_goto (tgt := 20) hx hb dX1_canSlipTo_16 (by decide) ?_
      exact endZ hx hb hr hlocks (rfl) (()) (bI_y ⟨by omega, by omega⟩) (hP.sub [0, 1, 2] rfl) (hD.sub [0, 1, 2] (by decide) rfl) hS dX1_canSlipTo_20

set_option maxHeartbeats 4000000 in
set_option maxRecDepth 100000 in
theorem c_X1_canSlip {l : Launch} {G : va_G} {cI cJ cZ cS : ClassId} (h : Nat → Nat) (kd : Nat → Nat) (tn : Nat → Nat) (rk : Nat) (sl : Nat) (k : Nat) (u : Nat) (hk : k < 7) (hu : u < 5) (ht : ∀ i, i < 175 → tn i < 10) : CI l G (kT cI cJ cZ cS) (S := Unit) yX1_canSlip wsX1_canSlip { frames := 3, cells := 0, slots := 0, locals := 69 } [.ref (h 0), .int (nI k), .int (nI u)] [(h 0, .inr (1, [.ref (h 1), .ref (h 2), .int (nI rk), .int (nI sl)])), (h 1, .inl (cI, 7, .inl (fun i9 => nI (kd i9)))), (h 2, .inl (cI, 175, .inl (fun i9 => nI (tn i9))))] (fun res _ => res = bI (sumN (slT tn k u) 5 < 10 ∧ ∃ v, v < 5 ∧ ¬ v = u ∧ slT tn k u v = 0)) (fun _ => [(h 0, .inr (1, [.ref (h 1), .ref (h 2), .int (nI rk), .int (nI sl)])), (h 1, .inl (cI, 7, .inl (fun i9 => nI (kd i9)))), (h 2, .inl (cI, 175, .inl (fun i9 => nI (tn i9))))]) := by
  refine CI.of (cc := cX1_canSlip) (maxL := 4) (by decide) rfl (Nat.le_of_ble_eq_true rfl) ?_
  intro p e s m below meth c A ls hB
  obtain ⟨hx, hb, hml, hr, hts, hown, hlocks, hmn, hK, hP, hD, hS, hA, hl⟩ := hB
  have hP : va_P G vwCl [(h 0, .inr (1, [.ref (h 1), .ref (h 2), .int (nI rk), .int (nI sl)])), (h 1, .inl (cI, 7, .inl (fun i9 => nI (kd i9)))), (h 2, .inl (cI, 175, .inl (fun i9 => nI (tn i9))))] s.heap := hP
  have hD : va_D A [(h 0, .inr (1, [.ref (h 1), .ref (h 2), .int (nI rk), .int (nI sl)])), (h 1, .inl (cI, 7, .inl (fun i9 => nI (kd i9)))), (h 2, .inl (cI, 175, .inl (fun i9 => nI (tn i9))))] := hD
  have hl : lv_has ls 4 [(0, .ref (h 0)), (1, .int (nI k)), (2, .int (nI u))] := hl
  refine lv_aload_n hx hb dX1_canSlip_0 rfl (lv_at hl 0 rfl) ?_
  refine lv_iload_n hx hb dX1_canSlip_1 rfl (lv_at hl 1 rfl) ?_
  refine lv_iload_n hx hb dX1_canSlip_2 rfl (lv_at hl 2 rfl) ?_
  refine aft_i (wr := []) (va_runV (As := [.int (nI k), .int (nI u)]) (rest := []) ⟨hx, hb, hml, hown, hts⟩ (c_X1_slipped (h := h) (kd := kd) (tn := tn) (rk := rk) (sl := sl) (k := k) (u := u) (hk := by first | assumption | omega) (hu := by first | assumption | omega) _) (cwV 2 hts gX1_canSlip_X1_slipped rfl rfl rfl (by decide +kernel) ⟨Nat.le_of_ble_eq_true rfl, Nat.le_of_ble_eq_true rfl⟩) (preV (cq := (RX1, TX1, 4)) (q0 := 0) (ci := 1) hK hP hD [0, 1, 2] rfl rfl rfl rfl) rfl rfl hl.1 rfl (lv_room (Nat.le_of_ble_eq_true rfl)) dX1_canSlip_3 ⟨Nat.le_of_ble_eq_true rfl, Nat.le_of_ble_eq_true rfl⟩) hP hD hS hA [0, 1, 2] [] rfl rfl rfl (by decide) (fun r_3 uu9 H locs hw hP hD hS => ?_)
  have hP : va_P G vwCl [(h 0, .inr (1, [.ref (h 1), .ref (h 2), .int (nI rk), .int (nI sl)])), (h 1, .inl (cI, 7, .inl (fun i9 => nI (kd i9)))), (h 2, .inl (cI, 175, .inl (fun i9 => nI (tn i9))))] _ := hP
  have hD : va_D A [(h 0, .inr (1, [.ref (h 1), .ref (h 2), .int (nI rk), .int (nI sl)])), (h 1, .inl (cI, 7, .inl (fun i9 => nI (kd i9)))), (h 2, .inl (cI, 175, .inl (fun i9 => nI (tn i9))))] := hD
  obtain rfl := hw
  refine top_i (y := nI (sumN (slT tn k u) 5)) rfl ?_
  refine lv_bipush (v := nI 10) hx hb dX1_canSlip_6 (by decide) ?_
  have hs9 : sumN (slT tn k u) 5 < 51 := sumN_lt5 (fun j hj => ht _ (by omega))
  refine lv_icmp_lt (tgt := 13) hx hb dX1_canSlip_8 (by decide) (fun c_8 => ?_) (fun c_8 => ?_)
  · skip
    have c_8 := n_ltT c_8 (by omega) (by omega)
    refine lv_iconst (v := nI 0) hx hb dX1_canSlip_13 (by decide) ?_
    refine lv_istore_n (lv' := [(3, .int (nI 0)), (0, .ref (h 0)), (1, .int (nI k)), (2, .int (nI u))]) hx hb dX1_canSlip_14 rfl hl (by decide) rfl (fun ls hl => ?_)
    refine loopW (σ := Nat) 15 (fun (v : Nat) H locs ls => (v ≤ 5) ∧ (∀ w, w < v → ¬ (¬ w = u ∧ slT tn k u w = 0)) ∧ va_P G vwCl [(h 0, .inr (1, [.ref (h 1), .ref (h 2), .int (nI rk), .int (nI sl)])), (h 1, .inl (cI, 7, .inl (fun i9 => nI (kd i9)))), (h 2, .inl (cI, 175, .inl (fun i9 => nI (tn i9))))] H ∧ va_D A [(h 0, .inr (1, [.ref (h 1), .ref (h 2), .int (nI rk), .int (nI sl)])), (h 1, .inl (cI, 7, .inl (fun i9 => nI (kd i9)))), (h 2, .inl (cI, 175, .inl (fun i9 => nI (tn i9))))] ∧ va_S A s.heap H locs ∧ lv_has ls 4 [(3, .int (nI v)), (0, .ref (h 0)), (1, .int (nI k)), (2, .int (nI u))]) (fun (v : Nat) => []) (fun (v : Nat) => 5 - v) ?_ 0 ⟨by first | assumption | omega | (simp; done), by first | assumption | omega | (simp; done), hP.sub [0, 1, 2] rfl, hD.sub [0, 1, 2] (by decide) rfl, hS, lv_sub hl [0, 1, 2, 3] rfl⟩
    intro xx9 H locs ls hI ih_15
    obtain ⟨v, rfl⟩ : ∃ z, z = xx9 := ⟨_, rfl⟩
    obtain ⟨hv, hno, hP, hD, hS, hl⟩ := hI
    have hv : v ≤ 5 := hv
    have hno : ∀ w, w < v → ¬ (¬ w = u ∧ slT tn k u w = 0) := hno
    have hP : va_P G vwCl [(h 0, .inr (1, [.ref (h 1), .ref (h 2), .int (nI rk), .int (nI sl)])), (h 1, .inl (cI, 7, .inl (fun i9 => nI (kd i9)))), (h 2, .inl (cI, 175, .inl (fun i9 => nI (tn i9))))] _ := hP
    have hD : va_D A [(h 0, .inr (1, [.ref (h 1), .ref (h 2), .int (nI rk), .int (nI sl)])), (h 1, .inl (cI, 7, .inl (fun i9 => nI (kd i9)))), (h 2, .inl (cI, 175, .inl (fun i9 => nI (tn i9))))] := hD
    have hl : lv_has ls 4 [(3, .int (nI v)), (0, .ref (h 0)), (1, .int (nI k)), (2, .int (nI u))] := hl
    refine lv_iload_n hx hb dX1_canSlip_15 rfl (lv_at hl 0 rfl) ?_
    refine lv_iconst (v := nI 5) hx hb dX1_canSlip_16 (by decide) ?_
    refine lv_icmp_ge (tgt := 38) hx hb dX1_canSlip_17 (by decide) (fun c_17 => ?_) (fun c_17 => ?_)
    · skip
      have c_17 := n_geT c_17 (by omega) (by omega)
      refine lv_iconst (v := nI 0) hx hb dX1_canSlip_38 (by decide) ?_
      exact endZ hx hb hr hlocks (rfl) (()) (bI_n (fun z => by obtain ⟨-, w, h1, h2⟩ := z; exact hno w (by omega) h2)) (hP.sub [0, 1, 2] rfl) (hD.sub [0, 1, 2] (by decide) rfl) hS dX1_canSlip_39
    · skip
      have c_17 := n_geF c_17 (by omega) (by omega)
      refine lv_aload_n hx hb dX1_canSlip_20 rfl (lv_at hl 1 rfl) ?_
      refine lv_iload_n hx hb dX1_canSlip_21 rfl (lv_at hl 2 rfl) ?_
      refine lv_iload_n hx hb dX1_canSlip_22 rfl (lv_at hl 3 rfl) ?_
      refine lv_iload_n hx hb dX1_canSlip_23 rfl (lv_at hl 0 rfl) ?_
      refine aft_i (wr := []) (va_runV (As := [.int (nI k), .int (nI u), .int (nI v)]) (rest := []) ⟨hx, hb, hml, hown, hts⟩ (c_X1_canSlipTo (h := h) (kd := kd) (tn := tn) (rk := rk) (sl := sl) (k := k) (u := u) (v := v) (hk := by first | assumption | omega) (hu := by first | assumption | omega) (hv := by first | assumption | omega) (ht := by first | assumption | omega) _) (cwV 3 hts gX1_canSlip_X1_canSlipTo rfl rfl rfl (by decide +kernel) ⟨Nat.le_of_ble_eq_true rfl, Nat.le_of_ble_eq_true rfl⟩) (preV (cq := (RX1, TX1, 4)) (q0 := 0) (ci := 1) hK hP hD [0, 1, 2] rfl rfl rfl rfl) rfl rfl hl.1 rfl (lv_room (Nat.le_of_ble_eq_true rfl)) dX1_canSlip_24 ⟨Nat.le_of_ble_eq_true rfl, Nat.le_of_ble_eq_true rfl⟩) hP hD hS hA [0, 1, 2] [] rfl rfl rfl (by decide) (fun r_24 uu9 H locs hw hP hD hS => ?_)
      have hP : va_P G vwCl [(h 0, .inr (1, [.ref (h 1), .ref (h 2), .int (nI rk), .int (nI sl)])), (h 1, .inl (cI, 7, .inl (fun i9 => nI (kd i9)))), (h 2, .inl (cI, 175, .inl (fun i9 => nI (tn i9))))] _ := hP
      have hD : va_D A [(h 0, .inr (1, [.ref (h 1), .ref (h 2), .int (nI rk), .int (nI sl)])), (h 1, .inl (cI, 7, .inl (fun i9 => nI (kd i9)))), (h 2, .inl (cI, 175, .inl (fun i9 => nI (tn i9))))] := hD
      obtain rfl := hw
      refine top_i (y := bI (¬ v = u ∧ slT tn k u v = 0)) rfl ?_
      refine lv_if_eq (tgt := 32) hx hb dX1_canSlip_27 (by decide) (fun c_27 => ?_) (fun c_27 => ?_)
      · skip
        have c_27 := bI_f c_27
        refine lv_iinc (v := nI (v + 1)) (lv' := [(3, .int (nI (v + 1))), (0, .ref (h 0)), (1, .int (nI k)), (2, .int (nI u))]) hx hb dX1_canSlip_32 hl (k := 0) rfl (nI_inc _ 1 1 (by decide)) (by decide) rfl (fun ls hl => ?_)
        refine lv_goto (tgt := 15) hx hb dX1_canSlip_35 (by decide) ?_
        exact ih_15 (v + 1) _ _ _ (by first | omega | (simp only []; omega) | (show _ < _; omega)) ⟨by first | assumption | omega | (simp; done), lt_s hno c_27, hP.sub [0, 1, 2] rfl, hD.sub [0, 1, 2] (by decide) rfl, hS, lv_sub hl [0, 1, 2, 3] rfl⟩
      · skip
        have c_27 := bI_t c_27
        refine lv_iconst (v := nI 1) hx hb dX1_canSlip_30 (by decide) ?_
        exact endZ hx hb hr hlocks (rfl) (()) (bI_y ⟨c_8, v, by omega, c_27⟩) (hP.sub [0, 1, 2] rfl) (hD.sub [0, 1, 2] (by decide) rfl) hS dX1_canSlip_31
  · skip
    have c_8 := n_ltF c_8 (by omega) (by omega)
    refine lv_iconst (v := nI 0) hx hb dX1_canSlip_11 (by decide) ?_
    exact endZ hx hb hr hlocks (rfl) (()) (bI_n (fun z => by omega)) (hP.sub [0, 1, 2] rfl) (hD.sub [0, 1, 2] (by decide) rfl) hS dX1_canSlip_12

set_option maxHeartbeats 4000000 in
set_option maxRecDepth 100000 in
theorem c_X1_wayTenths {l : Launch} {G : va_G} {cI cJ cZ cS : ClassId} (h : Nat → Nat) (kd : Nat → Nat) (tn : Nat → Nat) (rk : Nat) (sl : Nat) (k : Nat) (u : Nat) (v : Nat) (hk : k < 7) (hu : u < 5) (hv : v < 5) (hs : sumN (slT tn k u) 5 ≤ 10) : CI l G (kT cI cJ cZ cS) (S := Unit) yX1_wayTenths wsX1_wayTenths { frames := 3, cells := 0, slots := 0, locals := 69 } [.ref (h 0), .int (nI k), .int (nI u), .int (nI v)] [(h 0, .inr (1, [.ref (h 1), .ref (h 2), .int (nI rk), .int (nI sl)])), (h 1, .inl (cI, 7, .inl (fun i9 => nI (kd i9)))), (h 2, .inl (cI, 175, .inl (fun i9 => nI (tn i9))))] (fun res _ => res = nI (wayT tn k u v)) (fun _ => [(h 0, .inr (1, [.ref (h 1), .ref (h 2), .int (nI rk), .int (nI sl)])), (h 1, .inl (cI, 7, .inl (fun i9 => nI (kd i9)))), (h 2, .inl (cI, 175, .inl (fun i9 => nI (tn i9))))]) := by
  refine CI.of (cc := cX1_wayTenths) (maxL := 4) (by decide) rfl (Nat.le_of_ble_eq_true rfl) ?_
  intro p e s m below meth c A ls hB
  obtain ⟨hx, hb, hml, hr, hts, hown, hlocks, hmn, hK, hP, hD, hS, hA, hl⟩ := hB
  have hP : va_P G vwCl [(h 0, .inr (1, [.ref (h 1), .ref (h 2), .int (nI rk), .int (nI sl)])), (h 1, .inl (cI, 7, .inl (fun i9 => nI (kd i9)))), (h 2, .inl (cI, 175, .inl (fun i9 => nI (tn i9))))] s.heap := hP
  have hD : va_D A [(h 0, .inr (1, [.ref (h 1), .ref (h 2), .int (nI rk), .int (nI sl)])), (h 1, .inl (cI, 7, .inl (fun i9 => nI (kd i9)))), (h 2, .inl (cI, 175, .inl (fun i9 => nI (tn i9))))] := hD
  have hl : lv_has ls 4 [(0, .ref (h 0)), (1, .int (nI k)), (2, .int (nI u)), (3, .int (nI v))] := hl
  refine lv_iload_n hx hb dX1_wayTenths_0 rfl (lv_at hl 2 rfl) ?_
  refine lv_iload_n hx hb dX1_wayTenths_1 rfl (lv_at hl 3 rfl) ?_
  refine lv_icmp_ne (tgt := 17) hx hb dX1_wayTenths_2 (by decide) (fun c_2 => ?_) (fun c_2 => ?_)
  · skip
    have c_2 := n_neT c_2 (by omega) (by omega)
    refine lv_aload_n hx hb dX1_wayTenths_17 rfl (lv_at hl 0 rfl) ?_
    refine lv_iload_n hx hb dX1_wayTenths_18 rfl (lv_at hl 1 rfl) ?_
    refine lv_iload_n hx hb dX1_wayTenths_19 rfl (lv_at hl 2 rfl) ?_
    refine lv_iload_n hx hb dX1_wayTenths_20 rfl (lv_at hl 3 rfl) ?_
    refine aft_i (wr := []) (va_runV (As := [.int (nI k), .int (nI u), .int (nI v)]) (rest := []) ⟨hx, hb, hml, hown, hts⟩ (c_X1_slipTenths (h := h) (kd := kd) (tn := tn) (rk := rk) (sl := sl) (k := k) (u := u) (v := v) (hk := by first | assumption | omega) (hu := by first | assumption | omega) (hv := by first | assumption | omega) _) (cwV 3 hts gX1_wayTenths_X1_slipTenths rfl rfl rfl (by decide +kernel) ⟨Nat.le_of_ble_eq_true rfl, Nat.le_of_ble_eq_true rfl⟩) (preV (cq := (RX1, TX1, 4)) (q0 := 0) (ci := 1) hK hP hD [0, 1, 2] rfl rfl rfl rfl) rfl rfl hl.1 rfl (lv_room (Nat.le_of_ble_eq_true rfl)) dX1_wayTenths_21 ⟨Nat.le_of_ble_eq_true rfl, Nat.le_of_ble_eq_true rfl⟩) hP hD hS hA [0, 1, 2] [] rfl rfl rfl (by decide) (fun r_21 uu9 H locs hw hP hD hS => ?_)
    have hP : va_P G vwCl [(h 0, .inr (1, [.ref (h 1), .ref (h 2), .int (nI rk), .int (nI sl)])), (h 1, .inl (cI, 7, .inl (fun i9 => nI (kd i9)))), (h 2, .inl (cI, 175, .inl (fun i9 => nI (tn i9))))] _ := hP
    have hD : va_D A [(h 0, .inr (1, [.ref (h 1), .ref (h 2), .int (nI rk), .int (nI sl)])), (h 1, .inl (cI, 7, .inl (fun i9 => nI (kd i9)))), (h 2, .inl (cI, 175, .inl (fun i9 => nI (tn i9))))] := hD
    obtain rfl := hw
    refine top_i (y := nI (slT tn k u v)) rfl ?_
    exact endI hx hb hr hlocks (()) (by rw [wayT, if_neg c_2]) (hP.sub [0, 1, 2] rfl) (hD.sub [0, 1, 2] (by decide) rfl) hS dX1_wayTenths_24
  · skip
    have c_2 := n_neF c_2 (by omega) (by omega)
    refine lv_bipush (v := nI 10) hx hb dX1_wayTenths_5 (by decide) ?_
    refine lv_aload_n hx hb dX1_wayTenths_7 rfl (lv_at hl 0 rfl) ?_
    refine lv_iload_n hx hb dX1_wayTenths_8 rfl (lv_at hl 1 rfl) ?_
    refine lv_iload_n hx hb dX1_wayTenths_9 rfl (lv_at hl 2 rfl) ?_
    refine aft_i (wr := []) (va_runV (As := [.int (nI k), .int (nI u)]) (rest := [.int (nI 10)]) ⟨hx, hb, hml, hown, hts⟩ (c_X1_slipped (h := h) (kd := kd) (tn := tn) (rk := rk) (sl := sl) (k := k) (u := u) (hk := by first | assumption | omega) (hu := by first | assumption | omega) _) (cwV 2 hts gX1_wayTenths_X1_slipped rfl rfl rfl (by decide +kernel) ⟨Nat.le_of_ble_eq_true rfl, Nat.le_of_ble_eq_true rfl⟩) (preV (cq := (RX1, TX1, 4)) (q0 := 0) (ci := 1) hK hP hD [0, 1, 2] rfl rfl rfl rfl) rfl rfl hl.1 rfl (lv_room (Nat.le_of_ble_eq_true rfl)) dX1_wayTenths_10 ⟨Nat.le_of_ble_eq_true rfl, Nat.le_of_ble_eq_true rfl⟩) hP hD hS hA [0, 1, 2] [] rfl rfl rfl (by decide) (fun r_10 uu9 H locs hw hP hD hS => ?_)
    have hP : va_P G vwCl [(h 0, .inr (1, [.ref (h 1), .ref (h 2), .int (nI rk), .int (nI sl)])), (h 1, .inl (cI, 7, .inl (fun i9 => nI (kd i9)))), (h 2, .inl (cI, 175, .inl (fun i9 => nI (tn i9))))] _ := hP
    have hD : va_D A [(h 0, .inr (1, [.ref (h 1), .ref (h 2), .int (nI rk), .int (nI sl)])), (h 1, .inl (cI, 7, .inl (fun i9 => nI (kd i9)))), (h 2, .inl (cI, 175, .inl (fun i9 => nI (tn i9))))] := hD
    obtain rfl := hw
    refine top_i (y := nI (sumN (slT tn k u) 5)) rfl ?_
    refine lv_isub hx hb dX1_wayTenths_13 ?_
    refine top_i (y := nI (10 - (sumN (slT tn k u) 5))) (pk_sub (by omega)) ?_
    refine lv_goto (tgt := 24) hx hb dX1_wayTenths_14 (by decide) ?_
    exact endI hx hb hr hlocks (()) (by rw [wayT, if_pos c_2]) (hP.sub [0, 1, 2] rfl) (hD.sub [0, 1, 2] (by decide) rfl) hS dX1_wayTenths_24

set_option maxHeartbeats 4000000 in
set_option maxRecDepth 100000 in
theorem c_X1_hears {l : Launch} {G : va_G} {cI cJ cZ cS : ClassId} (h : Nat → Nat) (kd : Nat → Nat) (tn : Nat → Nat) (rk : Nat) (sl : Nat) (k : Nat) (o : Nat) (hk : k < 7) (ho : o < 5) (hd : kd k < 4) : CI l G (kT cI cJ cZ cS) (S := Unit) yX1_hears wsX1_hears { frames := 0, cells := 0, slots := 0, locals := 0 } [.ref (h 0), .int (nI k), .int (nI o)] [(h 0, .inr (1, [.ref (h 1), .ref (h 2), .int (nI rk), .int (nI sl)])), (h 1, .inl (cI, 7, .inl (fun i9 => nI (kd i9)))), (h 2, .inl (cI, 175, .inl (fun i9 => nI (tn i9))))] (fun res _ => res = nI (turnN (kd k) o)) (fun _ => [(h 0, .inr (1, [.ref (h 1), .ref (h 2), .int (nI rk), .int (nI sl)])), (h 1, .inl (cI, 7, .inl (fun i9 => nI (kd i9)))), (h 2, .inl (cI, 175, .inl (fun i9 => nI (tn i9))))]) := by
  refine CI.of (cc := cX1_hears) (maxL := 3) (by decide) rfl (Nat.le_of_ble_eq_true rfl) ?_
  intro p e s m below meth c A ls hB
  obtain ⟨hx, hb, hml, hr, hts, hown, hlocks, hmn, hK, hP, hD, hS, hA, hl⟩ := hB
  have hP : va_P G vwCl [(h 0, .inr (1, [.ref (h 1), .ref (h 2), .int (nI rk), .int (nI sl)])), (h 1, .inl (cI, 7, .inl (fun i9 => nI (kd i9)))), (h 2, .inl (cI, 175, .inl (fun i9 => nI (tn i9))))] s.heap := hP
  have hD : va_D A [(h 0, .inr (1, [.ref (h 1), .ref (h 2), .int (nI rk), .int (nI sl)])), (h 1, .inl (cI, 7, .inl (fun i9 => nI (kd i9)))), (h 2, .inl (cI, 175, .inl (fun i9 => nI (tn i9))))] := hD
  have hl : lv_has ls 3 [(0, .ref (h 0)), (1, .int (nI k)), (2, .int (nI o))] := hl
  have k_0 := hts (.fieldLink RX1 9 "HearsayMarch$Army" "kinds" "[I") (by decide +kernel)
  have hin1 : ∀ w ∈ wsX10, w ∈ wsX1_hears := by decide +kernel
  refine lv_aload_n hx hb dX1_hears_0 rfl (lv_at hl 0 rfl) ?_
  refine va_get (D := G) (ci := 1) (v := .ref (h 1)) (C := RX1) (T := TX1) (N := 4) hx hb hts hin1 hown hK.1 hP 0 rfl rfl 0 (by decide) k_0 (fun _ h9 => h9) rfl dX1_hears_1 ?_
  refine lv_iload_n hx hb dX1_hears_4 rfl (lv_at hl 1 rfl) ?_
  refine ald hx hb hK hP 1 0 rfl rfl (j := k) (by omega) (by omega) dX1_hears_5 ?_
  refine lv_iconst (v := nI 2) hx hb dX1_hears_6 (by decide) ?_
  refine lv_icmp_eq (tgt := 12) hx hb dX1_hears_7 (by decide) (fun c_7 => ?_) (fun c_7 => ?_)
  · skip
    have c_7 := n_eqT c_7 (by omega) (by omega)
    refine lv_iload_n hx hb dX1_hears_12 rfl (lv_at hl 2 rfl) ?_
    refine lv_iconst (v := nI 2) hx hb dX1_hears_13 (by decide) ?_
    refine lv_icmp_ne (tgt := 19) hx hb dX1_hears_14 (by decide) (fun c_14 => ?_) (fun c_14 => ?_)
    · skip
      have c_14 := n_neT c_14 (by omega) (by omega)
      refine lv_iload_n hx hb dX1_hears_19 rfl (lv_at hl 2 rfl) ?_
      refine lv_iconst (v := nI 3) hx hb dX1_hears_20 (by decide) ?_
      refine lv_icmp_ne (tgt := 28) hx hb dX1_hears_21 (by decide) (fun c_21 => ?_) (fun c_21 => ?_)
      · skip
        have c_21 := n_neT c_21 (by omega) (by omega)
        refine lv_iload_n hx hb dX1_hears_28 rfl (lv_at hl 2 rfl) ?_
        exact endI hx hb hr hlocks (()) (by rw [turnN, if_pos c_7, if_neg c_14, if_neg c_21]) (hP.sub [0, 1, 2] rfl) (hD.sub [0, 1, 2] (by decide) rfl) hS dX1_hears_29
      · skip
        have c_21 := n_neF c_21 (by omega) (by omega)
        refine lv_iconst (v := nI 2) hx hb dX1_hears_24 (by decide) ?_
        refine lv_goto (tgt := 29) hx hb dX1_hears_25 (by decide) ?_
        exact endI hx hb hr hlocks (()) (by rw [turnN, if_pos c_7, if_neg c_14, if_pos c_21]) (hP.sub [0, 1, 2] rfl) (hD.sub [0, 1, 2] (by decide) rfl) hS dX1_hears_29
    · skip
      have c_14 := n_neF c_14 (by omega) (by omega)
      refine lv_iconst (v := nI 3) hx hb dX1_hears_17 (by decide) ?_
      exact endI hx hb hr hlocks (()) (by rw [turnN, if_pos c_7, if_pos c_14]) (hP.sub [0, 1, 2] rfl) (hD.sub [0, 1, 2] (by decide) rfl) hS dX1_hears_18
  · skip
    have c_7 := n_eqF c_7 (by omega) (by omega)
    refine lv_iload_n hx hb dX1_hears_10 rfl (lv_at hl 2 rfl) ?_
    exact endI hx hb hr hlocks (()) (by rw [turnN, if_neg c_7]) (hP.sub [0, 1, 2] rfl) (hD.sub [0, 1, 2] (by decide) rfl) hS dX1_hears_11

set_option maxHeartbeats 4000000 in
set_option maxRecDepth 100000 in
theorem c_X1_has {l : Launch} {G : va_G} {cI cJ cZ cS : ClassId} (h : Nat → Nat) (kd : Nat → Nat) (tn : Nat → Nat) (rk : Nat) (sl : Nat) (r : Int32) (hrk : rk < 8) : CI l G (kT cI cJ cZ cS) (S := Unit) yX1_has wsX1_has { frames := 0, cells := 0, slots := 0, locals := 0 } [.ref (h 0), .int r] [(h 0, .inr (1, [.ref (h 1), .ref (h 2), .int (nI rk), .int (nI sl)])), (h 1, .inl (cI, 7, .inl (fun i9 => nI (kd i9)))), (h 2, .inl (cI, 175, .inl (fun i9 => nI (tn i9))))] (fun res _ => res = bI (isR rk r)) (fun _ => [(h 0, .inr (1, [.ref (h 1), .ref (h 2), .int (nI rk), .int (nI sl)])), (h 1, .inl (cI, 7, .inl (fun i9 => nI (kd i9)))), (h 2, .inl (cI, 175, .inl (fun i9 => nI (tn i9))))]) := by
  refine CI.of (cc := cX1_has) (maxL := 2) (by decide) rfl (Nat.le_of_ble_eq_true rfl) ?_
  intro p e s m below meth c A ls hB
  obtain ⟨hx, hb, hml, hr, hts, hown, hlocks, hmn, hK, hP, hD, hS, hA, hl⟩ := hB
  have hP : va_P G vwCl [(h 0, .inr (1, [.ref (h 1), .ref (h 2), .int (nI rk), .int (nI sl)])), (h 1, .inl (cI, 7, .inl (fun i9 => nI (kd i9)))), (h 2, .inl (cI, 175, .inl (fun i9 => nI (tn i9))))] s.heap := hP
  have hD : va_D A [(h 0, .inr (1, [.ref (h 1), .ref (h 2), .int (nI rk), .int (nI sl)])), (h 1, .inl (cI, 7, .inl (fun i9 => nI (kd i9)))), (h 2, .inl (cI, 175, .inl (fun i9 => nI (tn i9))))] := hD
  have hl : lv_has ls 2 [(0, .ref (h 0)), (1, .int r)] := hl
  have k_0 := hts (.fieldLink RX1 18 "HearsayMarch$Army" "ranks" "I") (by decide +kernel)
  have hin1 : ∀ w ∈ wsX10, w ∈ wsX1_has := by decide +kernel
  refine lv_iload_n hx hb dX1_has_0 rfl (lv_at hl 1 rfl) ?_
  refine lv_if_lt (tgt := 16) hx hb dX1_has_1 (by decide) (fun c_1 => ?_) (fun c_1 => ?_)
  · skip
    refine lv_iconst (v := nI 0) hx hb dX1_has_16 (by decide) ?_
    exact endZ hx hb hr hlocks (rfl) (()) (bI_n (fun z => by rw [isR_iff (by omega)] at z; exact not_lt_of z.1 c_1)) (hP.sub [0, 1, 2] rfl) (hD.sub [0, 1, 2] (by decide) rfl) hS dX1_has_17
  · skip
    refine lv_iload_n hx hb dX1_has_4 rfl (lv_at hl 1 rfl) ?_
    refine lv_aload_n hx hb dX1_has_5 rfl (lv_at hl 0 rfl) ?_
    refine va_get (D := G) (ci := 1) (v := .int (nI rk)) (C := RX1) (T := TX1) (N := 4) hx hb hts hin1 hown hK.1 hP 0 rfl rfl 2 (by decide) k_0 (fun _ h9 => h9) rfl dX1_has_6 ?_
    refine lv_icmp_ge (tgt := 16) hx hb dX1_has_9 (by decide) (fun c_9 => ?_) (fun c_9 => ?_)
    · skip
      refine lv_iconst (v := nI 0) hx hb dX1_has_16 (by decide) ?_
      exact endZ hx hb hr hlocks (rfl) (()) (bI_n (fun z => by rw [isR_iff (by omega)] at z; exact not_le_of z.2 c_9)) (hP.sub [0, 1, 2] rfl) (hD.sub [0, 1, 2] (by decide) rfl) hS dX1_has_17
    · skip
      refine lv_iconst (v := nI 1) hx hb dX1_has_12 (by decide) ?_
      refine lv_goto (tgt := 17) hx hb dX1_has_13 (by decide) ?_
      exact endZ hx hb hr hlocks (rfl) (()) (bI_y ((isR_iff (by omega)).mpr ⟨le_of_not c_1, lt_of_not c_9⟩)) (hP.sub [0, 1, 2] rfl) (hD.sub [0, 1, 2] (by decide) rfl) hS dX1_has_17

set_option maxHeartbeats 4000000 in
set_option maxRecDepth 100000 in
theorem c_X1_addRank {l : Launch} {G : va_G} {cI cJ cZ cS : ClassId} (h : Nat → Nat) (kd : Nat → Nat) (tn : Nat → Nat) (rk : Nat) (sl : Nat) (kk : Nat) (hrk : rk < 7) : CV l G (kT cI cJ cZ cS) (S := Unit) yX1_addRank wsX1_addRank { frames := 0, cells := 0, slots := 0, locals := 0 } [.ref (h 0), .int (nI kk)] [(h 0, .inr (1, [.ref (h 1), .ref (h 2), .int (nI rk), .int (nI sl)])), (h 1, .inl (cI, 7, .inl (fun i9 => nI (kd i9)))), (h 2, .inl (cI, 175, .inl (fun i9 => nI (tn i9))))] (fun _ => True) (fun _ => [(h 0, .inr (1, [.ref (h 1), .ref (h 2), .int (nI (rk + 1)), .int (nI sl)])), (h 1, .inl (cI, 7, .inl (fun i9 => nI ((va_up kd rk kk) i9)))), (h 2, .inl (cI, 175, .inl (fun i9 => nI (tn i9))))]) := by
  refine CV.of (cc := cX1_addRank) (maxL := 2) (by decide) rfl (Nat.le_of_ble_eq_true rfl) ?_
  intro p e s m below meth c A ls hB
  obtain ⟨hx, hb, hml, hr, hts, hown, hlocks, hmn, hK, hP, hD, hS, hA, hl⟩ := hB
  have hP : va_P G vwCl [(h 0, .inr (1, [.ref (h 1), .ref (h 2), .int (nI rk), .int (nI sl)])), (h 1, .inl (cI, 7, .inl (fun i9 => nI (kd i9)))), (h 2, .inl (cI, 175, .inl (fun i9 => nI (tn i9))))] s.heap := hP
  have hD : va_D A [(h 0, .inr (1, [.ref (h 1), .ref (h 2), .int (nI rk), .int (nI sl)])), (h 1, .inl (cI, 7, .inl (fun i9 => nI (kd i9)))), (h 2, .inl (cI, 175, .inl (fun i9 => nI (tn i9))))] := hD
  have hl : lv_has ls 2 [(0, .ref (h 0)), (1, .int (nI kk))] := hl
  have k_0 := hts (.fieldLink RX1 18 "HearsayMarch$Army" "ranks" "I") (by decide +kernel)
  have k_1 := hts (.fieldLink RX1 9 "HearsayMarch$Army" "kinds" "[I") (by decide +kernel)
  have hin1 : ∀ w ∈ wsX10, w ∈ wsX1_addRank := by decide +kernel
  refine lv_aload_n hx hb dX1_addRank_0 rfl (lv_at hl 0 rfl) ?_
  refine va_get (D := G) (ci := 1) (v := .int (nI rk)) (C := RX1) (T := TX1) (N := 4) hx hb hts hin1 hown hK.1 hP 0 rfl rfl 2 (by decide) k_0 (fun _ h9 => h9) rfl dX1_addRank_1 ?_
  refine lv_bipush (v := nI 7) hx hb dX1_addRank_4 (by decide) ?_
  refine lv_icmp_ge (tgt := 29) hx hb dX1_addRank_6 (by decide) (fun c_6 => by have c_6 := n_geT c_6 (by omega) (by omega); exfalso; omega) (fun c_6 => ?_)
  have c_6 := n_geF c_6 (by omega) (by omega)
  refine lv_aload_n hx hb dX1_addRank_9 rfl (lv_at hl 0 rfl) ?_
  refine va_get (D := G) (ci := 1) (v := .ref (h 1)) (C := RX1) (T := TX1) (N := 4) hx hb hts hin1 hown hK.1 hP 0 rfl rfl 0 (by decide) k_1 (fun _ h9 => h9) rfl dX1_addRank_10 ?_
  refine lv_aload_n hx hb dX1_addRank_13 rfl (lv_at hl 0 rfl) ?_
  refine va_get (D := G) (ci := 1) (v := .int (nI rk)) (C := RX1) (T := TX1) (N := 4) hx hb hts hin1 hown hK.1 hP 0 rfl rfl 2 (by decide) k_0 (fun _ h9 => h9) rfl dX1_addRank_14 ?_
  refine lv_iload_n hx hb dX1_addRank_17 rfl (lv_at hl 1 rfl) ?_
  refine ast (f' := fun i9 => nI ((va_up kd rk kk) i9)) hx hb hK hP hD hS 1 0 rfl rfl (j := rk) (by omega) (by omega) (upd_nat) dX1_addRank_18 (fun H locs hP hD hS => ?_)
  have hP : va_P G vwCl [(h 0, .inr (1, [.ref (h 1), .ref (h 2), .int (nI rk), .int (nI sl)])), (h 1, .inl (cI, 7, .inl (fun i9 => nI ((va_up kd rk kk) i9)))), (h 2, .inl (cI, 175, .inl (fun i9 => nI (tn i9))))] _ := hP
  have hD : va_D A [(h 0, .inr (1, [.ref (h 1), .ref (h 2), .int (nI rk), .int (nI sl)])), (h 1, .inl (cI, 7, .inl (fun i9 => nI ((va_up kd rk kk) i9)))), (h 2, .inl (cI, 175, .inl (fun i9 => nI (tn i9))))] := hD
  refine lv_aload_n hx hb dX1_addRank_19 rfl (lv_at hl 0 rfl) ?_
  refine lv_dup hx hb dX1_addRank_20 rfl ?_
  refine va_get (D := G) (ci := 1) (v := .int (nI rk)) (C := RX1) (T := TX1) (N := 4) hx hb hts hin1 hown hK.1 hP 0 rfl rfl 2 (by decide) k_0 (fun _ h9 => h9) rfl dX1_addRank_21 ?_
  refine lv_iconst (v := nI 1) hx hb dX1_addRank_24 (by decide) ?_
  refine lv_iadd hx hb dX1_addRank_25 ?_
  refine top_i (y := nI (rk + 1)) (nI_add _ _) ?_
  refine va_put (D := G) (ci := 1) (v := .int (nI (rk + 1))) (ty := tyX1 2) (C := RX1) (T := TX1) (N := 4) hx hb hts hin1 tyX1 tyX1_ok nmX1 hown hK.1 hP hD hS 0 rfl rfl 2 (by decide) k_0 (fun _ h9 => h9) rfl (by decide +kernel) rfl rfl (Nat.le_of_ble_eq_true rfl) dX1_addRank_26 (fun H locs hP hD hS => ?_)
  have hP : va_P G vwCl [(h 0, .inr (1, [.ref (h 1), .ref (h 2), .int (nI (rk + 1)), .int (nI sl)])), (h 1, .inl (cI, 7, .inl (fun i9 => nI ((va_up kd rk kk) i9)))), (h 2, .inl (cI, 175, .inl (fun i9 => nI (tn i9))))] _ := hP
  have hD : va_D A [(h 0, .inr (1, [.ref (h 1), .ref (h 2), .int (nI (rk + 1)), .int (nI sl)])), (h 1, .inl (cI, 7, .inl (fun i9 => nI ((va_up kd rk kk) i9)))), (h 2, .inl (cI, 175, .inl (fun i9 => nI (tn i9))))] := hD
  exact endV hx hb hr hlocks (()) (trivial) (hP.sub [0, 1, 2] rfl) (hD.sub [0, 1, 2] (by decide) rfl) hS dX1_addRank_29

set_option maxHeartbeats 4000000 in
set_option maxRecDepth 100000 in
theorem c_X1_addSlip {l : Launch} {G : va_G} {cI cJ cZ cS : ClassId} (h : Nat → Nat) (kd : Nat → Nat) (tn : Nat → Nat) (rk : Nat) (sl : Nat) (k : Nat) (u : Nat) (v : Nat) (t : Nat) (hk : k < 7) (hu : u < 5) (hv : v < 5) : CV l G (kT cI cJ cZ cS) (S := Unit) yX1_addSlip wsX1_addSlip { frames := 1, cells := 0, slots := 0, locals := 22 } [.ref (h 0), .int (nI k), .int (nI u), .int (nI v), .int (nI t)] [(h 0, .inr (1, [.ref (h 1), .ref (h 2), .int (nI rk), .int (nI sl)])), (h 1, .inl (cI, 7, .inl (fun i9 => nI (kd i9)))), (h 2, .inl (cI, 175, .inl (fun i9 => nI (tn i9))))] (fun _ => True) (fun _ => [(h 0, .inr (1, [.ref (h 1), .ref (h 2), .int (nI rk), .int (nI (sl + 1))])), (h 1, .inl (cI, 7, .inl (fun i9 => nI (kd i9)))), (h 2, .inl (cI, 175, .inl (fun i9 => nI ((va_up tn ((k * 5 + u) * 5 + v) t) i9))))]) := by
  refine CV.of (cc := cX1_addSlip) (maxL := 5) (by decide) rfl (Nat.le_of_ble_eq_true rfl) ?_
  intro p e s m below meth c A ls hB
  obtain ⟨hx, hb, hml, hr, hts, hown, hlocks, hmn, hK, hP, hD, hS, hA, hl⟩ := hB
  have hP : va_P G vwCl [(h 0, .inr (1, [.ref (h 1), .ref (h 2), .int (nI rk), .int (nI sl)])), (h 1, .inl (cI, 7, .inl (fun i9 => nI (kd i9)))), (h 2, .inl (cI, 175, .inl (fun i9 => nI (tn i9))))] s.heap := hP
  have hD : va_D A [(h 0, .inr (1, [.ref (h 1), .ref (h 2), .int (nI rk), .int (nI sl)])), (h 1, .inl (cI, 7, .inl (fun i9 => nI (kd i9)))), (h 2, .inl (cI, 175, .inl (fun i9 => nI (tn i9))))] := hD
  have hl : lv_has ls 5 [(0, .ref (h 0)), (1, .int (nI k)), (2, .int (nI u)), (3, .int (nI v)), (4, .int (nI t))] := hl
  have k_0 := hts (.fieldLink RX1 15 "HearsayMarch$Army" "tenths" "[I") (by decide +kernel)
  have k_1 := hts (.fieldLink RX1 22 "HearsayMarch$Army" "slips" "I") (by decide +kernel)
  have hin1 : ∀ w ∈ wsX10, w ∈ wsX1_addSlip := by decide +kernel
  refine lv_aload_n hx hb dX1_addSlip_0 rfl (lv_at hl 0 rfl) ?_
  refine va_get (D := G) (ci := 1) (v := .ref (h 2)) (C := RX1) (T := TX1) (N := 4) hx hb hts hin1 hown hK.1 hP 0 rfl rfl 1 (by decide) k_0 (fun _ h9 => h9) rfl dX1_addSlip_1 ?_
  refine lv_iload_n hx hb dX1_addSlip_4 rfl (lv_at hl 1 rfl) ?_
  refine lv_iload_n hx hb dX1_addSlip_5 rfl (lv_at hl 2 rfl) ?_
  refine lv_iload_n hx hb dX1_addSlip_6 rfl (lv_at hl 3 rfl) ?_
  refine aft_i (wr := [(h 0, .inr (1, [.ref (h 1), .ref (h 2), .int (nI rk), .int (nI sl)])), (h 1, .inl (cI, 7, .inl (fun i9 => nI (kd i9)))), (h 2, .inl (cI, 175, .inl (fun i9 => nI (tn i9))))]) (va_runS (As := [.int (nI k), .int (nI u), .int (nI v)]) (rest := [.ref (h 2)]) ⟨hx, hb, hml, hown, hts⟩ (c_X1_place (r := k) (u := u) (v := v) _) (va_cwS 3 hts gX1_addSlip_X1_place rfl rfl rfl (by decide +kernel) ⟨Nat.le_of_ble_eq_true rfl, Nat.le_of_ble_eq_true rfl⟩) (preS hK hP hD [] rfl rfl) rfl rfl hl.1 rfl (lv_room (Nat.le_of_ble_eq_true rfl)) dX1_addSlip_7 ⟨Nat.le_of_ble_eq_true rfl, Nat.le_of_ble_eq_true rfl⟩) hP hD hS hA [] [0, 1, 2] rfl rfl rfl (by decide) (fun r_7 uu9 H locs hw hP hD hS => ?_)
  have hP : va_P G vwCl [(h 0, .inr (1, [.ref (h 1), .ref (h 2), .int (nI rk), .int (nI sl)])), (h 1, .inl (cI, 7, .inl (fun i9 => nI (kd i9)))), (h 2, .inl (cI, 175, .inl (fun i9 => nI (tn i9))))] _ := hP
  have hD : va_D A [(h 0, .inr (1, [.ref (h 1), .ref (h 2), .int (nI rk), .int (nI sl)])), (h 1, .inl (cI, 7, .inl (fun i9 => nI (kd i9)))), (h 2, .inl (cI, 175, .inl (fun i9 => nI (tn i9))))] := hD
  obtain rfl := hw
  refine top_i (y := nI ((k * 5 + u) * 5 + v)) rfl ?_
  refine lv_iload hx hb dX1_addSlip_10 (lv_at hl 4 rfl) ?_
  refine ast (f' := fun i9 => nI ((va_up tn ((k * 5 + u) * 5 + v) t) i9)) hx hb hK hP hD hS 2 0 rfl rfl (j := (k * 5 + u) * 5 + v) (by omega) (by omega) (upd_nat) dX1_addSlip_12 (fun H locs hP hD hS => ?_)
  have hP : va_P G vwCl [(h 0, .inr (1, [.ref (h 1), .ref (h 2), .int (nI rk), .int (nI sl)])), (h 1, .inl (cI, 7, .inl (fun i9 => nI (kd i9)))), (h 2, .inl (cI, 175, .inl (fun i9 => nI ((va_up tn ((k * 5 + u) * 5 + v) t) i9))))] _ := hP
  have hD : va_D A [(h 0, .inr (1, [.ref (h 1), .ref (h 2), .int (nI rk), .int (nI sl)])), (h 1, .inl (cI, 7, .inl (fun i9 => nI (kd i9)))), (h 2, .inl (cI, 175, .inl (fun i9 => nI ((va_up tn ((k * 5 + u) * 5 + v) t) i9))))] := hD
  refine lv_aload_n hx hb dX1_addSlip_13 rfl (lv_at hl 0 rfl) ?_
  refine lv_dup hx hb dX1_addSlip_14 rfl ?_
  refine va_get (D := G) (ci := 1) (v := .int (nI sl)) (C := RX1) (T := TX1) (N := 4) hx hb hts hin1 hown hK.1 hP 0 rfl rfl 3 (by decide) k_1 (fun _ h9 => h9) rfl dX1_addSlip_15 ?_
  refine lv_iconst (v := nI 1) hx hb dX1_addSlip_18 (by decide) ?_
  refine lv_iadd hx hb dX1_addSlip_19 ?_
  refine top_i (y := nI (sl + 1)) (nI_add _ _) ?_
  refine va_put (D := G) (ci := 1) (v := .int (nI (sl + 1))) (ty := tyX1 3) (C := RX1) (T := TX1) (N := 4) hx hb hts hin1 tyX1 tyX1_ok nmX1 hown hK.1 hP hD hS 0 rfl rfl 3 (by decide) k_1 (fun _ h9 => h9) rfl (by decide +kernel) rfl rfl (Nat.le_of_ble_eq_true rfl) dX1_addSlip_20 (fun H locs hP hD hS => ?_)
  have hP : va_P G vwCl [(h 0, .inr (1, [.ref (h 1), .ref (h 2), .int (nI rk), .int (nI (sl + 1))])), (h 1, .inl (cI, 7, .inl (fun i9 => nI (kd i9)))), (h 2, .inl (cI, 175, .inl (fun i9 => nI ((va_up tn ((k * 5 + u) * 5 + v) t) i9))))] _ := hP
  have hD : va_D A [(h 0, .inr (1, [.ref (h 1), .ref (h 2), .int (nI rk), .int (nI (sl + 1))])), (h 1, .inl (cI, 7, .inl (fun i9 => nI (kd i9)))), (h 2, .inl (cI, 175, .inl (fun i9 => nI ((va_up tn ((k * 5 + u) * 5 + v) t) i9))))] := hD
  exact endV hx hb hr hlocks (()) (trivial) (hP.sub [0, 1, 2] rfl) (hD.sub [0, 1, 2] (by decide) rfl) hS dX1_addSlip_23

set_option maxHeartbeats 4000000 in
set_option maxRecDepth 100000 in
theorem c_X1_clear {l : Launch} {G : va_G} {cI cJ cZ cS : ClassId} (h : Nat → Nat) (kd : Nat → Nat) (tn : Nat → Nat) (rk : Nat) (sl : Nat) : CV l G (kT cI cJ cZ cS) (S := Nat → Nat) yX1_clear wsX1_clear { frames := 0, cells := 0, slots := 0, locals := 0 } [.ref (h 0)] [(h 0, .inr (1, [.ref (h 1), .ref (h 2), .int (nI rk), .int (nI sl)])), (h 1, .inl (cI, 7, .inl (fun i9 => nI (kd i9)))), (h 2, .inl (cI, 175, .inl (fun i9 => nI (tn i9))))] (fun t1 => ∀ i, i < 175 → t1 i = 0) (fun t1 => [(h 0, .inr (1, [.ref (h 1), .ref (h 2), .int (nI 0), .int (nI 0)])), (h 1, .inl (cI, 7, .inl (fun i9 => nI (kd i9)))), (h 2, .inl (cI, 175, .inl (fun i9 => nI (t1 i9))))]) := by
  refine CV.of (cc := cX1_clear) (maxL := 2) (by decide) rfl (Nat.le_of_ble_eq_true rfl) ?_
  intro p e s m below meth c A ls hB
  obtain ⟨hx, hb, hml, hr, hts, hown, hlocks, hmn, hK, hP, hD, hS, hA, hl⟩ := hB
  have hP : va_P G vwCl [(h 0, .inr (1, [.ref (h 1), .ref (h 2), .int (nI rk), .int (nI sl)])), (h 1, .inl (cI, 7, .inl (fun i9 => nI (kd i9)))), (h 2, .inl (cI, 175, .inl (fun i9 => nI (tn i9))))] s.heap := hP
  have hD : va_D A [(h 0, .inr (1, [.ref (h 1), .ref (h 2), .int (nI rk), .int (nI sl)])), (h 1, .inl (cI, 7, .inl (fun i9 => nI (kd i9)))), (h 2, .inl (cI, 175, .inl (fun i9 => nI (tn i9))))] := hD
  have hl : lv_has ls 2 [(0, .ref (h 0))] := hl
  have k_0 := hts (.fieldLink RX1 15 "HearsayMarch$Army" "tenths" "[I") (by decide +kernel)
  have k_1 := hts (.fieldLink RX1 18 "HearsayMarch$Army" "ranks" "I") (by decide +kernel)
  have k_2 := hts (.fieldLink RX1 22 "HearsayMarch$Army" "slips" "I") (by decide +kernel)
  have hin1 : ∀ w ∈ wsX10, w ∈ wsX1_clear := by decide +kernel
  refine lv_iconst (v := nI 0) hx hb dX1_clear_0 (by decide) ?_
  refine lv_istore_n (lv' := [(1, .int (nI 0)), (0, .ref (h 0))]) hx hb dX1_clear_1 rfl hl (by decide) rfl (fun ls hl => ?_)
  refine loopW (σ := Nat × (Nat → Nat)) 2 (fun xx9 H locs ls => match xx9 with | (i, t) => (i ≤ 175) ∧ (∀ j, j < i → t j = 0) ∧ va_P G vwCl [(h 0, .inr (1, [.ref (h 1), .ref (h 2), .int (nI rk), .int (nI sl)])), (h 1, .inl (cI, 7, .inl (fun i9 => nI (kd i9)))), (h 2, .inl (cI, 175, .inl (fun i9 => nI (t i9))))] H ∧ va_D A [(h 0, .inr (1, [.ref (h 1), .ref (h 2), .int (nI rk), .int (nI sl)])), (h 1, .inl (cI, 7, .inl (fun i9 => nI (kd i9)))), (h 2, .inl (cI, 175, .inl (fun i9 => nI (t i9))))] ∧ va_S A s.heap H locs ∧ lv_has ls 2 [(1, .int (nI i)), (0, .ref (h 0))]) (fun xx9 => match xx9 with | (i, t) => []) (fun xx9 => match xx9 with | (i, t) => 175 - i) ?_ (0, tn) ⟨by first | assumption | omega | (simp; done), by first | assumption | omega | (simp; done), hP.sub [0, 1, 2] rfl, hD.sub [0, 1, 2] (by decide) rfl, hS, lv_sub hl [0, 1] rfl⟩
  intro xx9 H locs ls hI ih_2
  obtain ⟨i, t⟩ := xx9
  obtain ⟨hi, h0, hP, hD, hS, hl⟩ := hI
  have hi : i ≤ 175 := hi
  have h0 : ∀ j, j < i → t j = 0 := h0
  have hP : va_P G vwCl [(h 0, .inr (1, [.ref (h 1), .ref (h 2), .int (nI rk), .int (nI sl)])), (h 1, .inl (cI, 7, .inl (fun i9 => nI (kd i9)))), (h 2, .inl (cI, 175, .inl (fun i9 => nI (t i9))))] _ := hP
  have hD : va_D A [(h 0, .inr (1, [.ref (h 1), .ref (h 2), .int (nI rk), .int (nI sl)])), (h 1, .inl (cI, 7, .inl (fun i9 => nI (kd i9)))), (h 2, .inl (cI, 175, .inl (fun i9 => nI (t i9))))] := hD
  have hl : lv_has ls 2 [(1, .int (nI i)), (0, .ref (h 0))] := hl
  refine lv_iload_n hx hb dX1_clear_2 rfl (lv_at hl 0 rfl) ?_
  refine lv_aload_n hx hb dX1_clear_3 rfl (lv_at hl 1 rfl) ?_
  refine va_get (D := G) (ci := 1) (v := .ref (h 2)) (C := RX1) (T := TX1) (N := 4) hx hb hts hin1 hown hK.1 hP 0 rfl rfl 1 (by decide) k_0 (fun _ h9 => h9) rfl dX1_clear_4 ?_
  refine va_alen (v := nI 175) hx hb hK.1 hP 2 0 rfl rfl rfl dX1_clear_7 ?_
  refine lv_icmp_ge (tgt := 24) hx hb dX1_clear_8 (by decide) (fun c_8 => ?_) (fun c_8 => ?_)
  · skip
    have c_8 := n_geT c_8 (by omega) (by omega)
    refine lv_aload_n hx hb dX1_clear_24 rfl (lv_at hl 1 rfl) ?_
    refine lv_iconst (v := nI 0) hx hb dX1_clear_25 (by decide) ?_
    refine va_put (D := G) (ci := 1) (v := .int (nI 0)) (ty := tyX1 2) (C := RX1) (T := TX1) (N := 4) hx hb hts hin1 tyX1 tyX1_ok nmX1 hown hK.1 hP hD hS 0 rfl rfl 2 (by decide) k_1 (fun _ h9 => h9) rfl (by decide +kernel) rfl rfl (Nat.le_of_ble_eq_true rfl) dX1_clear_26 (fun H locs hP hD hS => ?_)
    have hP : va_P G vwCl [(h 0, .inr (1, [.ref (h 1), .ref (h 2), .int (nI 0), .int (nI sl)])), (h 1, .inl (cI, 7, .inl (fun i9 => nI (kd i9)))), (h 2, .inl (cI, 175, .inl (fun i9 => nI (t i9))))] _ := hP
    have hD : va_D A [(h 0, .inr (1, [.ref (h 1), .ref (h 2), .int (nI 0), .int (nI sl)])), (h 1, .inl (cI, 7, .inl (fun i9 => nI (kd i9)))), (h 2, .inl (cI, 175, .inl (fun i9 => nI (t i9))))] := hD
    refine lv_aload_n hx hb dX1_clear_29 rfl (lv_at hl 1 rfl) ?_
    refine lv_iconst (v := nI 0) hx hb dX1_clear_30 (by decide) ?_
    refine va_put (D := G) (ci := 1) (v := .int (nI 0)) (ty := tyX1 3) (C := RX1) (T := TX1) (N := 4) hx hb hts hin1 tyX1 tyX1_ok nmX1 hown hK.1 hP hD hS 0 rfl rfl 3 (by decide) k_2 (fun _ h9 => h9) rfl (by decide +kernel) rfl rfl (Nat.le_of_ble_eq_true rfl) dX1_clear_31 (fun H locs hP hD hS => ?_)
    have hP : va_P G vwCl [(h 0, .inr (1, [.ref (h 1), .ref (h 2), .int (nI 0), .int (nI 0)])), (h 1, .inl (cI, 7, .inl (fun i9 => nI (kd i9)))), (h 2, .inl (cI, 175, .inl (fun i9 => nI (t i9))))] _ := hP
    have hD : va_D A [(h 0, .inr (1, [.ref (h 1), .ref (h 2), .int (nI 0), .int (nI 0)])), (h 1, .inl (cI, 7, .inl (fun i9 => nI (kd i9)))), (h 2, .inl (cI, 175, .inl (fun i9 => nI (t i9))))] := hD
    exact endV hx hb hr hlocks (t) (fun j hj => h0 j (by omega)) (hP.sub [0, 1, 2] rfl) (hD.sub [0, 1, 2] (by decide) rfl) hS dX1_clear_34
  · skip
    have c_8 := n_geF c_8 (by omega) (by omega)
    refine lv_aload_n hx hb dX1_clear_11 rfl (lv_at hl 1 rfl) ?_
    refine va_get (D := G) (ci := 1) (v := .ref (h 2)) (C := RX1) (T := TX1) (N := 4) hx hb hts hin1 hown hK.1 hP 0 rfl rfl 1 (by decide) k_0 (fun _ h9 => h9) rfl dX1_clear_12 ?_
    refine lv_iload_n hx hb dX1_clear_15 rfl (lv_at hl 0 rfl) ?_
    refine lv_iconst (v := nI 0) hx hb dX1_clear_16 (by decide) ?_
    refine ast (f' := fun i9 => nI ((va_up t i 0) i9)) hx hb hK hP hD hS 2 0 rfl rfl (j := i) (by omega) (by omega) (upd_nat) dX1_clear_17 (fun H locs hP hD hS => ?_)
    have hP : va_P G vwCl [(h 0, .inr (1, [.ref (h 1), .ref (h 2), .int (nI rk), .int (nI sl)])), (h 1, .inl (cI, 7, .inl (fun i9 => nI (kd i9)))), (h 2, .inl (cI, 175, .inl (fun i9 => nI ((va_up t i 0) i9))))] _ := hP
    have hD : va_D A [(h 0, .inr (1, [.ref (h 1), .ref (h 2), .int (nI rk), .int (nI sl)])), (h 1, .inl (cI, 7, .inl (fun i9 => nI (kd i9)))), (h 2, .inl (cI, 175, .inl (fun i9 => nI ((va_up t i 0) i9))))] := hD
    refine lv_iinc (v := nI (i + 1)) (lv' := [(1, .int (nI (i + 1))), (0, .ref (h 0))]) hx hb dX1_clear_18 hl (k := 0) rfl (nI_inc _ 1 1 (by decide)) (by decide) rfl (fun ls hl => ?_)
    refine lv_goto (tgt := 2) hx hb dX1_clear_21 (by decide) ?_
    exact ih_2 (i + 1, va_up t i 0) _ _ _ (by first | omega | (simp only []; omega) | (show _ < _; omega)) ⟨by first | assumption | omega | (simp; done), up_fill h0, hP.sub [0, 1, 2] rfl, hD.sub [0, 1, 2] (by decide) rfl, hS, lv_sub hl [0, 1] rfl⟩

set_option maxHeartbeats 4000000 in
set_option maxRecDepth 100000 in
theorem c_X1_copyFrom {l : Launch} {G : va_G} {cI cJ cZ cS : ClassId} (h : Nat → Nat) (kd : Nat → Nat) (tn : Nat → Nat) (rk : Nat) (sl : Nat) (g : Nat → Nat) (kd2 : Nat → Nat) (tn2 : Nat → Nat) (rk2 : Nat) (sl2 : Nat) : CV l G (kT cI cJ cZ cS) (S := Unit) yX1_copyFrom wsX1_copyFrom { frames := 1, cells := 0, slots := 0, locals := 40 } [.ref (h 0), .ref (g 0)] [(h 0, .inr (1, [.ref (h 1), .ref (h 2), .int (nI rk), .int (nI sl)])), (h 1, .inl (cI, 7, .inl (fun i9 => nI (kd i9)))), (h 2, .inl (cI, 175, .inl (fun i9 => nI (tn i9)))), (g 0, .inr (1, [.ref (g 1), .ref (g 2), .int (nI rk2), .int (nI sl2)])), (g 1, .inl (cI, 7, .inl (fun i9 => nI (kd2 i9)))), (g 2, .inl (cI, 175, .inl (fun i9 => nI (tn2 i9))))] (fun _ => True) (fun _ => [(h 0, .inr (1, [.ref (h 1), .ref (h 2), .int (nI rk2), .int (nI sl2)])), (h 1, .inl (cI, 7, .inl (fun i9 => nI ((va_cpy kd2 kd 0 0 7) i9)))), (h 2, .inl (cI, 175, .inl (fun i9 => nI ((va_cpy tn2 tn 0 0 175) i9)))), (g 0, .inr (1, [.ref (g 1), .ref (g 2), .int (nI rk2), .int (nI sl2)])), (g 1, .inl (cI, 7, .inl (fun i9 => nI (kd2 i9)))), (g 2, .inl (cI, 175, .inl (fun i9 => nI (tn2 i9))))]) := by
  refine CV.of (cc := cX1_copyFrom) (maxL := 2) (by decide) rfl (Nat.le_of_ble_eq_true rfl) ?_
  intro p e s m below meth c A ls hB
  obtain ⟨hx, hb, hml, hr, hts, hown, hlocks, hmn, hK, hP, hD, hS, hA, hl⟩ := hB
  have hP : va_P G vwCl [(h 0, .inr (1, [.ref (h 1), .ref (h 2), .int (nI rk), .int (nI sl)])), (h 1, .inl (cI, 7, .inl (fun i9 => nI (kd i9)))), (h 2, .inl (cI, 175, .inl (fun i9 => nI (tn i9)))), (g 0, .inr (1, [.ref (g 1), .ref (g 2), .int (nI rk2), .int (nI sl2)])), (g 1, .inl (cI, 7, .inl (fun i9 => nI (kd2 i9)))), (g 2, .inl (cI, 175, .inl (fun i9 => nI (tn2 i9))))] s.heap := hP
  have hD : va_D A [(h 0, .inr (1, [.ref (h 1), .ref (h 2), .int (nI rk), .int (nI sl)])), (h 1, .inl (cI, 7, .inl (fun i9 => nI (kd i9)))), (h 2, .inl (cI, 175, .inl (fun i9 => nI (tn i9)))), (g 0, .inr (1, [.ref (g 1), .ref (g 2), .int (nI rk2), .int (nI sl2)])), (g 1, .inl (cI, 7, .inl (fun i9 => nI (kd2 i9)))), (g 2, .inl (cI, 175, .inl (fun i9 => nI (tn2 i9))))] := hD
  have hl : lv_has ls 2 [(0, .ref (h 0)), (1, .ref (g 0))] := hl
  have k_0 := hts (.fieldLink RX1 9 "HearsayMarch$Army" "kinds" "[I") (by decide +kernel)
  have k_1 := hts (.methodLink RX1 25 arraycopyName) (by decide +kernel)
  have k_2 := hts (.native arraycopyName) (by decide +kernel)
  have k_3 := hts (.static arraycopyName) (by decide +kernel)
  have k_4 := hts (.initialized "java/lang/System") (by decide +kernel)
  have k_5 := hts (.fieldLink RX1 15 "HearsayMarch$Army" "tenths" "[I") (by decide +kernel)
  have k_6 := hts (.fieldLink RX1 18 "HearsayMarch$Army" "ranks" "I") (by decide +kernel)
  have k_7 := hts (.fieldLink RX1 22 "HearsayMarch$Army" "slips" "I") (by decide +kernel)
  have hin1 : ∀ w ∈ wsX10, w ∈ wsX1_copyFrom := by decide +kernel
  refine lv_aload_n hx hb dX1_copyFrom_0 rfl (lv_at hl 1 rfl) ?_
  refine va_get (D := G) (ci := 1) (v := .ref (g 1)) (C := RX1) (T := TX1) (N := 4) hx hb hts hin1 hown hK.1 hP 3 rfl rfl 0 (by decide) k_0 (fun _ h9 => h9) rfl dX1_copyFrom_1 ?_
  refine lv_iconst (v := nI 0) hx hb dX1_copyFrom_4 (by decide) ?_
  refine lv_aload_n hx hb dX1_copyFrom_5 rfl (lv_at hl 0 rfl) ?_
  refine va_get (D := G) (ci := 1) (v := .ref (h 1)) (C := RX1) (T := TX1) (N := 4) hx hb hts hin1 hown hK.1 hP 0 rfl rfl 0 (by decide) k_0 (fun _ h9 => h9) rfl dX1_copyFrom_6 ?_
  refine lv_iconst (v := nI 0) hx hb dX1_copyFrom_9 (by decide) ?_
  refine lv_bipush (v := nI 7) hx hb dX1_copyFrom_10 (by decide) ?_
  refine va_copyi hx hb (by rw [hml]; exact hl.1.symm) hown k_1 k_2 k_3 k_4 hK.1 hP hD hS 4 1 0 0 rfl rfl rfl rfl rfl (by decide) (by decide) (by decide) (by decide) (by decide) (fun i hi => rfl) (Nat.le_of_ble_eq_true rfl) (Nat.le_of_ble_eq_true rfl) dX1_copyFrom_12 (fun H locs hP hD hS => ?_)
  have hP : va_P G vwCl [(h 0, .inr (1, [.ref (h 1), .ref (h 2), .int (nI rk), .int (nI sl)])), (h 1, .inl (cI, 7, .inl (va_cpy (fun i9 => nI (kd2 i9)) (fun i9 => nI (kd i9)) 0 0 7))), (h 2, .inl (cI, 175, .inl (fun i9 => nI (tn i9)))), (g 0, .inr (1, [.ref (g 1), .ref (g 2), .int (nI rk2), .int (nI sl2)])), (g 1, .inl (cI, 7, .inl (fun i9 => nI (kd2 i9)))), (g 2, .inl (cI, 175, .inl (fun i9 => nI (tn2 i9))))] _ := hP
  have hD : va_D A [(h 0, .inr (1, [.ref (h 1), .ref (h 2), .int (nI rk), .int (nI sl)])), (h 1, .inl (cI, 7, .inl (va_cpy (fun i9 => nI (kd2 i9)) (fun i9 => nI (kd i9)) 0 0 7))), (h 2, .inl (cI, 175, .inl (fun i9 => nI (tn i9)))), (g 0, .inr (1, [.ref (g 1), .ref (g 2), .int (nI rk2), .int (nI sl2)])), (g 1, .inl (cI, 7, .inl (fun i9 => nI (kd2 i9)))), (g 2, .inl (cI, 175, .inl (fun i9 => nI (tn2 i9))))] := hD
  rw [cpy_nat] at hP hD
  have hP : va_P G vwCl [(h 0, .inr (1, [.ref (h 1), .ref (h 2), .int (nI rk), .int (nI sl)])), (h 1, .inl (cI, 7, .inl (fun i9 => nI ((va_cpy kd2 kd 0 0 7) i9)))), (h 2, .inl (cI, 175, .inl (fun i9 => nI (tn i9)))), (g 0, .inr (1, [.ref (g 1), .ref (g 2), .int (nI rk2), .int (nI sl2)])), (g 1, .inl (cI, 7, .inl (fun i9 => nI (kd2 i9)))), (g 2, .inl (cI, 175, .inl (fun i9 => nI (tn2 i9))))] _ := hP
  have hD : va_D A [(h 0, .inr (1, [.ref (h 1), .ref (h 2), .int (nI rk), .int (nI sl)])), (h 1, .inl (cI, 7, .inl (fun i9 => nI ((va_cpy kd2 kd 0 0 7) i9)))), (h 2, .inl (cI, 175, .inl (fun i9 => nI (tn i9)))), (g 0, .inr (1, [.ref (g 1), .ref (g 2), .int (nI rk2), .int (nI sl2)])), (g 1, .inl (cI, 7, .inl (fun i9 => nI (kd2 i9)))), (g 2, .inl (cI, 175, .inl (fun i9 => nI (tn2 i9))))] := hD
  refine lv_aload_n hx hb dX1_copyFrom_15 rfl (lv_at hl 1 rfl) ?_
  refine va_get (D := G) (ci := 1) (v := .ref (g 2)) (C := RX1) (T := TX1) (N := 4) hx hb hts hin1 hown hK.1 hP 3 rfl rfl 1 (by decide) k_5 (fun _ h9 => h9) rfl dX1_copyFrom_16 ?_
  refine lv_iconst (v := nI 0) hx hb dX1_copyFrom_19 (by decide) ?_
  refine lv_aload_n hx hb dX1_copyFrom_20 rfl (lv_at hl 0 rfl) ?_
  refine va_get (D := G) (ci := 1) (v := .ref (h 2)) (C := RX1) (T := TX1) (N := 4) hx hb hts hin1 hown hK.1 hP 0 rfl rfl 1 (by decide) k_5 (fun _ h9 => h9) rfl dX1_copyFrom_21 ?_
  refine lv_iconst (v := nI 0) hx hb dX1_copyFrom_24 (by decide) ?_
  refine lv_sipush (v := nI 175) hx hb dX1_copyFrom_25 (by decide) ?_
  refine va_copyi hx hb (by rw [hml]; exact hl.1.symm) hown k_1 k_2 k_3 k_4 hK.1 hP hD hS 5 2 0 0 rfl rfl rfl rfl rfl (by decide) (by decide) (by decide) (by decide) (by decide) (fun i hi => rfl) (Nat.le_of_ble_eq_true rfl) (Nat.le_of_ble_eq_true rfl) dX1_copyFrom_28 (fun H locs hP hD hS => ?_)
  have hP : va_P G vwCl [(h 0, .inr (1, [.ref (h 1), .ref (h 2), .int (nI rk), .int (nI sl)])), (h 1, .inl (cI, 7, .inl (fun i9 => nI ((va_cpy kd2 kd 0 0 7) i9)))), (h 2, .inl (cI, 175, .inl (va_cpy (fun i9 => nI (tn2 i9)) (fun i9 => nI (tn i9)) 0 0 175))), (g 0, .inr (1, [.ref (g 1), .ref (g 2), .int (nI rk2), .int (nI sl2)])), (g 1, .inl (cI, 7, .inl (fun i9 => nI (kd2 i9)))), (g 2, .inl (cI, 175, .inl (fun i9 => nI (tn2 i9))))] _ := hP
  have hD : va_D A [(h 0, .inr (1, [.ref (h 1), .ref (h 2), .int (nI rk), .int (nI sl)])), (h 1, .inl (cI, 7, .inl (fun i9 => nI ((va_cpy kd2 kd 0 0 7) i9)))), (h 2, .inl (cI, 175, .inl (va_cpy (fun i9 => nI (tn2 i9)) (fun i9 => nI (tn i9)) 0 0 175))), (g 0, .inr (1, [.ref (g 1), .ref (g 2), .int (nI rk2), .int (nI sl2)])), (g 1, .inl (cI, 7, .inl (fun i9 => nI (kd2 i9)))), (g 2, .inl (cI, 175, .inl (fun i9 => nI (tn2 i9))))] := hD
  rw [cpy_nat] at hP hD
  have hP : va_P G vwCl [(h 0, .inr (1, [.ref (h 1), .ref (h 2), .int (nI rk), .int (nI sl)])), (h 1, .inl (cI, 7, .inl (fun i9 => nI ((va_cpy kd2 kd 0 0 7) i9)))), (h 2, .inl (cI, 175, .inl (fun i9 => nI ((va_cpy tn2 tn 0 0 175) i9)))), (g 0, .inr (1, [.ref (g 1), .ref (g 2), .int (nI rk2), .int (nI sl2)])), (g 1, .inl (cI, 7, .inl (fun i9 => nI (kd2 i9)))), (g 2, .inl (cI, 175, .inl (fun i9 => nI (tn2 i9))))] _ := hP
  have hD : va_D A [(h 0, .inr (1, [.ref (h 1), .ref (h 2), .int (nI rk), .int (nI sl)])), (h 1, .inl (cI, 7, .inl (fun i9 => nI ((va_cpy kd2 kd 0 0 7) i9)))), (h 2, .inl (cI, 175, .inl (fun i9 => nI ((va_cpy tn2 tn 0 0 175) i9)))), (g 0, .inr (1, [.ref (g 1), .ref (g 2), .int (nI rk2), .int (nI sl2)])), (g 1, .inl (cI, 7, .inl (fun i9 => nI (kd2 i9)))), (g 2, .inl (cI, 175, .inl (fun i9 => nI (tn2 i9))))] := hD
  refine lv_aload_n hx hb dX1_copyFrom_31 rfl (lv_at hl 0 rfl) ?_
  refine lv_aload_n hx hb dX1_copyFrom_32 rfl (lv_at hl 1 rfl) ?_
  refine va_get (D := G) (ci := 1) (v := .int (nI rk2)) (C := RX1) (T := TX1) (N := 4) hx hb hts hin1 hown hK.1 hP 3 rfl rfl 2 (by decide) k_6 (fun _ h9 => h9) rfl dX1_copyFrom_33 ?_
  refine va_put (D := G) (ci := 1) (v := .int (nI rk2)) (ty := tyX1 2) (C := RX1) (T := TX1) (N := 4) hx hb hts hin1 tyX1 tyX1_ok nmX1 hown hK.1 hP hD hS 0 rfl rfl 2 (by decide) k_6 (fun _ h9 => h9) rfl (by decide +kernel) rfl rfl (Nat.le_of_ble_eq_true rfl) dX1_copyFrom_36 (fun H locs hP hD hS => ?_)
  have hP : va_P G vwCl [(h 0, .inr (1, [.ref (h 1), .ref (h 2), .int (nI rk2), .int (nI sl)])), (h 1, .inl (cI, 7, .inl (fun i9 => nI ((va_cpy kd2 kd 0 0 7) i9)))), (h 2, .inl (cI, 175, .inl (fun i9 => nI ((va_cpy tn2 tn 0 0 175) i9)))), (g 0, .inr (1, [.ref (g 1), .ref (g 2), .int (nI rk2), .int (nI sl2)])), (g 1, .inl (cI, 7, .inl (fun i9 => nI (kd2 i9)))), (g 2, .inl (cI, 175, .inl (fun i9 => nI (tn2 i9))))] _ := hP
  have hD : va_D A [(h 0, .inr (1, [.ref (h 1), .ref (h 2), .int (nI rk2), .int (nI sl)])), (h 1, .inl (cI, 7, .inl (fun i9 => nI ((va_cpy kd2 kd 0 0 7) i9)))), (h 2, .inl (cI, 175, .inl (fun i9 => nI ((va_cpy tn2 tn 0 0 175) i9)))), (g 0, .inr (1, [.ref (g 1), .ref (g 2), .int (nI rk2), .int (nI sl2)])), (g 1, .inl (cI, 7, .inl (fun i9 => nI (kd2 i9)))), (g 2, .inl (cI, 175, .inl (fun i9 => nI (tn2 i9))))] := hD
  refine lv_aload_n hx hb dX1_copyFrom_39 rfl (lv_at hl 0 rfl) ?_
  refine lv_aload_n hx hb dX1_copyFrom_40 rfl (lv_at hl 1 rfl) ?_
  refine va_get (D := G) (ci := 1) (v := .int (nI sl2)) (C := RX1) (T := TX1) (N := 4) hx hb hts hin1 hown hK.1 hP 3 rfl rfl 3 (by decide) k_7 (fun _ h9 => h9) rfl dX1_copyFrom_41 ?_
  refine va_put (D := G) (ci := 1) (v := .int (nI sl2)) (ty := tyX1 3) (C := RX1) (T := TX1) (N := 4) hx hb hts hin1 tyX1 tyX1_ok nmX1 hown hK.1 hP hD hS 0 rfl rfl 3 (by decide) k_7 (fun _ h9 => h9) rfl (by decide +kernel) rfl rfl (Nat.le_of_ble_eq_true rfl) dX1_copyFrom_44 (fun H locs hP hD hS => ?_)
  have hP : va_P G vwCl [(h 0, .inr (1, [.ref (h 1), .ref (h 2), .int (nI rk2), .int (nI sl2)])), (h 1, .inl (cI, 7, .inl (fun i9 => nI ((va_cpy kd2 kd 0 0 7) i9)))), (h 2, .inl (cI, 175, .inl (fun i9 => nI ((va_cpy tn2 tn 0 0 175) i9)))), (g 0, .inr (1, [.ref (g 1), .ref (g 2), .int (nI rk2), .int (nI sl2)])), (g 1, .inl (cI, 7, .inl (fun i9 => nI (kd2 i9)))), (g 2, .inl (cI, 175, .inl (fun i9 => nI (tn2 i9))))] _ := hP
  have hD : va_D A [(h 0, .inr (1, [.ref (h 1), .ref (h 2), .int (nI rk2), .int (nI sl2)])), (h 1, .inl (cI, 7, .inl (fun i9 => nI ((va_cpy kd2 kd 0 0 7) i9)))), (h 2, .inl (cI, 175, .inl (fun i9 => nI ((va_cpy tn2 tn 0 0 175) i9)))), (g 0, .inr (1, [.ref (g 1), .ref (g 2), .int (nI rk2), .int (nI sl2)])), (g 1, .inl (cI, 7, .inl (fun i9 => nI (kd2 i9)))), (g 2, .inl (cI, 175, .inl (fun i9 => nI (tn2 i9))))] := hD
  exact endV hx hb hr hlocks (()) (trivial) (hP.sub [0, 1, 2, 3, 4, 5] rfl) (hD.sub [0, 1, 2, 3, 4, 5] (by decide) rfl) hS dX1_copyFrom_47
