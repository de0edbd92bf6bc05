/-! class Reader: its steps -/
def kindI (c : Nat) : Int32 := if c = 112 then nI 0 else if c = 100 then nI 1 else if c = 102 then nI 2 else if c = 115 then nI 3 else -9
def kindN (c : Nat) : Nat := if c = 112 then 0 else if c = 100 then 1 else if c = 102 then 2 else if c = 115 then 3 else 9
theorem kindOff {c : Nat} (hc : c < 256) (h0 : ¬ c = 100) (h1 : ¬ c = 102) (h2 : ¬ c = 112) (h3 : ¬ c = 115) : Op.lookupswitch.offset (#[((100 : Int), (45 : Int)), (102, 47), (112, 43), (115, 49)]).toList 51 (nI c).toInt = 51 := by
  rw [nI_toInt (by omega)]
  have e0 : ¬ ((100 : Int) = (c : Int)) := by omega
  have e1 : ¬ ((102 : Int) = (c : Int)) := by omega
  have e2 : ¬ ((112 : Int) = (c : Int)) := by omega
  have e3 : ¬ ((115 : Int) = (c : Int)) := by omega
  have f0 : ¬ ((c : Int) = 100) := by omega
  have f1 : ¬ ((c : Int) = 102) := by omega
  have f2 : ¬ ((c : Int) = 112) := by omega
  have f3 : ¬ ((c : Int) = 115) := by omega
  simp [Op.lookupswitch.offset, e0, e1, e2, e3, f0, f1, f2, f3]
theorem kind_f {c : Nat} (h : kindI c = -9) : ¬ kindN c < 4 := by
  unfold kindI at h
  unfold kindN
  split at h
  · exact absurd h (by decide)
  · split at h
    · exact absurd h (by decide)
    · split at h
      · exact absurd h (by decide)
      · split at h
        · exact absurd h (by decide)
        · rw [if_neg (by assumption), if_neg (by assumption), if_neg (by assumption), if_neg (by assumption)]
          omega
theorem kind_t {c : Nat} (h : ¬ kindI c = -9) : kindN c < 4 ∧ kindI c = nI (kindN c) := by
  unfold kindI at h ⊢
  unfold kindN
  by_cases h1 : c = 112
  · simp [h1]
  · by_cases h2 : c = 100
    · simp [h2]
    · by_cases h3 : c = 102
      · simp [h3]
      · by_cases h4 : c = 115
        · simp [h4]
        · rw [if_neg h1, if_neg h2, if_neg h3, if_neg h4] at h
          exact absurd rfl h
def canSl (tn : Nat → Nat) (k u : Nat) : Prop := sumN (slT tn k u) 5 < 10 ∧ ∃ v, v < 5 ∧ ¬ v = u ∧ slT tn k u v = 0
theorem ge1_nat {x : Int32} (h : ¬ x < nI 1) : ∃ t, t < 2147483648 ∧ x = nI t := by
  have h0 : ¬ x < 0 := fun z => h (by
    rw [Int32.lt_iff_toInt_lt] at z ⊢
    have e : (nI 1).toInt = 1 := by decide
    have e0 : (0 : Int32).toInt = 0 := by decide
    omega)
  obtain ⟨j, hj, e⟩ := nI_of h0
  exact ⟨j, hj, e⟩
set_option maxHeartbeats 4000000 in
set_option maxRecDepth 100000 in
theorem c_X3_kindOf {l : Launch} {G : va_G} {cI cJ cZ cS : ClassId} (c : Nat) (hc : c < 256) : CI l G (kT cI cJ cZ cS) (S := Unit) yX3_kindOf wsX3_kindOf { frames := 0, cells := 0, slots := 0, locals := 0 } [.int (nI c)] [] (fun res _ => res = kindI c) (fun _ => []) := by
  refine CI.of (cc := cX3_kindOf) (maxL := 1) (by decide) rfl (Nat.le_of_ble_eq_true rfl) ?_
  intro p9 e9 s m below meth co9 A ls hB
  obtain ⟨hx, hb, hml, hr, hts, hown, hlocks, hmn, hK, hP, hD, hS, hA, hl⟩ := hB
  have hP : va_P G vwCl [] s.heap := hP
  have hD : va_D A [] := hD
  have hl : lv_has ls 1 [(0, .int (nI c))] := hl
  refine lv_iload_n hx hb dX3_kindOf_0 rfl (lv_at hl 0 rfl) ?_
  by_cases w_100 : nI c = nI 100
  · skip
    have w_100 := (nI_eq (by omega) (by omega)).mp w_100
    subst w_100
    refine lv_lookup (tgt := 46) (off := 45) hx hb dX3_kindOf_1 (by decide) (by decide) (by decide) ?_
    refine lv_iconst (v := nI 1) hx hb dX3_kindOf_46 (by decide) ?_
    exact endI hx hb hr hlocks (()) (by decide) (hP.sub [] rfl) (hD.sub [] (by decide) rfl) hS dX3_kindOf_47
  by_cases w_102 : nI c = nI 102
  · skip
    have w_102 := (nI_eq (by omega) (by omega)).mp w_102
    subst w_102
    refine lv_lookup (tgt := 48) (off := 47) hx hb dX3_kindOf_1 (by decide) (by decide) (by decide) ?_
    refine lv_iconst (v := nI 2) hx hb dX3_kindOf_48 (by decide) ?_
    exact endI hx hb hr hlocks (()) (by decide) (hP.sub [] rfl) (hD.sub [] (by decide) rfl) hS dX3_kindOf_49
  by_cases w_112 : nI c = nI 112
  · skip
    have w_112 := (nI_eq (by omega) (by omega)).mp w_112
    subst w_112
    refine lv_lookup (tgt := 44) (off := 43) hx hb dX3_kindOf_1 (by decide) (by decide) (by decide) ?_
    refine lv_iconst (v := nI 0) hx hb dX3_kindOf_44 (by decide) ?_
    exact endI hx hb hr hlocks (()) (by decide) (hP.sub [] rfl) (hD.sub [] (by decide) rfl) hS dX3_kindOf_45
  by_cases w_115 : nI c = nI 115
  · skip
    have w_115 := (nI_eq (by omega) (by omega)).mp w_115
    subst w_115
    refine lv_lookup (tgt := 50) (off := 49) hx hb dX3_kindOf_1 (by decide) (by decide) (by decide) ?_
    refine lv_iconst (v := nI 3) hx hb dX3_kindOf_50 (by decide) ?_
    exact endI hx hb hr hlocks (()) (by decide) (hP.sub [] rfl) (hD.sub [] (by decide) rfl) hS dX3_kindOf_51
  have n0 : ¬ c = 100 := fun z => w_100 (by rw [z])
  have n1 : ¬ c = 102 := fun z => w_102 (by rw [z])
  have n2 : ¬ c = 112 := fun z => w_112 (by rw [z])
  have n3 : ¬ c = 115 := fun z => w_115 (by rw [z])
  refine lv_lookup (tgt := 52) (off := 51) hx hb dX3_kindOf_1 (by decide) (kindOff hc n0 n1 n2 n3) (by decide) ?_
  refine lv_bipush (v := (-9)) hx hb dX3_kindOf_52 (by decide) ?_
  exact endI hx hb hr hlocks (()) (by rw [kindI, if_neg n2, if_neg n0, if_neg n1, if_neg n3]) (hP.sub [] rfl) (hD.sub [] (by decide) rfl) hS dX3_kindOf_54

set_option maxHeartbeats 4000000 in
set_option maxRecDepth 100000 in
theorem c_X3_takesPart {l : Launch} {G : va_G} {cI cJ cZ cS : ClassId} (g : Nat → Nat) (stp : Nat) (wy : Int32) (tq : Int32) (ho : Int32) (h : Nat → Nat) (kd : Nat → Nat) (tn : Nat → Nat) (rk : Nat) (sl : Nat) (c : Nat) (hc : c < 256) (hrk : rk < 8) (hsl : sl < 10) : CI l G (kT cI cJ cZ cS) (S := Unit) yX3_takesPart wsX3_takesPart { frames := 0, cells := 0, slots := 0, locals := 0 } [.ref (g 0), .int (nI c)] [(g 0, .inr (3, [.ref (h 0), .int (nI stp), .int wy, .int tq, .int ho])), (h 0, .inr (1, [.ref (h 1), .ref (h 2), .int (nI rk), .int (nI sl)])), (h 1, .inl (cI, 7, .inl (fun i9 => nI (kd i9)))), (h 2, .inl (cI, 175, .inl (fun i9 => nI (tn i9))))] (fun res _ => res = bI ((c = 82 ∧ rk < 7) ∨ (c = 83 ∧ 1 < rk ∧ sl < 9))) (fun _ => [(g 0, .inr (3, [.ref (h 0), .int (nI (if c = 82 then 2 else 3)), .int wy, .int tq, .int ho])), (h 0, .inr (1, [.ref (h 1), .ref (h 2), .int (nI rk), .int (nI sl)])), (h 1, .inl (cI, 7, .inl (fun i9 => nI (kd i9)))), (h 2, .inl (cI, 175, .inl (fun i9 => nI (tn i9))))]) := by
  refine CI.of (cc := cX3_takesPart) (maxL := 2) (by decide) rfl (Nat.le_of_ble_eq_true rfl) ?_
  intro p9 e9 s m below meth co9 A ls hB
  obtain ⟨hx, hb, hml, hr, hts, hown, hlocks, hmn, hK, hP, hD, hS, hA, hl⟩ := hB
  have hP : va_P G vwCl [(g 0, .inr (3, [.ref (h 0), .int (nI stp), .int wy, .int tq, .int ho])), (h 0, .inr (1, [.ref (h 1), .ref (h 2), .int (nI rk), .int (nI sl)])), (h 1, .inl (cI, 7, .inl (fun i9 => nI (kd i9)))), (h 2, .inl (cI, 175, .inl (fun i9 => nI (tn i9))))] s.heap := hP
  have hD : va_D A [(g 0, .inr (3, [.ref (h 0), .int (nI stp), .int wy, .int tq, .int ho])), (h 0, .inr (1, [.ref (h 1), .ref (h 2), .int (nI rk), .int (nI sl)])), (h 1, .inl (cI, 7, .inl (fun i9 => nI (kd i9)))), (h 2, .inl (cI, 175, .inl (fun i9 => nI (tn i9))))] := hD
  have hl : lv_has ls 2 [(0, .ref (g 0)), (1, .int (nI c))] := hl
  have k_0 := hts (.fieldLink RX3 18 "HearsayMarch$Reader" "step" "I") (by decide +kernel)
  have k_1 := hts (.fieldLink RX3 12 "HearsayMarch$Reader" "draft" "LHearsayMarch$Army;") (by decide +kernel)
  have k_2 := hts (.fieldLink RX3 65 "HearsayMarch$Army" "ranks" "I") (by decide +kernel)
  have k_3 := hts (.fieldLink RX3 68 "HearsayMarch$Army" "slips" "I") (by decide +kernel)
  have hin1 : ∀ w ∈ wsX10, w ∈ wsX3_takesPart := by decide +kernel
  have hin3 : ∀ w ∈ wsX30, w ∈ wsX3_takesPart := by decide +kernel
  refine lv_iload_n hx hb dX3_takesPart_0 rfl (lv_at hl 1 rfl) ?_
  refine lv_bipush (v := nI 82) hx hb dX3_takesPart_1 (by decide) ?_
  refine lv_icmp_ne (tgt := 29) hx hb dX3_takesPart_3 (by decide) (fun c_3 => ?_) (fun c_3 => ?_)
  · skip
    have c_3 := n_neT c_3 (by omega) (by omega)
    refine lv_aload_n hx hb dX3_takesPart_29 rfl (lv_at hl 0 rfl) ?_
    refine lv_iconst (v := nI 3) hx hb dX3_takesPart_30 (by decide) ?_
    refine va_put (D := G) (ci := 3) (v := .int (nI 3)) (ty := tyX3 1) (C := RX3) (T := TX3) (N := 5) hx hb hts hin3 tyX3 tyX3_ok nmX3 hown hK.1 hP hD hS 0 rfl rfl 1 (by decide) k_0 (fun _ h9 => h9) rfl (by decide +kernel) rfl rfl (Nat.le_of_ble_eq_true rfl) dX3_takesPart_31 (fun H locs hP hD hS => ?_)
    have hP : va_P G vwCl [(g 0, .inr (3, [.ref (h 0), .int (nI 3), .int wy, .int tq, .int ho])), (h 0, .inr (1, [.ref (h 1), .ref (h 2), .int (nI rk), .int (nI sl)])), (h 1, .inl (cI, 7, .inl (fun i9 => nI (kd i9)))), (h 2, .inl (cI, 175, .inl (fun i9 => nI (tn i9))))] _ := hP
    have hD : va_D A [(g 0, .inr (3, [.ref (h 0), .int (nI 3), .int wy, .int tq, .int ho])), (h 0, .inr (1, [.ref (h 1), .ref (h 2), .int (nI rk), .int (nI sl)])), (h 1, .inl (cI, 7, .inl (fun i9 => nI (kd i9)))), (h 2, .inl (cI, 175, .inl (fun i9 => nI (tn i9))))] := hD
    refine lv_iload_n hx hb dX3_takesPart_34 rfl (lv_at hl 1 rfl) ?_
    refine lv_bipush (v := nI 83) hx hb dX3_takesPart_35 (by decide) ?_
    refine lv_icmp_ne (tgt := 67) hx hb dX3_takesPart_37 (by decide) (fun c_37 => ?_) (fun c_37 => ?_)
    · skip
      have c_37 := n_neT c_37 (by omega) (by omega)
      refine lv_iconst (v := nI 0) hx hb dX3_takesPart_67 (by decide) ?_
      rw [show nI 3 = nI (if c = 82 then 2 else 3) by rw [if_neg c_3]] at hP hD
      have hP : va_P G vwCl [(g 0, .inr (3, [.ref (h 0), .int (nI (if c = 82 then 2 else 3)), .int wy, .int tq, .int ho])), (h 0, .inr (1, [.ref (h 1), .ref (h 2), .int (nI rk), .int (nI sl)])), (h 1, .inl (cI, 7, .inl (fun i9 => nI (kd i9)))), (h 2, .inl (cI, 175, .inl (fun i9 => nI (tn i9))))] _ := hP
      have hD : va_D A [(g 0, .inr (3, [.ref (h 0), .int (nI (if c = 82 then 2 else 3)), .int wy, .int tq, .int ho])), (h 0, .inr (1, [.ref (h 1), .ref (h 2), .int (nI rk), .int (nI sl)])), (h 1, .inl (cI, 7, .inl (fun i9 => nI (kd i9)))), (h 2, .inl (cI, 175, .inl (fun i9 => nI (tn i9))))] := hD
      exact endZ hx hb hr hlocks (rfl) (()) (bI_n (by omega)) (hP.sub [0, 1, 2, 3] rfl) (hD.sub [0, 1, 2, 3] (by decide) rfl) hS dX3_takesPart_68
    · skip
      have c_37 := n_neF c_37 (by omega) (by omega)
      refine lv_aload_n hx hb dX3_takesPart_40 rfl (lv_at hl 0 rfl) ?_
      refine va_get (D := G) (ci := 3) (v := .ref (h 0)) (C := RX3) (T := TX3) (N := 5) hx hb hts hin3 hown hK.1 hP 0 rfl rfl 0 (by decide) k_1 (fun _ h9 => h9) rfl dX3_takesPart_41 ?_
      refine va_get (D := G) (ci := 1) (v := .int (nI rk)) (C := RX1) (T := TX1) (N := 4) hx hb hts hin1 hown hK.1 hP 1 rfl rfl 2 (by decide) k_2 (fun _ h9 => h9) rfl dX3_takesPart_44 ?_
      refine lv_iconst (v := nI 1) hx hb dX3_takesPart_47 (by decide) ?_
      refine lv_icmp_le (tgt := 67) hx hb dX3_takesPart_48 (by decide) (fun c_48 => ?_) (fun c_48 => ?_)
      · skip
        have c_48 := n_leT c_48 (by omega) (by omega)
        refine lv_iconst (v := nI 0) hx hb dX3_takesPart_67 (by decide) ?_
        rw [show nI 3 = nI (if c = 82 then 2 else 3) by rw [if_neg c_3]] at hP hD
        have hP : va_P G vwCl [(g 0, .inr (3, [.ref (h 0), .int (nI (if c = 82 then 2 else 3)), .int wy, .int tq, .int ho])), (h 0, .inr (1, [.ref (h 1), .ref (h 2), .int (nI rk), .int (nI sl)])), (h 1, .inl (cI, 7, .inl (fun i9 => nI (kd i9)))), (h 2, .inl (cI, 175, .inl (fun i9 => nI (tn i9))))] _ := hP
        have hD : va_D A [(g 0, .inr (3, [.ref (h 0), .int (nI (if c = 82 then 2 else 3)), .int wy, .int tq, .int ho])), (h 0, .inr (1, [.ref (h 1), .ref (h 2), .int (nI rk), .int (nI sl)])), (h 1, .inl (cI, 7, .inl (fun i9 => nI (kd i9)))), (h 2, .inl (cI, 175, .inl (fun i9 => nI (tn i9))))] := hD
        exact endZ hx hb hr hlocks (rfl) (()) (bI_n (by omega)) (hP.sub [0, 1, 2, 3] rfl) (hD.sub [0, 1, 2, 3] (by decide) rfl) hS dX3_takesPart_68
      · skip
        have c_48 := n_leF c_48 (by omega) (by omega)
        refine lv_aload_n hx hb dX3_takesPart_51 rfl (lv_at hl 0 rfl) ?_
        refine va_get (D := G) (ci := 3) (v := .ref (h 0)) (C := RX3) (T := TX3) (N := 5) hx hb hts hin3 hown hK.1 hP 0 rfl rfl 0 (by decide) k_1 (fun _ h9 => h9) rfl dX3_takesPart_52 ?_
        refine va_get (D := G) (ci := 1) (v := .int (nI sl)) (C := RX1) (T := TX1) (N := 4) hx hb hts hin1 hown hK.1 hP 1 rfl rfl 3 (by decide) k_3 (fun _ h9 => h9) rfl dX3_takesPart_55 ?_
        refine lv_bipush (v := nI 9) hx hb dX3_takesPart_58 (by decide) ?_
        refine lv_icmp_ge (tgt := 67) hx hb dX3_takesPart_60 (by decide) (fun c_60 => ?_) (fun c_60 => ?_)
        · skip
          have c_60 := n_geT c_60 (by omega) (by omega)
          refine lv_iconst (v := nI 0) hx hb dX3_takesPart_67 (by decide) ?_
          rw [show nI 3 = nI (if c = 82 then 2 else 3) by rw [if_neg c_3]] at hP hD
          have hP : va_P G vwCl [(g 0, .inr (3, [.ref (h 0), .int (nI (if c = 82 then 2 else 3)), .int wy, .int tq, .int ho])), (h 0, .inr (1, [.ref (h 1), .ref (h 2), .int (nI rk), .int (nI sl)])), (h 1, .inl (cI, 7, .inl (fun i9 => nI (kd i9)))), (h 2, .inl (cI, 175, .inl (fun i9 => nI (tn i9))))] _ := hP
          have hD : va_D A [(g 0, .inr (3, [.ref (h 0), .int (nI (if c = 82 then 2 else 3)), .int wy, .int tq, .int ho])), (h 0, .inr (1, [.ref (h 1), .ref (h 2), .int (nI rk), .int (nI sl)])), (h 1, .inl (cI, 7, .inl (fun i9 => nI (kd i9)))), (h 2, .inl (cI, 175, .inl (fun i9 => nI (tn i9))))] := hD
          exact endZ hx hb hr hlocks (rfl) (()) (bI_n (by omega)) (hP.sub [0, 1, 2, 3] rfl) (hD.sub [0, 1, 2, 3] (by decide) rfl) hS dX3_takesPart_68
        · skip
          have c_60 := n_geF c_60 (by omega) (by omega)
          refine lv_iconst (v := nI 1) hx hb dX3_takesPart_63 (by decide) ?_
          refine lv_goto (tgt := 68) hx hb dX3_takesPart_64 (by decide) ?_
          rw [show nI 3 = nI (if c = 82 then 2 else 3) by rw [if_neg c_3]] at hP hD
          have hP : va_P G vwCl [(g 0, .inr (3, [.ref (h 0), .int (nI (if c = 82 then 2 else 3)), .int wy, .int tq, .int ho])), (h 0, .inr (1, [.ref (h 1), .ref (h 2), .int (nI rk), .int (nI sl)])), (h 1, .inl (cI, 7, .inl (fun i9 => nI (kd i9)))), (h 2, .inl (cI, 175, .inl (fun i9 => nI (tn i9))))] _ := hP
          have hD : va_D A [(g 0, .inr (3, [.ref (h 0), .int (nI (if c = 82 then 2 else 3)), .int wy, .int tq, .int ho])), (h 0, .inr (1, [.ref (h 1), .ref (h 2), .int (nI rk), .int (nI sl)])), (h 1, .inl (cI, 7, .inl (fun i9 => nI (kd i9)))), (h 2, .inl (cI, 175, .inl (fun i9 => nI (tn i9))))] := hD
          exact endZ hx hb hr hlocks (rfl) (()) (bI_y (by omega)) (hP.sub [0, 1, 2, 3] rfl) (hD.sub [0, 1, 2, 3] (by decide) rfl) hS dX3_takesPart_68
  · skip
    have c_3 := n_neF c_3 (by omega) (by omega)
    refine lv_aload_n hx hb dX3_takesPart_6 rfl (lv_at hl 0 rfl) ?_
    refine lv_iconst (v := nI 2) hx hb dX3_takesPart_7 (by decide) ?_
    refine va_put (D := G) (ci := 3) (v := .int (nI 2)) (ty := tyX3 1) (C := RX3) (T := TX3) (N := 5) hx hb hts hin3 tyX3 tyX3_ok nmX3 hown hK.1 hP hD hS 0 rfl rfl 1 (by decide) k_0 (fun _ h9 => h9) rfl (by decide +kernel) rfl rfl (Nat.le_of_ble_eq_true rfl) dX3_takesPart_8 (fun H locs hP hD hS => ?_)
    have hP : va_P G vwCl [(g 0, .inr (3, [.ref (h 0), .int (nI 2), .int wy, .int tq, .int ho])), (h 0, .inr (1, [.ref (h 1), .ref (h 2), .int (nI rk), .int (nI sl)])), (h 1, .inl (cI, 7, .inl (fun i9 => nI (kd i9)))), (h 2, .inl (cI, 175, .inl (fun i9 => nI (tn i9))))] _ := hP
    have hD : va_D A [(g 0, .inr (3, [.ref (h 0), .int (nI 2), .int wy, .int tq, .int ho])), (h 0, .inr (1, [.ref (h 1), .ref (h 2), .int (nI rk), .int (nI sl)])), (h 1, .inl (cI, 7, .inl (fun i9 => nI (kd i9)))), (h 2, .inl (cI, 175, .inl (fun i9 => nI (tn i9))))] := hD
    refine lv_aload_n hx hb dX3_takesPart_11 rfl (lv_at hl 0 rfl) ?_
    refine va_get (D := G) (ci := 3) (v := .ref (h 0)) (C := RX3) (T := TX3) (N := 5) hx hb hts hin3 hown hK.1 hP 0 rfl rfl 0 (by decide) k_1 (fun _ h9 => h9) rfl dX3_takesPart_12 ?_
    refine va_get (D := G) (ci := 1) (v := .int (nI rk)) (C := RX1) (T := TX1) (N := 4) hx hb hts hin1 hown hK.1 hP 1 rfl rfl 2 (by decide) k_2 (fun _ h9 => h9) rfl dX3_takesPart_15 ?_
    refine lv_bipush (v := nI 7) hx hb dX3_takesPart_18 (by decide) ?_
    refine lv_icmp_ge (tgt := 27) hx hb dX3_takesPart_20 (by decide) (fun c_20 => ?_) (fun c_20 => ?_)
    · skip
      have c_20 := n_geT c_20 (by omega) (by omega)
      refine lv_iconst (v := nI 0) hx hb dX3_takesPart_27 (by decide) ?_
      rw [show nI 2 = nI (if c = 82 then 2 else 3) by rw [if_pos c_3]] at hP hD
      have hP : va_P G vwCl [(g 0, .inr (3, [.ref (h 0), .int (nI (if c = 82 then 2 else 3)), .int wy, .int tq, .int ho])), (h 0, .inr (1, [.ref (h 1), .ref (h 2), .int (nI rk), .int (nI sl)])), (h 1, .inl (cI, 7, .inl (fun i9 => nI (kd i9)))), (h 2, .inl (cI, 175, .inl (fun i9 => nI (tn i9))))] _ := hP
      have hD : va_D A [(g 0, .inr (3, [.ref (h 0), .int (nI (if c = 82 then 2 else 3)), .int wy, .int tq, .int ho])), (h 0, .inr (1, [.ref (h 1), .ref (h 2), .int (nI rk), .int (nI sl)])), (h 1, .inl (cI, 7, .inl (fun i9 => nI (kd i9)))), (h 2, .inl (cI, 175, .inl (fun i9 => nI (tn i9))))] := hD
      exact endZ hx hb hr hlocks (rfl) (()) (bI_n (by omega)) (hP.sub [0, 1, 2, 3] rfl) (hD.sub [0, 1, 2, 3] (by decide) rfl) hS dX3_takesPart_28
    · skip
      have c_20 := n_geF c_20 (by omega) (by omega)
      refine lv_iconst (v := nI 1) hx hb dX3_takesPart_23 (by decide) ?_
      refine lv_goto (tgt := 28) hx hb dX3_takesPart_24 (by decide) ?_
      rw [show nI 2 = nI (if c = 82 then 2 else 3) by rw [if_pos c_3]] at hP hD
      have hP : va_P G vwCl [(g 0, .inr (3, [.ref (h 0), .int (nI (if c = 82 then 2 else 3)), .int wy, .int tq, .int ho])), (h 0, .inr (1, [.ref (h 1), .ref (h 2), .int (nI rk), .int (nI sl)])), (h 1, .inl (cI, 7, .inl (fun i9 => nI (kd i9)))), (h 2, .inl (cI, 175, .inl (fun i9 => nI (tn i9))))] _ := hP
      have hD : va_D A [(g 0, .inr (3, [.ref (h 0), .int (nI (if c = 82 then 2 else 3)), .int wy, .int tq, .int ho])), (h 0, .inr (1, [.ref (h 1), .ref (h 2), .int (nI rk), .int (nI sl)])), (h 1, .inl (cI, 7, .inl (fun i9 => nI (kd i9)))), (h 2, .inl (cI, 175, .inl (fun i9 => nI (tn i9))))] := hD
      exact endZ hx hb hr hlocks (rfl) (()) (bI_y (by omega)) (hP.sub [0, 1, 2, 3] rfl) (hD.sub [0, 1, 2, 3] (by decide) rfl) hS dX3_takesPart_28

set_option maxHeartbeats 4000000 in
set_option maxRecDepth 100000 in
theorem c_X3_takesKind {l : Launch} {G : va_G} {cI cJ cZ cS : ClassId} (g : Nat → Nat) (stp : Nat) (wy : Int32) (tq : Int32) (ho : Int32) (h : Nat → Nat) (kd : Nat → Nat) (tn : Nat → Nat) (rk : Nat) (sl : Nat) (c : Nat) (hc : c < 256) (hrk : rk < 7) : CI l G (kT cI cJ cZ cS) (S := Nat × Nat × (Nat → Nat)) yX3_takesKind wsX3_takesKind { frames := 1, cells := 0, slots := 0, locals := 21 } [.ref (g 0), .int (nI c)] [(g 0, .inr (3, [.ref (h 0), .int (nI stp), .int wy, .int tq, .int ho])), (h 0, .inr (1, [.ref (h 1), .ref (h 2), .int (nI rk), .int (nI sl)])), (h 1, .inl (cI, 7, .inl (fun i9 => nI (kd i9)))), (h 2, .inl (cI, 175, .inl (fun i9 => nI (tn i9))))] (fun res uu9 => match uu9 with | (st1, rk1, kd1) => res = bI (kindN c < 4) ∧ ((kindN c < 4 → st1 = 1 ∧ rk1 = rk + 1 ∧ kd1 = va_up kd rk (kindN c)) ∧ (¬ kindN c < 4 → kd1 = kd))) (fun uu9 => match uu9 with | (st1, rk1, kd1) => [(g 0, .inr (3, [.ref (h 0), .int (nI st1), .int wy, .int tq, .int ho])), (h 0, .inr (1, [.ref (h 1), .ref (h 2), .int (nI rk1), .int (nI sl)])), (h 1, .inl (cI, 7, .inl (fun i9 => nI (kd1 i9)))), (h 2, .inl (cI, 175, .inl (fun i9 => nI (tn i9))))]) := by
  refine CI.of (cc := cX3_takesKind) (maxL := 3) (by decide) rfl (Nat.le_of_ble_eq_true rfl) ?_
  intro p9 e9 s m below meth co9 A ls hB
  obtain ⟨hx, hb, hml, hr, hts, hown, hlocks, hmn, hK, hP, hD, hS, hA, hl⟩ := hB
  have hP : va_P G vwCl [(g 0, .inr (3, [.ref (h 0), .int (nI stp), .int wy, .int tq, .int ho])), (h 0, .inr (1, [.ref (h 1), .ref (h 2), .int (nI rk), .int (nI sl)])), (h 1, .inl (cI, 7, .inl (fun i9 => nI (kd i9)))), (h 2, .inl (cI, 175, .inl (fun i9 => nI (tn i9))))] s.heap := hP
  have hD : va_D A [(g 0, .inr (3, [.ref (h 0), .int (nI stp), .int wy, .int tq, .int ho])), (h 0, .inr (1, [.ref (h 1), .ref (h 2), .int (nI rk), .int (nI sl)])), (h 1, .inl (cI, 7, .inl (fun i9 => nI (kd i9)))), (h 2, .inl (cI, 175, .inl (fun i9 => nI (tn i9))))] := hD
  have hl : lv_has ls 3 [(0, .ref (g 0)), (1, .int (nI c))] := hl
  have k_0 := hts (.fieldLink RX3 12 "HearsayMarch$Reader" "draft" "LHearsayMarch$Army;") (by decide +kernel)
  have k_1 := hts (.fieldLink RX3 18 "HearsayMarch$Reader" "step" "I") (by decide +kernel)
  have hin3 : ∀ w ∈ wsX30, w ∈ wsX3_takesKind := by decide +kernel
  refine lv_iload_n hx hb dX3_takesKind_0 rfl (lv_at hl 1 rfl) ?_
  refine aft_i (wr := [(g 0, .inr (3, [.ref (h 0), .int (nI stp), .int wy, .int tq, .int ho])), (h 0, .inr (1, [.ref (h 1), .ref (h 2), .int (nI rk), .int (nI sl)])), (h 1, .inl (cI, 7, .inl (fun i9 => nI (kd i9)))), (h 2, .inl (cI, 175, .inl (fun i9 => nI (tn i9))))]) (va_runS (As := [.int (nI c)]) (rest := []) ⟨hx, hb, hml, hown, hts⟩ (c_X3_kindOf (c := c) (hc := by first | assumption | omega | exact hok.1 _ (by omega) | exact hok.2.2 _ _ (by omega) (by omega) | exact hok.2.1) _) (va_cwS 1 hts gX3_takesKind_X3_kindOf rfl rfl rfl (by decide +kernel) ⟨Nat.le_of_ble_eq_true rfl, Nat.le_of_ble_eq_true rfl⟩) (preS hK hP hD [] rfl rfl) rfl rfl hl.1 rfl (lv_room (Nat.le_of_ble_eq_true rfl)) dX3_takesKind_1 ⟨Nat.le_of_ble_eq_true rfl, Nat.le_of_ble_eq_true rfl⟩) hP hD hS hA [] [0, 1, 2, 3] rfl rfl rfl (by decide) (fun r_1 uu9 H locs hw hP hD hS => ?_)
  have hP : va_P G vwCl [(g 0, .inr (3, [.ref (h 0), .int (nI stp), .int wy, .int tq, .int ho])), (h 0, .inr (1, [.ref (h 1), .ref (h 2), .int (nI rk), .int (nI sl)])), (h 1, .inl (cI, 7, .inl (fun i9 => nI (kd i9)))), (h 2, .inl (cI, 175, .inl (fun i9 => nI (tn i9))))] _ := hP
  have hD : va_D A [(g 0, .inr (3, [.ref (h 0), .int (nI stp), .int wy, .int tq, .int ho])), (h 0, .inr (1, [.ref (h 1), .ref (h 2), .int (nI rk), .int (nI sl)])), (h 1, .inl (cI, 7, .inl (fun i9 => nI (kd i9)))), (h 2, .inl (cI, 175, .inl (fun i9 => nI (tn i9))))] := hD
  obtain rfl := hw
  refine top_i (y := kindI c) rfl ?_
  refine lv_istore_n (lv' := [(2, .int (kindI c)), (0, .ref (g 0)), (1, .int (nI c))]) hx hb dX3_takesKind_4 rfl hl (by decide) rfl (fun ls hl => ?_)
  refine lv_iload_n hx hb dX3_takesKind_5 rfl (lv_at hl 0 rfl) ?_
  refine lv_bipush (v := (-9)) hx hb dX3_takesKind_6 (by decide) ?_
  refine lv_icmp_ne (tgt := 13) hx hb dX3_takesKind_8 (by decide) (fun c_8 => ?_) (fun c_8 => ?_)
  · skip
    obtain ⟨hk9, ek9⟩ := kind_t c_8
    have hl : lv_has ls 3 [(2, .int (nI (kindN c))), (0, .ref (g 0)), (1, .int (nI c))] := by rw [← ek9]; exact hl
    refine lv_aload_n hx hb dX3_takesKind_13 rfl (lv_at hl 1 rfl) ?_
    refine va_get (D := G) (ci := 3) (v := .ref (h 0)) (C := RX3) (T := TX3) (N := 5) hx hb hts hin3 hown hK.1 hP 0 rfl rfl 0 (by decide) k_0 (fun _ h9 => h9) rfl dX3_takesKind_14 ?_
    refine lv_iload_n hx hb dX3_takesKind_17 rfl (lv_at hl 0 rfl) ?_
    refine aft_v (wr := [(g 0, .inr (3, [.ref (h 0), .int (nI stp), .int wy, .int tq, .int ho]))]) (va_runV (As := [.int (nI (kindN c))]) (rest := []) ⟨hx, hb, hml, hown, hts⟩ (c_X1_addRank (h := h) (kd := kd) (tn := tn) (rk := rk) (sl := sl) (kk := kindN c) (hrk := by first | assumption | omega | exact hok.1 _ (by omega) | exact hok.2.2 _ _ (by omega) (by omega) | exact hok.2.1) _) (cwV 1 hts gX3_takesKind_X1_addRank rfl rfl rfl (by decide +kernel) ⟨Nat.le_of_ble_eq_true rfl, Nat.le_of_ble_eq_true rfl⟩) (preV (cq := (RX1, TX1, 4)) (q0 := 1) (ci := 1) hK hP hD [1, 2, 3] rfl rfl rfl rfl) rfl rfl hl.1 rfl (lv_room (Nat.le_of_ble_eq_true rfl)) dX3_takesKind_18 ⟨Nat.le_of_ble_eq_true rfl, Nat.le_of_ble_eq_true rfl⟩) hP hD hS hA [1, 2, 3] [0] rfl rfl rfl (by decide) (fun uu9 H locs hw hP hD hS => ?_)
    have hP : va_P G vwCl [(g 0, .inr (3, [.ref (h 0), .int (nI stp), .int wy, .int tq, .int ho])), (h 0, .inr (1, [.ref (h 1), .ref (h 2), .int (nI (rk + 1)), .int (nI sl)])), (h 1, .inl (cI, 7, .inl (fun i9 => nI ((va_up kd rk (kindN c)) i9)))), (h 2, .inl (cI, 175, .inl (fun i9 => nI (tn i9))))] _ := hP
    have hD : va_D A [(g 0, .inr (3, [.ref (h 0), .int (nI stp), .int wy, .int tq, .int ho])), (h 0, .inr (1, [.ref (h 1), .ref (h 2), .int (nI (rk + 1)), .int (nI sl)])), (h 1, .inl (cI, 7, .inl (fun i9 => nI ((va_up kd rk (kindN c)) i9)))), (h 2, .inl (cI, 175, .inl (fun i9 => nI (tn i9))))] := hD
    refine lv_aload_n hx hb dX3_takesKind_21 rfl (lv_at hl 1 rfl) ?_
    refine lv_iconst (v := nI 1) hx hb dX3_takesKind_22 (by decide) ?_
    refine va_put (D := G) (ci := 3) (v := .int (nI 1)) (ty := tyX3 1) (C := RX3) (T := TX3) (N := 5) hx hb hts hin3 tyX3 tyX3_ok nmX3 hown hK.1 hP hD hS 0 rfl rfl 1 (by decide) k_1 (fun _ h9 => h9) rfl (by decide +kernel) rfl rfl (Nat.le_of_ble_eq_true rfl) dX3_takesKind_23 (fun H locs hP hD hS => ?_)
    have hP : va_P G vwCl [(g 0, .inr (3, [.ref (h 0), .int (nI 1), .int wy, .int tq, .int ho])), (h 0, .inr (1, [.ref (h 1), .ref (h 2), .int (nI (rk + 1)), .int (nI sl)])), (h 1, .inl (cI, 7, .inl (fun i9 => nI ((va_up kd rk (kindN c)) i9)))), (h 2, .inl (cI, 175, .inl (fun i9 => nI (tn i9))))] _ := hP
    have hD : va_D A [(g 0, .inr (3, [.ref (h 0), .int (nI 1), .int wy, .int tq, .int ho])), (h 0, .inr (1, [.ref (h 1), .ref (h 2), .int (nI (rk + 1)), .int (nI sl)])), (h 1, .inl (cI, 7, .inl (fun i9 => nI ((va_up kd rk (kindN c)) i9)))), (h 2, .inl (cI, 175, .inl (fun i9 => nI (tn i9))))] := hD
    refine lv_iconst (v := nI 1) hx hb dX3_takesKind_26 (by decide) ?_
    exact endZ hx hb hr hlocks (rfl) ((1, rk + 1, va_up kd rk (kindN c))) (⟨bI_y hk9, ⟨fun _ => ⟨rfl, rfl, rfl⟩, fun z => absurd hk9 z⟩⟩) (hP.sub [0, 1, 2, 3] rfl) (hD.sub [0, 1, 2, 3] (by decide) rfl) hS dX3_takesKind_27
  · skip
    have hn9 : ¬ kindN c < 4 := kind_f c_8
    refine lv_iconst (v := nI 0) hx hb dX3_takesKind_11 (by decide) ?_
    exact endZ hx hb hr hlocks (rfl) ((stp, rk, kd)) (⟨bI_n hn9, ⟨fun z => absurd z hn9, fun _ => rfl⟩⟩) (hP.sub [0, 1, 2, 3] rfl) (hD.sub [0, 1, 2, 3] (by decide) rfl) hS dX3_takesKind_12

set_option maxHeartbeats 4000000 in
set_option maxRecDepth 100000 in
theorem c_X3_takesWay {l : Launch} {G : va_G} {cI cJ cZ cS : ClassId} (g : Nat → Nat) (stp : Nat) (wy : Int32) (tq : Int32) (ho : Int32) (h : Nat → Nat) (kd : Nat → Nat) (tn : Nat → Nat) (rk : Nat) (sl : Nat) (r : Int32) (hrk : rk < 8) : CI l G (kT cI cJ cZ cS) (S := Unit) yX3_takesWay wsX3_takesWay { frames := 1, cells := 0, slots := 0, locals := 21 } [.ref (g 0), .int r] [(g 0, .inr (3, [.ref (h 0), .int (nI stp), .int wy, .int tq, .int ho])), (h 0, .inr (1, [.ref (h 1), .ref (h 2), .int (nI rk), .int (nI sl)])), (h 1, .inl (cI, 7, .inl (fun i9 => nI (kd i9)))), (h 2, .inl (cI, 175, .inl (fun i9 => nI (tn i9))))] (fun res _ => res = bI (∃ f, 0 < f ∧ f < rk ∧ r = nI f)) (fun _ => [(g 0, .inr (3, [.ref (h 0), .int (nI 4), .int r, .int tq, .int ho])), (h 0, .inr (1, [.ref (h 1), .ref (h 2), .int (nI rk), .int (nI sl)])), (h 1, .inl (cI, 7, .inl (fun i9 => nI (kd i9)))), (h 2, .inl (cI, 175, .inl (fun i9 => nI (tn i9))))]) := by
  refine CI.of (cc := cX3_takesWay) (maxL := 2) (by decide) rfl (Nat.le_of_ble_eq_true rfl) ?_
  intro p9 e9 s m below meth co9 A ls hB
  obtain ⟨hx, hb, hml, hr, hts, hown, hlocks, hmn, hK, hP, hD, hS, hA, hl⟩ := hB
  have hP : va_P G vwCl [(g 0, .inr (3, [.ref (h 0), .int (nI stp), .int wy, .int tq, .int ho])), (h 0, .inr (1, [.ref (h 1), .ref (h 2), .int (nI rk), .int (nI sl)])), (h 1, .inl (cI, 7, .inl (fun i9 => nI (kd i9)))), (h 2, .inl (cI, 175, .inl (fun i9 => nI (tn i9))))] s.heap := hP
  have hD : va_D A [(g 0, .inr (3, [.ref (h 0), .int (nI stp), .int wy, .int tq, .int ho])), (h 0, .inr (1, [.ref (h 1), .ref (h 2), .int (nI rk), .int (nI sl)])), (h 1, .inl (cI, 7, .inl (fun i9 => nI (kd i9)))), (h 2, .inl (cI, 175, .inl (fun i9 => nI (tn i9))))] := hD
  have hl : lv_has ls 2 [(0, .ref (g 0)), (1, .int r)] := hl
  have k_0 := hts (.fieldLink RX3 22 "HearsayMarch$Reader" "way" "I") (by decide +kernel)
  have k_1 := hts (.fieldLink RX3 18 "HearsayMarch$Reader" "step" "I") (by decide +kernel)
  have k_2 := hts (.fieldLink RX3 12 "HearsayMarch$Reader" "draft" "LHearsayMarch$Army;") (by decide +kernel)
  have hin3 : ∀ w ∈ wsX30, w ∈ wsX3_takesWay := by decide +kernel
  refine lv_aload_n hx hb dX3_takesWay_0 rfl (lv_at hl 0 rfl) ?_
  refine lv_iload_n hx hb dX3_takesWay_1 rfl (lv_at hl 1 rfl) ?_
  refine va_put (D := G) (ci := 3) (v := .int r) (ty := tyX3 2) (C := RX3) (T := TX3) (N := 5) hx hb hts hin3 tyX3 tyX3_ok nmX3 hown hK.1 hP hD hS 0 rfl rfl 2 (by decide) k_0 (fun _ h9 => h9) rfl (by decide +kernel) rfl rfl (Nat.le_of_ble_eq_true rfl) dX3_takesWay_2 (fun H locs hP hD hS => ?_)
  have hP : va_P G vwCl [(g 0, .inr (3, [.ref (h 0), .int (nI stp), .int r, .int tq, .int ho])), (h 0, .inr (1, [.ref (h 1), .ref (h 2), .int (nI rk), .int (nI sl)])), (h 1, .inl (cI, 7, .inl (fun i9 => nI (kd i9)))), (h 2, .inl (cI, 175, .inl (fun i9 => nI (tn i9))))] _ := hP
  have hD : va_D A [(g 0, .inr (3, [.ref (h 0), .int (nI stp), .int r, .int tq, .int ho])), (h 0, .inr (1, [.ref (h 1), .ref (h 2), .int (nI rk), .int (nI sl)])), (h 1, .inl (cI, 7, .inl (fun i9 => nI (kd i9)))), (h 2, .inl (cI, 175, .inl (fun i9 => nI (tn i9))))] := hD
  refine lv_aload_n hx hb dX3_takesWay_5 rfl (lv_at hl 0 rfl) ?_
  refine lv_iconst (v := nI 4) hx hb dX3_takesWay_6 (by decide) ?_
  refine va_put (D := G) (ci := 3) (v := .int (nI 4)) (ty := tyX3 1) (C := RX3) (T := TX3) (N := 5) hx hb hts hin3 tyX3 tyX3_ok nmX3 hown hK.1 hP hD hS 0 rfl rfl 1 (by decide) k_1 (fun _ h9 => h9) rfl (by decide +kernel) rfl rfl (Nat.le_of_ble_eq_true rfl) dX3_takesWay_7 (fun H locs hP hD hS => ?_)
  have hP : va_P G vwCl [(g 0, .inr (3, [.ref (h 0), .int (nI 4), .int r, .int tq, .int ho])), (h 0, .inr (1, [.ref (h 1), .ref (h 2), .int (nI rk), .int (nI sl)])), (h 1, .inl (cI, 7, .inl (fun i9 => nI (kd i9)))), (h 2, .inl (cI, 175, .inl (fun i9 => nI (tn i9))))] _ := hP
  have hD : va_D A [(g 0, .inr (3, [.ref (h 0), .int (nI 4), .int r, .int tq, .int ho])), (h 0, .inr (1, [.ref (h 1), .ref (h 2), .int (nI rk), .int (nI sl)])), (h 1, .inl (cI, 7, .inl (fun i9 => nI (kd i9)))), (h 2, .inl (cI, 175, .inl (fun i9 => nI (tn i9))))] := hD
  refine lv_iload_n hx hb dX3_takesWay_10 rfl (lv_at hl 1 rfl) ?_
  refine lv_if_le (tgt := 29) hx hb dX3_takesWay_11 (by decide) (fun c_11 => ?_) (fun c_11 => ?_)
  · skip
    refine lv_iconst (v := nI 0) hx hb dX3_takesWay_29 (by decide) ?_
    exact endZ hx hb hr hlocks (rfl) (()) (bI_n (fun z => by obtain ⟨f, h1, h2, rfl⟩ := z; exact absurd (z_leT c_11 (by omega)) (by omega))) (hP.sub [0, 1, 2, 3] rfl) (hD.sub [0, 1, 2, 3] (by decide) rfl) hS dX3_takesWay_30
  · skip
    refine lv_aload_n hx hb dX3_takesWay_14 rfl (lv_at hl 0 rfl) ?_
    refine va_get (D := G) (ci := 3) (v := .ref (h 0)) (C := RX3) (T := TX3) (N := 5) hx hb hts hin3 hown hK.1 hP 0 rfl rfl 0 (by decide) k_2 (fun _ h9 => h9) rfl dX3_takesWay_15 ?_
    refine lv_iload_n hx hb dX3_takesWay_18 rfl (lv_at hl 1 rfl) ?_
    refine aft_i (wr := [(g 0, .inr (3, [.ref (h 0), .int (nI 4), .int r, .int tq, .int ho]))]) (va_runV (As := [.int r]) (rest := []) ⟨hx, hb, hml, hown, hts⟩ (c_X1_has (h := h) (kd := kd) (tn := tn) (rk := rk) (sl := sl) (r := r) (hrk := by first | assumption | omega | exact hok.1 _ (by omega) | exact hok.2.2 _ _ (by omega) (by omega) | exact hok.2.1) _) (cwV 1 hts gX3_takesWay_X1_has rfl rfl rfl (by decide +kernel) ⟨Nat.le_of_ble_eq_true rfl, Nat.le_of_ble_eq_true rfl⟩) (preV (cq := (RX1, TX1, 4)) (q0 := 1) (ci := 1) hK hP hD [1, 2, 3] rfl rfl rfl rfl) rfl rfl hl.1 rfl (lv_room (Nat.le_of_ble_eq_true rfl)) dX3_takesWay_19 ⟨Nat.le_of_ble_eq_true rfl, Nat.le_of_ble_eq_true rfl⟩) hP hD hS hA [1, 2, 3] [0] rfl rfl rfl (by decide) (fun r_19 uu9 H locs hw hP hD hS => ?_)
    have hP : va_P G vwCl [(g 0, .inr (3, [.ref (h 0), .int (nI 4), .int r, .int tq, .int ho])), (h 0, .inr (1, [.ref (h 1), .ref (h 2), .int (nI rk), .int (nI sl)])), (h 1, .inl (cI, 7, .inl (fun i9 => nI (kd i9)))), (h 2, .inl (cI, 175, .inl (fun i9 => nI (tn i9))))] _ := hP
    have hD : va_D A [(g 0, .inr (3, [.ref (h 0), .int (nI 4), .int r, .int tq, .int ho])), (h 0, .inr (1, [.ref (h 1), .ref (h 2), .int (nI rk), .int (nI sl)])), (h 1, .inl (cI, 7, .inl (fun i9 => nI (kd i9)))), (h 2, .inl (cI, 175, .inl (fun i9 => nI (tn i9))))] := hD
    obtain rfl := hw
    refine top_i (y := bI (isR rk r)) rfl ?_
    refine lv_if_eq (tgt := 29) hx hb dX3_takesWay_22 (by decide) (fun c_22 => ?_) (fun c_22 => ?_)
    · skip
      have c_22 := bI_f c_22
      refine lv_iconst (v := nI 0) hx hb dX3_takesWay_29 (by decide) ?_
      exact endZ hx hb hr hlocks (rfl) (()) (bI_n (fun z => by obtain ⟨f, h1, h2, rfl⟩ := z; exact c_22 ⟨f, h2, rfl⟩)) (hP.sub [0, 1, 2, 3] rfl) (hD.sub [0, 1, 2, 3] (by decide) rfl) hS dX3_takesWay_30
    · skip
      have c_22 := bI_t c_22
      obtain ⟨f, hf, rfl⟩ := c_22
      refine lv_iconst (v := nI 1) hx hb dX3_takesWay_25 (by decide) ?_
      refine lv_goto (tgt := 30) hx hb dX3_takesWay_26 (by decide) ?_
      exact endZ hx hb hr hlocks (rfl) (()) (bI_y ⟨f, z_leF c_11 (by omega), hf, rfl⟩) (hP.sub [0, 1, 2, 3] rfl) (hD.sub [0, 1, 2, 3] (by decide) rfl) hS dX3_takesWay_30

set_option maxHeartbeats 4000000 in
set_option maxRecDepth 100000 in
theorem c_X3_takesTold {l : Launch} {G : va_G} {cI cJ cZ cS : ClassId} (g : Nat → Nat) (stp : Nat) (wy : Int32) (tq : Int32) (ho : Int32) (h : Nat → Nat) (kd : Nat → Nat) (tn : Nat → Nat) (rk : Nat) (sl : Nat) (r : Int32) (k : Nat) (hk : k < 7) (hwy : wy = nI k) (ht : ∀ i, i < 175 → tn i < 10) : CI l G (kT cI cJ cZ cS) (S := Unit) yX3_takesTold wsX3_takesTold { frames := 4, cells := 0, slots := 0, locals := 92 } [.ref (g 0), .int r] [(g 0, .inr (3, [.ref (h 0), .int (nI stp), .int wy, .int tq, .int ho])), (h 0, .inr (1, [.ref (h 1), .ref (h 2), .int (nI rk), .int (nI sl)])), (h 1, .inl (cI, 7, .inl (fun i9 => nI (kd i9)))), (h 2, .inl (cI, 175, .inl (fun i9 => nI (tn i9))))] (fun res _ => res = bI (∃ u, u < 5 ∧ r = nI u ∧ canSl tn k u)) (fun _ => [(g 0, .inr (3, [.ref (h 0), .int (nI 5), .int wy, .int r, .int ho])), (h 0, .inr (1, [.ref (h 1), .ref (h 2), .int (nI rk), .int (nI sl)])), (h 1, .inl (cI, 7, .inl (fun i9 => nI (kd i9)))), (h 2, .inl (cI, 175, .inl (fun i9 => nI (tn i9))))]) := by
  refine CI.of (cc := cX3_takesTold) (maxL := 2) (by decide) rfl (Nat.le_of_ble_eq_true rfl) ?_
  intro p9 e9 s m below meth co9 A ls hB
  obtain ⟨hx, hb, hml, hr, hts, hown, hlocks, hmn, hK, hP, hD, hS, hA, hl⟩ := hB
  have hP : va_P G vwCl [(g 0, .inr (3, [.ref (h 0), .int (nI stp), .int wy, .int tq, .int ho])), (h 0, .inr (1, [.ref (h 1), .ref (h 2), .int (nI rk), .int (nI sl)])), (h 1, .inl (cI, 7, .inl (fun i9 => nI (kd i9)))), (h 2, .inl (cI, 175, .inl (fun i9 => nI (tn i9))))] s.heap := hP
  have hD : va_D A [(g 0, .inr (3, [.ref (h 0), .int (nI stp), .int wy, .int tq, .int ho])), (h 0, .inr (1, [.ref (h 1), .ref (h 2), .int (nI rk), .int (nI sl)])), (h 1, .inl (cI, 7, .inl (fun i9 => nI (kd i9)))), (h 2, .inl (cI, 175, .inl (fun i9 => nI (tn i9))))] := hD
  have hl : lv_has ls 2 [(0, .ref (g 0)), (1, .int r)] := hl
  have k_0 := hts (.fieldLink RX3 25 "HearsayMarch$Reader" "toldOrder" "I") (by decide +kernel)
  have k_1 := hts (.fieldLink RX3 18 "HearsayMarch$Reader" "step" "I") (by decide +kernel)
  have k_2 := hts (.static yX9_isOrder) (by decide +kernel)
  have k_3 := hts (.initialized RX9) (by decide +kernel)
  have k_4 := hts (.fieldLink RX3 12 "HearsayMarch$Reader" "draft" "LHearsayMarch$Army;") (by decide +kernel)
  have k_5 := hts (.fieldLink RX3 22 "HearsayMarch$Reader" "way" "I") (by decide +kernel)
  have hin3 : ∀ w ∈ wsX30, w ∈ wsX3_takesTold := by decide +kernel
  refine lv_aload_n hx hb dX3_takesTold_0 rfl (lv_at hl 0 rfl) ?_
  refine lv_iload_n hx hb dX3_takesTold_1 rfl (lv_at hl 1 rfl) ?_
  refine va_put (D := G) (ci := 3) (v := .int r) (ty := tyX3 3) (C := RX3) (T := TX3) (N := 5) hx hb hts hin3 tyX3 tyX3_ok nmX3 hown hK.1 hP hD hS 0 rfl rfl 3 (by decide) k_0 (fun _ h9 => h9) rfl (by decide +kernel) rfl rfl (Nat.le_of_ble_eq_true rfl) dX3_takesTold_2 (fun H locs hP hD hS => ?_)
  have hP : va_P G vwCl [(g 0, .inr (3, [.ref (h 0), .int (nI stp), .int wy, .int r, .int ho])), (h 0, .inr (1, [.ref (h 1), .ref (h 2), .int (nI rk), .int (nI sl)])), (h 1, .inl (cI, 7, .inl (fun i9 => nI (kd i9)))), (h 2, .inl (cI, 175, .inl (fun i9 => nI (tn i9))))] _ := hP
  have hD : va_D A [(g 0, .inr (3, [.ref (h 0), .int (nI stp), .int wy, .int r, .int ho])), (h 0, .inr (1, [.ref (h 1), .ref (h 2), .int (nI rk), .int (nI sl)])), (h 1, .inl (cI, 7, .inl (fun i9 => nI (kd i9)))), (h 2, .inl (cI, 175, .inl (fun i9 => nI (tn i9))))] := hD
  refine lv_aload_n hx hb dX3_takesTold_5 rfl (lv_at hl 0 rfl) ?_
  refine lv_iconst (v := nI 5) hx hb dX3_takesTold_6 (by decide) ?_
  refine va_put (D := G) (ci := 3) (v := .int (nI 5)) (ty := tyX3 1) (C := RX3) (T := TX3) (N := 5) hx hb hts hin3 tyX3 tyX3_ok nmX3 hown hK.1 hP hD hS 0 rfl rfl 1 (by decide) k_1 (fun _ h9 => h9) rfl (by decide +kernel) rfl rfl (Nat.le_of_ble_eq_true rfl) dX3_takesTold_7 (fun H locs hP hD hS => ?_)
  have hP : va_P G vwCl [(g 0, .inr (3, [.ref (h 0), .int (nI 5), .int wy, .int r, .int ho])), (h 0, .inr (1, [.ref (h 1), .ref (h 2), .int (nI rk), .int (nI sl)])), (h 1, .inl (cI, 7, .inl (fun i9 => nI (kd i9)))), (h 2, .inl (cI, 175, .inl (fun i9 => nI (tn i9))))] _ := hP
  have hD : va_D A [(g 0, .inr (3, [.ref (h 0), .int (nI 5), .int wy, .int r, .int ho])), (h 0, .inr (1, [.ref (h 1), .ref (h 2), .int (nI rk), .int (nI sl)])), (h 1, .inl (cI, 7, .inl (fun i9 => nI (kd i9)))), (h 2, .inl (cI, 175, .inl (fun i9 => nI (tn i9))))] := hD
  refine lv_iload_n hx hb dX3_takesTold_10 rfl (lv_at hl 1 rfl) ?_
  refine aft_i (wr := [(g 0, .inr (3, [.ref (h 0), .int (nI 5), .int wy, .int r, .int ho])), (h 0, .inr (1, [.ref (h 1), .ref (h 2), .int (nI rk), .int (nI sl)])), (h 1, .inl (cI, 7, .inl (fun i9 => nI (kd i9)))), (h 2, .inl (cI, 175, .inl (fun i9 => nI (tn i9))))]) (va_runSN (host := RX9) (As := [.int r]) (rest := []) ⟨hx, hb, hml, hown, hts⟩ (c_X9_isOrder (r := r) _) ⟨va_cnB 1 hts gX3_takesTold_X9_isOrder_n82 rfl rfl rfl hK.2.1 k_3 (by decide +kernel) ⟨Nat.le_of_ble_eq_true rfl, Nat.le_of_ble_eq_true rfl⟩, k_2, trivial⟩ (preS hK hP hD [] rfl rfl) rfl rfl hl.1 rfl (lv_room (Nat.le_of_ble_eq_true rfl)) dX3_takesTold_11 ⟨Nat.le_of_ble_eq_true rfl, Nat.le_of_ble_eq_true rfl⟩) hP hD hS hA [] [0, 1, 2, 3] rfl rfl rfl (by decide) (fun r_11 uu9 H locs hw hP hD hS => ?_)
  have hP : va_P G vwCl [(g 0, .inr (3, [.ref (h 0), .int (nI 5), .int wy, .int r, .int ho])), (h 0, .inr (1, [.ref (h 1), .ref (h 2), .int (nI rk), .int (nI sl)])), (h 1, .inl (cI, 7, .inl (fun i9 => nI (kd i9)))), (h 2, .inl (cI, 175, .inl (fun i9 => nI (tn i9))))] _ := hP
  have hD : va_D A [(g 0, .inr (3, [.ref (h 0), .int (nI 5), .int wy, .int r, .int ho])), (h 0, .inr (1, [.ref (h 1), .ref (h 2), .int (nI rk), .int (nI sl)])), (h 1, .inl (cI, 7, .inl (fun i9 => nI (kd i9)))), (h 2, .inl (cI, 175, .inl (fun i9 => nI (tn i9))))] := hD
  obtain rfl := hw
  refine top_i (y := bI (isR 5 r)) rfl ?_
  refine lv_if_eq (tgt := 36) hx hb dX3_takesTold_14 (by decide) (fun c_14 => ?_) (fun c_14 => ?_)
  · skip
    have c_14 := bI_f c_14
    refine lv_iconst (v := nI 0) hx hb dX3_takesTold_36 (by decide) ?_
    exact endZ hx hb hr hlocks (rfl) (()) (bI_n (fun z => by obtain ⟨u, h1, h2, -⟩ := z; exact c_14 ⟨u, h1, h2⟩)) (hP.sub [0, 1, 2, 3] rfl) (hD.sub [0, 1, 2, 3] (by decide) rfl) hS dX3_takesTold_37
  · skip
    have c_14 := bI_t c_14
    obtain ⟨u, hu, rfl⟩ := c_14
    subst hwy
    refine lv_aload_n hx hb dX3_takesTold_17 rfl (lv_at hl 0 rfl) ?_
    refine va_get (D := G) (ci := 3) (v := .ref (h 0)) (C := RX3) (T := TX3) (N := 5) hx hb hts hin3 hown hK.1 hP 0 rfl rfl 0 (by decide) k_4 (fun _ h9 => h9) rfl dX3_takesTold_18 ?_
    refine lv_aload_n hx hb dX3_takesTold_21 rfl (lv_at hl 0 rfl) ?_
    refine va_get (D := G) (ci := 3) (v := .int (nI k)) (C := RX3) (T := TX3) (N := 5) hx hb hts hin3 hown hK.1 hP 0 rfl rfl 2 (by decide) k_5 (fun _ h9 => h9) rfl dX3_takesTold_22 ?_
    refine lv_iload_n hx hb dX3_takesTold_25 rfl (lv_at hl 1 rfl) ?_
    refine aft_i (wr := [(g 0, .inr (3, [.ref (h 0), .int (nI 5), .int (nI k), .int (nI u), .int ho]))]) (va_runV (As := [.int (nI k), .int (nI u)]) (rest := []) ⟨hx, hb, hml, hown, hts⟩ (c_X1_canSlip (h := h) (kd := kd) (tn := tn) (rk := rk) (sl := sl) (k := k) (u := u) (hk := by first | assumption | omega | exact hok.1 _ (by omega) | exact hok.2.2 _ _ (by omega) (by omega) | exact hok.2.1) (hu := by first | assumption | omega | exact hok.1 _ (by omega) | exact hok.2.2 _ _ (by omega) (by omega) | exact hok.2.1) (ht := by first | assumption | omega | exact hok.1 _ (by omega) | exact hok.2.2 _ _ (by omega) (by omega) | exact hok.2.1) _) (cwV 2 hts gX3_takesTold_X1_canSlip rfl rfl rfl (by decide +kernel) ⟨Nat.le_of_ble_eq_true rfl, Nat.le_of_ble_eq_true rfl⟩) (preV (cq := (RX1, TX1, 4)) (q0 := 1) (ci := 1) hK hP hD [1, 2, 3] rfl rfl rfl rfl) rfl rfl hl.1 rfl (lv_room (Nat.le_of_ble_eq_true rfl)) dX3_takesTold_26 ⟨Nat.le_of_ble_eq_true rfl, Nat.le_of_ble_eq_true rfl⟩) hP hD hS hA [1, 2, 3] [0] rfl rfl rfl (by decide) (fun r_26 uu9 H locs hw hP hD hS => ?_)
    have hP : va_P G vwCl [(g 0, .inr (3, [.ref (h 0), .int (nI 5), .int (nI k), .int (nI u), .int ho])), (h 0, .inr (1, [.ref (h 1), .ref (h 2), .int (nI rk), .int (nI sl)])), (h 1, .inl (cI, 7, .inl (fun i9 => nI (kd i9)))), (h 2, .inl (cI, 175, .inl (fun i9 => nI (tn i9))))] _ := hP
    have hD : va_D A [(g 0, .inr (3, [.ref (h 0), .int (nI 5), .int (nI k), .int (nI u), .int ho])), (h 0, .inr (1, [.ref (h 1), .ref (h 2), .int (nI rk), .int (nI sl)])), (h 1, .inl (cI, 7, .inl (fun i9 => nI (kd i9)))), (h 2, .inl (cI, 175, .inl (fun i9 => nI (tn i9))))] := hD
    obtain rfl := hw
    refine top_i (y := bI (sumN (slT tn k u) 5 < 10 ∧ ∃ v, v < 5 ∧ ¬ v = u ∧ slT tn k u v = 0)) rfl ?_
    refine lv_if_eq (tgt := 36) hx hb dX3_takesTold_29 (by decide) (fun c_29 => ?_) (fun c_29 => ?_)
    · skip
      have c_29 := bI_f c_29
      refine lv_iconst (v := nI 0) hx hb dX3_takesTold_36 (by decide) ?_
      exact endZ hx hb hr hlocks (rfl) (()) (bI_n (fun z => by obtain ⟨u2, h1, h2, h3⟩ := z; rw [(nI_eq (by omega) (by omega)).mp h2] at c_29; exact c_29 h3)) (hP.sub [0, 1, 2, 3] rfl) (hD.sub [0, 1, 2, 3] (by decide) rfl) hS dX3_takesTold_37
    · skip
      have c_29 := bI_t c_29
      refine lv_iconst (v := nI 1) hx hb dX3_takesTold_32 (by decide) ?_
      refine lv_goto (tgt := 37) hx hb dX3_takesTold_33 (by decide) ?_
      exact endZ hx hb hr hlocks (rfl) (()) (bI_y ⟨u, hu, rfl, c_29⟩) (hP.sub [0, 1, 2, 3] rfl) (hD.sub [0, 1, 2, 3] (by decide) rfl) hS dX3_takesTold_37

set_option maxHeartbeats 4000000 in
set_option maxRecDepth 100000 in
theorem c_X3_takesHeard {l : Launch} {G : va_G} {cI cJ cZ cS : ClassId} (g : Nat → Nat) (stp : Nat) (wy : Int32) (tq : Int32) (ho : Int32) (h : Nat → Nat) (kd : Nat → Nat) (tn : Nat → Nat) (rk : Nat) (sl : Nat) (r : Int32) (k : Nat) (u : Nat) (hk : k < 7) (hu : u < 5) (hwy : wy = nI k) (htq : tq = nI u) (ht : ∀ i, i < 175 → tn i < 10) : CI l G (kT cI cJ cZ cS) (S := Unit) yX3_takesHeard wsX3_takesHeard { frames := 3, cells := 0, slots := 0, locals := 68 } [.ref (g 0), .int r] [(g 0, .inr (3, [.ref (h 0), .int (nI stp), .int wy, .int tq, .int ho])), (h 0, .inr (1, [.ref (h 1), .ref (h 2), .int (nI rk), .int (nI sl)])), (h 1, .inl (cI, 7, .inl (fun i9 => nI (kd i9)))), (h 2, .inl (cI, 175, .inl (fun i9 => nI (tn i9))))] (fun res _ => res = bI (∃ v, v < 5 ∧ r = nI v ∧ ¬ v = u ∧ slT tn k u v = 0)) (fun _ => [(g 0, .inr (3, [.ref (h 0), .int (nI 6), .int wy, .int tq, .int r])), (h 0, .inr (1, [.ref (h 1), .ref (h 2), .int (nI rk), .int (nI sl)])), (h 1, .inl (cI, 7, .inl (fun i9 => nI (kd i9)))), (h 2, .inl (cI, 175, .inl (fun i9 => nI (tn i9))))]) := by
  refine CI.of (cc := cX3_takesHeard) (maxL := 2) (by decide) rfl (Nat.le_of_ble_eq_true rfl) ?_
  intro p9 e9 s m below meth co9 A ls hB
  obtain ⟨hx, hb, hml, hr, hts, hown, hlocks, hmn, hK, hP, hD, hS, hA, hl⟩ := hB
  have hP : va_P G vwCl [(g 0, .inr (3, [.ref (h 0), .int (nI stp), .int wy, .int tq, .int ho])), (h 0, .inr (1, [.ref (h 1), .ref (h 2), .int (nI rk), .int (nI sl)])), (h 1, .inl (cI, 7, .inl (fun i9 => nI (kd i9)))), (h 2, .inl (cI, 175, .inl (fun i9 => nI (tn i9))))] s.heap := hP
  have hD : va_D A [(g 0, .inr (3, [.ref (h 0), .int (nI stp), .int wy, .int tq, .int ho])), (h 0, .inr (1, [.ref (h 1), .ref (h 2), .int (nI rk), .int (nI sl)])), (h 1, .inl (cI, 7, .inl (fun i9 => nI (kd i9)))), (h 2, .inl (cI, 175, .inl (fun i9 => nI (tn i9))))] := hD
  have hl : lv_has ls 2 [(0, .ref (g 0)), (1, .int r)] := hl
  have k_0 := hts (.fieldLink RX3 28 "HearsayMarch$Reader" "heardOrder" "I") (by decide +kernel)
  have k_1 := hts (.fieldLink RX3 18 "HearsayMarch$Reader" "step" "I") (by decide +kernel)
  have k_2 := hts (.static yX9_isOrder) (by decide +kernel)
  have k_3 := hts (.initialized RX9) (by decide +kernel)
  have k_4 := hts (.fieldLink RX3 12 "HearsayMarch$Reader" "draft" "LHearsayMarch$Army;") (by decide +kernel)
  have k_5 := hts (.fieldLink RX3 22 "HearsayMarch$Reader" "way" "I") (by decide +kernel)
  have k_6 := hts (.fieldLink RX3 25 "HearsayMarch$Reader" "toldOrder" "I") (by decide +kernel)
  have hin3 : ∀ w ∈ wsX30, w ∈ wsX3_takesHeard := by decide +kernel
  refine lv_aload_n hx hb dX3_takesHeard_0 rfl (lv_at hl 0 rfl) ?_
  refine lv_iload_n hx hb dX3_takesHeard_1 rfl (lv_at hl 1 rfl) ?_
  refine va_put (D := G) (ci := 3) (v := .int r) (ty := tyX3 4) (C := RX3) (T := TX3) (N := 5) hx hb hts hin3 tyX3 tyX3_ok nmX3 hown hK.1 hP hD hS 0 rfl rfl 4 (by decide) k_0 (fun _ h9 => h9) rfl (by decide +kernel) rfl rfl (Nat.le_of_ble_eq_true rfl) dX3_takesHeard_2 (fun H locs hP hD hS => ?_)
  have hP : va_P G vwCl [(g 0, .inr (3, [.ref (h 0), .int (nI stp), .int wy, .int tq, .int r])), (h 0, .inr (1, [.ref (h 1), .ref (h 2), .int (nI rk), .int (nI sl)])), (h 1, .inl (cI, 7, .inl (fun i9 => nI (kd i9)))), (h 2, .inl (cI, 175, .inl (fun i9 => nI (tn i9))))] _ := hP
  have hD : va_D A [(g 0, .inr (3, [.ref (h 0), .int (nI stp), .int wy, .int tq, .int r])), (h 0, .inr (1, [.ref (h 1), .ref (h 2), .int (nI rk), .int (nI sl)])), (h 1, .inl (cI, 7, .inl (fun i9 => nI (kd i9)))), (h 2, .inl (cI, 175, .inl (fun i9 => nI (tn i9))))] := hD
  refine lv_aload_n hx hb dX3_takesHeard_5 rfl (lv_at hl 0 rfl) ?_
  refine lv_bipush (v := nI 6) hx hb dX3_takesHeard_6 (by decide) ?_
  refine va_put (D := G) (ci := 3) (v := .int (nI 6)) (ty := tyX3 1) (C := RX3) (T := TX3) (N := 5) hx hb hts hin3 tyX3 tyX3_ok nmX3 hown hK.1 hP hD hS 0 rfl rfl 1 (by decide) k_1 (fun _ h9 => h9) rfl (by decide +kernel) rfl rfl (Nat.le_of_ble_eq_true rfl) dX3_takesHeard_8 (fun H locs hP hD hS => ?_)
  have hP : va_P G vwCl [(g 0, .inr (3, [.ref (h 0), .int (nI 6), .int wy, .int tq, .int r])), (h 0, .inr (1, [.ref (h 1), .ref (h 2), .int (nI rk), .int (nI sl)])), (h 1, .inl (cI, 7, .inl (fun i9 => nI (kd i9)))), (h 2, .inl (cI, 175, .inl (fun i9 => nI (tn i9))))] _ := hP
  have hD : va_D A [(g 0, .inr (3, [.ref (h 0), .int (nI 6), .int wy, .int tq, .int r])), (h 0, .inr (1, [.ref (h 1), .ref (h 2), .int (nI rk), .int (nI sl)])), (h 1, .inl (cI, 7, .inl (fun i9 => nI (kd i9)))), (h 2, .inl (cI, 175, .inl (fun i9 => nI (tn i9))))] := hD
  refine lv_iload_n hx hb dX3_takesHeard_11 rfl (lv_at hl 1 rfl) ?_
  refine aft_i (wr := [(g 0, .inr (3, [.ref (h 0), .int (nI 6), .int wy, .int tq, .int r])), (h 0, .inr (1, [.ref (h 1), .ref (h 2), .int (nI rk), .int (nI sl)])), (h 1, .inl (cI, 7, .inl (fun i9 => nI (kd i9)))), (h 2, .inl (cI, 175, .inl (fun i9 => nI (tn i9))))]) (va_runSN (host := RX9) (As := [.int r]) (rest := []) ⟨hx, hb, hml, hown, hts⟩ (c_X9_isOrder (r := r) _) ⟨va_cnB 1 hts gX3_takesHeard_X9_isOrder_n82 rfl rfl rfl hK.2.1 k_3 (by decide +kernel) ⟨Nat.le_of_ble_eq_true rfl, Nat.le_of_ble_eq_true rfl⟩, k_2, trivial⟩ (preS hK hP hD [] rfl rfl) rfl rfl hl.1 rfl (lv_room (Nat.le_of_ble_eq_true rfl)) dX3_takesHeard_12 ⟨Nat.le_of_ble_eq_true rfl, Nat.le_of_ble_eq_true rfl⟩) hP hD hS hA [] [0, 1, 2, 3] rfl rfl rfl (by decide) (fun r_12 uu9 H locs hw hP hD hS => ?_)
  have hP : va_P G vwCl [(g 0, .inr (3, [.ref (h 0), .int (nI 6), .int wy, .int tq, .int r])), (h 0, .inr (1, [.ref (h 1), .ref (h 2), .int (nI rk), .int (nI sl)])), (h 1, .inl (cI, 7, .inl (fun i9 => nI (kd i9)))), (h 2, .inl (cI, 175, .inl (fun i9 => nI (tn i9))))] _ := hP
  have hD : va_D A [(g 0, .inr (3, [.ref (h 0), .int (nI 6), .int wy, .int tq, .int r])), (h 0, .inr (1, [.ref (h 1), .ref (h 2), .int (nI rk), .int (nI sl)])), (h 1, .inl (cI, 7, .inl (fun i9 => nI (kd i9)))), (h 2, .inl (cI, 175, .inl (fun i9 => nI (tn i9))))] := hD
  obtain rfl := hw
  refine top_i (y := bI (isR 5 r)) rfl ?_
  refine lv_if_eq (tgt := 41) hx hb dX3_takesHeard_15 (by decide) (fun c_15 => ?_) (fun c_15 => ?_)
  · skip
    have c_15 := bI_f c_15
    refine lv_iconst (v := nI 0) hx hb dX3_takesHeard_41 (by decide) ?_
    exact endZ hx hb hr hlocks (rfl) (()) (bI_n (fun z => by obtain ⟨v, h1, h2, -⟩ := z; exact c_15 ⟨v, h1, h2⟩)) (hP.sub [0, 1, 2, 3] rfl) (hD.sub [0, 1, 2, 3] (by decide) rfl) hS dX3_takesHeard_42
  · skip
    have c_15 := bI_t c_15
    obtain ⟨v, hv, rfl⟩ := c_15
    subst hwy
    subst htq
    refine lv_aload_n hx hb dX3_takesHeard_18 rfl (lv_at hl 0 rfl) ?_
    refine va_get (D := G) (ci := 3) (v := .ref (h 0)) (C := RX3) (T := TX3) (N := 5) hx hb hts hin3 hown hK.1 hP 0 rfl rfl 0 (by decide) k_4 (fun _ h9 => h9) rfl dX3_takesHeard_19 ?_
    refine lv_aload_n hx hb dX3_takesHeard_22 rfl (lv_at hl 0 rfl) ?_
    refine va_get (D := G) (ci := 3) (v := .int (nI k)) (C := RX3) (T := TX3) (N := 5) hx hb hts hin3 hown hK.1 hP 0 rfl rfl 2 (by decide) k_5 (fun _ h9 => h9) rfl dX3_takesHeard_23 ?_
    refine lv_aload_n hx hb dX3_takesHeard_26 rfl (lv_at hl 0 rfl) ?_
    refine va_get (D := G) (ci := 3) (v := .int (nI u)) (C := RX3) (T := TX3) (N := 5) hx hb hts hin3 hown hK.1 hP 0 rfl rfl 3 (by decide) k_6 (fun _ h9 => h9) rfl dX3_takesHeard_27 ?_
    refine lv_iload_n hx hb dX3_takesHeard_30 rfl (lv_at hl 1 rfl) ?_
    refine aft_i (wr := [(g 0, .inr (3, [.ref (h 0), .int (nI 6), .int (nI k), .int (nI u), .int (nI v)]))]) (va_runV (As := [.int (nI k), .int (nI u), .int (nI v)]) (rest := []) ⟨hx, hb, hml, hown, hts⟩ (c_X1_canSlipTo (h := h) (kd := kd) (tn := tn) (rk := rk) (sl := sl) (k := k) (u := u) (v := v) (hk := by first | assumption | omega | exact hok.1 _ (by omega) | exact hok.2.2 _ _ (by omega) (by omega) | exact hok.2.1) (hu := by first | assumption | omega | exact hok.1 _ (by omega) | exact hok.2.2 _ _ (by omega) (by omega) | exact hok.2.1) (hv := by first | assumption | omega | exact hok.1 _ (by omega) | exact hok.2.2 _ _ (by omega) (by omega) | exact hok.2.1) (ht := by first | assumption | omega | exact hok.1 _ (by omega) | exact hok.2.2 _ _ (by omega) (by omega) | exact hok.2.1) _) (cwV 3 hts gX3_takesHeard_X1_canSlipTo rfl rfl rfl (by decide +kernel) ⟨Nat.le_of_ble_eq_true rfl, Nat.le_of_ble_eq_true rfl⟩) (preV (cq := (RX1, TX1, 4)) (q0 := 1) (ci := 1) hK hP hD [1, 2, 3] rfl rfl rfl rfl) rfl rfl hl.1 rfl (lv_room (Nat.le_of_ble_eq_true rfl)) dX3_takesHeard_31 ⟨Nat.le_of_ble_eq_true rfl, Nat.le_of_ble_eq_true rfl⟩) hP hD hS hA [1, 2, 3] [0] rfl rfl rfl (by decide) (fun r_31 uu9 H locs hw hP hD hS => ?_)
    have hP : va_P G vwCl [(g 0, .inr (3, [.ref (h 0), .int (nI 6), .int (nI k), .int (nI u), .int (nI v)])), (h 0, .inr (1, [.ref (h 1), .ref (h 2), .int (nI rk), .int (nI sl)])), (h 1, .inl (cI, 7, .inl (fun i9 => nI (kd i9)))), (h 2, .inl (cI, 175, .inl (fun i9 => nI (tn i9))))] _ := hP
    have hD : va_D A [(g 0, .inr (3, [.ref (h 0), .int (nI 6), .int (nI k), .int (nI u), .int (nI v)])), (h 0, .inr (1, [.ref (h 1), .ref (h 2), .int (nI rk), .int (nI sl)])), (h 1, .inl (cI, 7, .inl (fun i9 => nI (kd i9)))), (h 2, .inl (cI, 175, .inl (fun i9 => nI (tn i9))))] := hD
    obtain rfl := hw
    refine top_i (y := bI (¬ v = u ∧ slT tn k u v = 0)) rfl ?_
    refine lv_if_eq (tgt := 41) hx hb dX3_takesHeard_34 (by decide) (fun c_34 => ?_) (fun c_34 => ?_)
    · skip
      have c_34 := bI_f c_34
      refine lv_iconst (v := nI 0) hx hb dX3_takesHeard_41 (by decide) ?_
      exact endZ hx hb hr hlocks (rfl) (()) (bI_n (fun z => by obtain ⟨v2, h1, h2, h3⟩ := z; rw [(nI_eq (by omega) (by omega)).mp h2] at c_34; exact c_34 h3)) (hP.sub [0, 1, 2, 3] rfl) (hD.sub [0, 1, 2, 3] (by decide) rfl) hS dX3_takesHeard_42
    · skip
      have c_34 := bI_t c_34
      refine lv_iconst (v := nI 1) hx hb dX3_takesHeard_37 (by decide) ?_
      refine lv_goto (tgt := 42) hx hb dX3_takesHeard_38 (by decide) ?_
      exact endZ hx hb hr hlocks (rfl) (()) (bI_y ⟨v, hv, rfl, c_34⟩) (hP.sub [0, 1, 2, 3] rfl) (hD.sub [0, 1, 2, 3] (by decide) rfl) hS dX3_takesHeard_42

set_option maxHeartbeats 4000000 in
set_option maxRecDepth 100000 in
theorem c_X3_takesTenths {l : Launch} {G : va_G} {cI cJ cZ cS : ClassId} (g : Nat → Nat) (stp : Nat) (wy : Int32) (tq : Int32) (ho : Int32) (h : Nat → Nat) (kd : Nat → Nat) (tn : Nat → Nat) (rk : Nat) (sl : Nat) (r : Int32) (k : Nat) (u : Nat) (v : Nat) (hk : k < 7) (hu : u < 5) (hv : v < 5) (hwy : wy = nI k) (htq : tq = nI u) (hho : ho = nI v) (hs : sumN (slT tn k u) 5 ≤ 10) : CI l G (kT cI cJ cZ cS) (S := Nat × Nat × (Nat → Nat)) yX3_takesTenths wsX3_takesTenths { frames := 3, cells := 0, slots := 0, locals := 69 } [.ref (g 0), .int r] [(g 0, .inr (3, [.ref (h 0), .int (nI stp), .int wy, .int tq, .int ho])), (h 0, .inr (1, [.ref (h 1), .ref (h 2), .int (nI rk), .int (nI sl)])), (h 1, .inl (cI, 7, .inl (fun i9 => nI (kd i9)))), (h 2, .inl (cI, 175, .inl (fun i9 => nI (tn i9))))] (fun res uu9 => match uu9 with | (st1, sl1, tn1) => res = bI (∃ t, 0 < t ∧ t < 10 ∧ r = nI t ∧ t + sumN (slT tn k u) 5 ≤ 10) ∧ (∀ t, 0 < t → t < 10 → r = nI t → t + sumN (slT tn k u) 5 ≤ 10 → st1 = 1 ∧ sl1 = sl + 1 ∧ tn1 = va_up tn ((k * 5 + u) * 5 + v) t)) (fun uu9 => match uu9 with | (st1, sl1, tn1) => [(g 0, .inr (3, [.ref (h 0), .int (nI st1), .int wy, .int tq, .int ho])), (h 0, .inr (1, [.ref (h 1), .ref (h 2), .int (nI rk), .int (nI sl1)])), (h 1, .inl (cI, 7, .inl (fun i9 => nI (kd i9)))), (h 2, .inl (cI, 175, .inl (fun i9 => nI (tn1 i9))))]) := by
  refine CI.of (cc := cX3_takesTenths) (maxL := 2) (by decide) rfl (Nat.le_of_ble_eq_true rfl) ?_
  intro p9 e9 s m below meth co9 A ls hB
  obtain ⟨hx, hb, hml, hr, hts, hown, hlocks, hmn, hK, hP, hD, hS, hA, hl⟩ := hB
  have hP : va_P G vwCl [(g 0, .inr (3, [.ref (h 0), .int (nI stp), .int wy, .int tq, .int ho])), (h 0, .inr (1, [.ref (h 1), .ref (h 2), .int (nI rk), .int (nI sl)])), (h 1, .inl (cI, 7, .inl (fun i9 => nI (kd i9)))), (h 2, .inl (cI, 175, .inl (fun i9 => nI (tn i9))))] s.heap := hP
  have hD : va_D A [(g 0, .inr (3, [.ref (h 0), .int (nI stp), .int wy, .int tq, .int ho])), (h 0, .inr (1, [.ref (h 1), .ref (h 2), .int (nI rk), .int (nI sl)])), (h 1, .inl (cI, 7, .inl (fun i9 => nI (kd i9)))), (h 2, .inl (cI, 175, .inl (fun i9 => nI (tn i9))))] := hD
  have hl : lv_has ls 2 [(0, .ref (g 0)), (1, .int r)] := hl
  have k_0 := hts (.fieldLink RX3 12 "HearsayMarch$Reader" "draft" "LHearsayMarch$Army;") (by decide +kernel)
  have k_1 := hts (.fieldLink RX3 22 "HearsayMarch$Reader" "way" "I") (by decide +kernel)
  have k_2 := hts (.fieldLink RX3 25 "HearsayMarch$Reader" "toldOrder" "I") (by decide +kernel)
  have k_3 := hts (.fieldLink RX3 28 "HearsayMarch$Reader" "heardOrder" "I") (by decide +kernel)
  have k_4 := hts (.fieldLink RX3 18 "HearsayMarch$Reader" "step" "I") (by decide +kernel)
  have hin3 : ∀ w ∈ wsX30, w ∈ wsX3_takesTenths := by decide +kernel
  subst hwy
  subst htq
  subst hho
  refine lv_iload_n hx hb dX3_takesTenths_0 rfl (lv_at hl 1 rfl) ?_
  refine lv_iconst (v := nI 1) hx hb dX3_takesTenths_1 (by decide) ?_
  refine lv_icmp_lt (tgt := 33) hx hb dX3_takesTenths_2 (by decide) (fun c_2 => ?_) (fun c_2 => ?_)
  · skip
    refine lv_iconst (v := nI 0) hx hb dX3_takesTenths_33 (by decide) ?_
    exact endZ hx hb hr hlocks (rfl) ((stp, sl, tn)) (⟨bI_n (fun z => by obtain ⟨t, h1, h2, rfl, -⟩ := z; exact absurd (n_ltT c_2 (by omega) (by omega)) (by omega)), fun t h1 h2 h3 _ => by subst h3; exact absurd (n_ltT c_2 (by omega) (by omega)) (by omega)⟩) (hP.sub [0, 1, 2, 3] rfl) (hD.sub [0, 1, 2, 3] (by decide) rfl) hS dX3_takesTenths_34
  · skip
    refine lv_iload_n hx hb dX3_takesTenths_5 rfl (lv_at hl 1 rfl) ?_
    refine lv_bipush (v := nI 9) hx hb dX3_takesTenths_6 (by decide) ?_
    refine lv_icmp_gt (tgt := 33) hx hb dX3_takesTenths_8 (by decide) (fun c_8 => ?_) (fun c_8 => ?_)
    · skip
      refine lv_iconst (v := nI 0) hx hb dX3_takesTenths_33 (by decide) ?_
      exact endZ hx hb hr hlocks (rfl) ((stp, sl, tn)) (⟨bI_n (fun z => by obtain ⟨t, h1, h2, rfl, -⟩ := z; exact absurd (n_gtT c_8 (by omega) (by omega)) (by omega)), fun t h1 h2 h3 _ => by subst h3; exact absurd (n_gtT c_8 (by omega) (by omega)) (by omega)⟩) (hP.sub [0, 1, 2, 3] rfl) (hD.sub [0, 1, 2, 3] (by decide) rfl) hS dX3_takesTenths_34
    · skip
      obtain ⟨t, htb, rfl⟩ := ge1_nat c_2
      have ht9 : 0 < t ∧ t < 10 := ⟨by have := n_ltF c_2 htb (by omega); omega, by have := n_gtF c_8 htb (by omega); omega⟩
      refine lv_iload_n hx hb dX3_takesTenths_11 rfl (lv_at hl 1 rfl) ?_
      refine lv_bipush (v := nI 10) hx hb dX3_takesTenths_12 (by decide) ?_
      refine lv_aload_n hx hb dX3_takesTenths_14 rfl (lv_at hl 0 rfl) ?_
      refine va_get (D := G) (ci := 3) (v := .ref (h 0)) (C := RX3) (T := TX3) (N := 5) hx hb hts hin3 hown hK.1 hP 0 rfl rfl 0 (by decide) k_0 (fun _ h9 => h9) rfl dX3_takesTenths_15 ?_
      refine lv_aload_n hx hb dX3_takesTenths_18 rfl (lv_at hl 0 rfl) ?_
      refine va_get (D := G) (ci := 3) (v := .int (nI k)) (C := RX3) (T := TX3) (N := 5) hx hb hts hin3 hown hK.1 hP 0 rfl rfl 2 (by decide) k_1 (fun _ h9 => h9) rfl dX3_takesTenths_19 ?_
      refine lv_aload_n hx hb dX3_takesTenths_22 rfl (lv_at hl 0 rfl) ?_
      refine va_get (D := G) (ci := 3) (v := .int (nI u)) (C := RX3) (T := TX3) (N := 5) hx hb hts hin3 hown hK.1 hP 0 rfl rfl 3 (by decide) k_2 (fun _ h9 => h9) rfl dX3_takesTenths_23 ?_
      refine aft_i (wr := [(g 0, .inr (3, [.ref (h 0), .int (nI stp), .int (nI k), .int (nI u), .int (nI v)]))]) (va_runV (As := [.int (nI k), .int (nI u)]) (rest := [.int (nI 10), .int (nI t)]) ⟨hx, hb, hml, hown, hts⟩ (c_X1_slipped (h := h) (kd := kd) (tn := tn) (rk := rk) (sl := sl) (k := k) (u := u) (hk := by first | assumption | omega | exact hok.1 _ (by omega) | exact hok.2.2 _ _ (by omega) (by omega) | exact hok.2.1) (hu := by first | assumption | omega | exact hok.1 _ (by omega) | exact hok.2.2 _ _ (by omega) (by omega) | exact hok.2.1) _) (cwV 2 hts gX3_takesTenths_X1_slipped rfl rfl rfl (by decide +kernel) ⟨Nat.le_of_ble_eq_true rfl, Nat.le_of_ble_eq_true rfl⟩) (preV (cq := (RX1, TX1, 4)) (q0 := 1) (ci := 1) hK hP hD [1, 2, 3] rfl rfl rfl rfl) rfl rfl hl.1 rfl (lv_room (Nat.le_of_ble_eq_true rfl)) dX3_takesTenths_26 ⟨Nat.le_of_ble_eq_true rfl, Nat.le_of_ble_eq_true rfl⟩) hP hD hS hA [1, 2, 3] [0] rfl rfl rfl (by decide) (fun r_26 uu9 H locs hw hP hD hS => ?_)
      have hP : va_P G vwCl [(g 0, .inr (3, [.ref (h 0), .int (nI stp), .int (nI k), .int (nI u), .int (nI v)])), (h 0, .inr (1, [.ref (h 1), .ref (h 2), .int (nI rk), .int (nI sl)])), (h 1, .inl (cI, 7, .inl (fun i9 => nI (kd i9)))), (h 2, .inl (cI, 175, .inl (fun i9 => nI (tn i9))))] _ := hP
      have hD : va_D A [(g 0, .inr (3, [.ref (h 0), .int (nI stp), .int (nI k), .int (nI u), .int (nI v)])), (h 0, .inr (1, [.ref (h 1), .ref (h 2), .int (nI rk), .int (nI sl)])), (h 1, .inl (cI, 7, .inl (fun i9 => nI (kd i9)))), (h 2, .inl (cI, 175, .inl (fun i9 => nI (tn i9))))] := hD
      obtain rfl := hw
      refine top_i (y := nI (sumN (slT tn k u) 5)) rfl ?_
      refine lv_isub hx hb dX3_takesTenths_29 ?_
      refine top_i (y := nI (10 - (sumN (slT tn k u) 5))) (pk_sub (by omega)) ?_
      refine lv_icmp_le (tgt := 35) hx hb dX3_takesTenths_30 (by decide) (fun c_30 => ?_) (fun c_30 => ?_)
      · skip
        have c_30 := n_leT c_30 (by omega) (by omega)
        refine lv_aload_n hx hb dX3_takesTenths_35 rfl (lv_at hl 0 rfl) ?_
        refine va_get (D := G) (ci := 3) (v := .ref (h 0)) (C := RX3) (T := TX3) (N := 5) hx hb hts hin3 hown hK.1 hP 0 rfl rfl 0 (by decide) k_0 (fun _ h9 => h9) rfl dX3_takesTenths_36 ?_
        refine lv_aload_n hx hb dX3_takesTenths_39 rfl (lv_at hl 0 rfl) ?_
        refine va_get (D := G) (ci := 3) (v := .int (nI k)) (C := RX3) (T := TX3) (N := 5) hx hb hts hin3 hown hK.1 hP 0 rfl rfl 2 (by decide) k_1 (fun _ h9 => h9) rfl dX3_takesTenths_40 ?_
        refine lv_aload_n hx hb dX3_takesTenths_43 rfl (lv_at hl 0 rfl) ?_
        refine va_get (D := G) (ci := 3) (v := .int (nI u)) (C := RX3) (T := TX3) (N := 5) hx hb hts hin3 hown hK.1 hP 0 rfl rfl 3 (by decide) k_2 (fun _ h9 => h9) rfl dX3_takesTenths_44 ?_
        refine lv_aload_n hx hb dX3_takesTenths_47 rfl (lv_at hl 0 rfl) ?_
        refine va_get (D := G) (ci := 3) (v := .int (nI v)) (C := RX3) (T := TX3) (N := 5) hx hb hts hin3 hown hK.1 hP 0 rfl rfl 4 (by decide) k_3 (fun _ h9 => h9) rfl dX3_takesTenths_48 ?_
        refine lv_iload_n hx hb dX3_takesTenths_51 rfl (lv_at hl 1 rfl) ?_
        refine aft_v (wr := [(g 0, .inr (3, [.ref (h 0), .int (nI stp), .int (nI k), .int (nI u), .int (nI v)]))]) (va_runV (As := [.int (nI k), .int (nI u), .int (nI v), .int (nI t)]) (rest := []) ⟨hx, hb, hml, hown, hts⟩ (c_X1_addSlip (h := h) (kd := kd) (tn := tn) (rk := rk) (sl := sl) (k := k) (u := u) (v := v) (t := t) (hk := by first | assumption | omega | exact hok.1 _ (by omega) | exact hok.2.2 _ _ (by omega) (by omega) | exact hok.2.1) (hu := by first | assumption | omega | exact hok.1 _ (by omega) | exact hok.2.2 _ _ (by omega) (by omega) | exact hok.2.1) (hv := by first | assumption | omega | exact hok.1 _ (by omega) | exact hok.2.2 _ _ (by omega) (by omega) | exact hok.2.1) _) (cwV 4 hts gX3_takesTenths_X1_addSlip rfl rfl rfl (by decide +kernel) ⟨Nat.le_of_ble_eq_true rfl, Nat.le_of_ble_eq_true rfl⟩) (preV (cq := (RX1, TX1, 4)) (q0 := 1) (ci := 1) hK hP hD [1, 2, 3] rfl rfl rfl rfl) rfl rfl hl.1 rfl (lv_room (Nat.le_of_ble_eq_true rfl)) dX3_takesTenths_52 ⟨Nat.le_of_ble_eq_true rfl, Nat.le_of_ble_eq_true rfl⟩) hP hD hS hA [1, 2, 3] [0] rfl rfl rfl (by decide) (fun uu9 H locs hw hP hD hS => ?_)
        have hP : va_P G vwCl [(g 0, .inr (3, [.ref (h 0), .int (nI stp), .int (nI k), .int (nI u), .int (nI v)])), (h 0, .inr (1, [.ref (h 1), .ref (h 2), .int (nI rk), .int (nI (sl + 1))])), (h 1, .inl (cI, 7, .inl (fun i9 => nI (kd i9)))), (h 2, .inl (cI, 175, .inl (fun i9 => nI ((va_up tn ((k * 5 + u) * 5 + v) t) i9))))] _ := hP
        have hD : va_D A [(g 0, .inr (3, [.ref (h 0), .int (nI stp), .int (nI k), .int (nI u), .int (nI v)])), (h 0, .inr (1, [.ref (h 1), .ref (h 2), .int (nI rk), .int (nI (sl + 1))])), (h 1, .inl (cI, 7, .inl (fun i9 => nI (kd i9)))), (h 2, .inl (cI, 175, .inl (fun i9 => nI ((va_up tn ((k * 5 + u) * 5 + v) t) i9))))] := hD
        refine lv_aload_n hx hb dX3_takesTenths_55 rfl (lv_at hl 0 rfl) ?_
        refine lv_iconst (v := nI 1) hx hb dX3_takesTenths_56 (by decide) ?_
        refine va_put (D := G) (ci := 3) (v := .int (nI 1)) (ty := tyX3 1) (C := RX3) (T := TX3) (N := 5) hx hb hts hin3 tyX3 tyX3_ok nmX3 hown hK.1 hP hD hS 0 rfl rfl 1 (by decide) k_4 (fun _ h9 => h9) rfl (by decide +kernel) rfl rfl (Nat.le_of_ble_eq_true rfl) dX3_takesTenths_57 (fun H locs hP hD hS => ?_)
        have hP : va_P G vwCl [(g 0, .inr (3, [.ref (h 0), .int (nI 1), .int (nI k), .int (nI u), .int (nI v)])), (h 0, .inr (1, [.ref (h 1), .ref (h 2), .int (nI rk), .int (nI (sl + 1))])), (h 1, .inl (cI, 7, .inl (fun i9 => nI (kd i9)))), (h 2, .inl (cI, 175, .inl (fun i9 => nI ((va_up tn ((k * 5 + u) * 5 + v) t) i9))))] _ := hP
        have hD : va_D A [(g 0, .inr (3, [.ref (h 0), .int (nI 1), .int (nI k), .int (nI u), .int (nI v)])), (h 0, .inr (1, [.ref (h 1), .ref (h 2), .int (nI rk), .int (nI (sl + 1))])), (h 1, .inl (cI, 7, .inl (fun i9 => nI (kd i9)))), (h 2, .inl (cI, 175, .inl (fun i9 => nI ((va_up tn ((k * 5 + u) * 5 + v) t) i9))))] := hD
        refine lv_iconst (v := nI 1) hx hb dX3_takesTenths_60 (by decide) ?_
        exact endZ hx hb hr hlocks (rfl) ((1, sl + 1, va_up tn ((k * 5 + u) * 5 + v) t)) (⟨bI_y ⟨t, ht9.1, ht9.2, rfl, by omega⟩, fun t2 h1 h2 h3 h4 => by rw [(nI_eq (by omega) (by omega)).mp h3]; exact ⟨rfl, rfl, rfl⟩⟩) (hP.sub [0, 1, 2, 3] rfl) (hD.sub [0, 1, 2, 3] (by decide) rfl) hS dX3_takesTenths_61
      · skip
        have c_30 := n_leF c_30 (by omega) (by omega)
        refine lv_iconst (v := nI 0) hx hb dX3_takesTenths_33 (by decide) ?_
        exact endZ hx hb hr hlocks (rfl) ((stp, sl, tn)) (⟨bI_n (fun z => by obtain ⟨t2, h1, h2, h3, h4⟩ := z; have e2 := (nI_eq (by omega) (by omega)).mp h3; omega), fun t2 h1 h2 h3 h4 => by have e2 := (nI_eq (by omega) (by omega)).mp h3; omega⟩) (hP.sub [0, 1, 2, 3] rfl) (hD.sub [0, 1, 2, 3] (by decide) rfl) hS dX3_takesTenths_34
