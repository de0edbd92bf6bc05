/-! new objects -/
def mkg (l : List Nat) (j : Nat) : Nat := l.getD j 0
theorem new_arr {p : Program} {l : Launch} {e : Env} {R : Room} {s : State} {m : MethodId} {args : Array Value} {below : List Frame} {meth : Method} {c : Code} {H : Heap} {locs : List Loc} {cells slots : Nat} {Q : State → Prop} {pc : Nat} {ls : Array Slot} {rest : List Value} {cc : ByteArray} {G : va_G} {A : Nat → Prop} {H0 : Heap} {ws : va_W} {T : List (ClassId × FieldType)}
    (hx : p.tables.exec = Jvm.exec) (hb : c.code = cc) {atype : ArrayType} (harr : (Cond.arrayClass (newarray.typeOf atype)).before args s = true) {ty : FieldType} (hty : newarray.typeOf atype = ty) (hK : KK G T s) (hP : va_P G vwCl ws H) (hD : va_D A ws) (hS : va_S A H0 H locs) (hA : ∀ q, H0.size ≤ q → A q)
    {cA : ClassId} (t0 : Nat) (ht : T[t0]? = some (cA, ty)) (hpr : ∀ C, ¬ ty = .object C) {n : Int32} {N' : Nat} {a0 : vp_A} (ha : ∀ cA : ClassId, vp_cell cA a0 = arrV cA N' (fun _ => defaultValue ty)) (hn : ¬ n < 0) (hN : n.toNatClampNeg = N') (hbytes : N' * componentBytes ty ≤ 536870912) (hcells : cells + 1 ≤ R.cells) (hslots : slots + N' ≤ R.slots) (hdg : decode cc pc = .ok (.newarray atype, 2))
    (kk : ∀ (q : Nat) (H1 : Heap), va_P G vwCl (ws ++ [(q, .inl (cA, a0))]) H1 → va_D A (ws ++ [(q, .inl (cA, a0))]) → va_S A H0 H1 locs →
      W p l e R s m args below meth c H1 locs (cells + 1) (slots + N') Q (F0 m (pc + 2) ls (.ref q :: rest))) : W p l e R s m args below meth c H locs cells slots Q (F0 m pc ls (.int n :: rest)) := by
  refine va_newa hx hb harr hty hK.1 hP hD hS hA ha hn hN hbytes hcells hslots hdg (fun q cB H1 k1 p1 d1 s1 => ?_)
  have e1 := (k1.2 T.length (cB, ty) (by simp)).2
  have e2 := (hK.1.2 t0 _ ht).2
  have e : cB = cA := by
    cases ty with
    | object C => exact absurd rfl (hpr C)
    | _ => exact Option.some.inj (e1.symm.trans e2)
  subst e
  exact kk q H1 p1 d1 s1
set_option maxHeartbeats 1000000 in
set_option maxRecDepth 100000 in
theorem c_X7_init {l : Launch} {G : va_G} {cI cJ cZ cS : ClassId} (a : Nat) : CV l G (kT cI cJ cZ cS) (S := Nat → Nat) yX7_init wsX7_init { frames := 1, cells := 1, slots := 64, locals := 20 } [.ref a] [(a, .inr (7, [.null, .int (nI 0)]))] (fun g => g 0 = a) (fun g => [(g 0, .inr (7, [.ref (g 1), .int (nI 0)])), (g 1, .inl (cI, 64, .inl (fun i9 => nI ((fun _ => 0) i9))))]) := by
  refine CV.of (cc := cX7_init) (maxL := 1) (by decide) rfl (Nat.le_of_ble_eq_true rfl) ?_
  intro p9 e9 s m below meth co9 A ls hB
  obtain ⟨hx, hb, hml, hr, hts, hown, hlocks, hmn, hK, hP, hD, hS, hA, hl⟩ := hB
  have hP : va_P G vwCl [(a, .inr (7, [.null, .int (nI 0)]))] s.heap := hP
  have hD : va_D A [(a, .inr (7, [.null, .int (nI 0)]))] := hD
  have hl : lv_has ls 1 [(0, .ref a)] := hl
  have k_0 := hts (.methodLink RX7 3 objectInit) (by decide +kernel)
  have k_1 := hts (.instanceMethod objectInit) (by decide +kernel)
  have k_2 := hts (.code objectInit ⟨#[0xb1]⟩ 1 none) (by decide +kernel)
  have k_3 := hts (.arrayClass .int) (by decide +kernel)
  have k_4 := hts (.fieldLink RX7 9 "HearsayMarch$Text" "signs" "[I") (by decide +kernel)
  have k_5 := hts (.fieldLink RX7 15 "HearsayMarch$Text" "length" "I") (by decide +kernel)
  have hin7 : ∀ w ∈ wsX70, w ∈ wsX7_init := by decide +kernel
  refine lv_aload_n hx hb dX7_init_0 rfl (lv_at hl 0 rfl) ?_
  refine W.objInit hx hb hown k_0 k_1 k_2 rfl (by rw [hml]; exact hl.1) rfl dX7_init_1 (Nat.le_of_ble_eq_true rfl) (Nat.le_of_ble_eq_true rfl) ?_
  refine W.eq (g2 := F0 m 4 ls []) rfl ?_
  refine lv_aload_n hx hb dX7_init_4 rfl (lv_at hl 0 rfl) ?_
  refine lv_bipush (v := nI 64) hx hb dX7_init_5 (by decide) ?_
  refine new_arr (atype := .int) (ty := .int) (cA := cI) (a0 := (64, .inl (fun i9 => nI ((fun _ => 0) i9)))) (N' := 64) hx hb k_3 rfl hK hP hD hS hA 0 rfl (fun C h9 => by cases h9) (fun _ => rfl) (by decide) (by decide) (Nat.le_of_ble_eq_true rfl) (Nat.le_of_ble_eq_true rfl) (Nat.le_of_ble_eq_true rfl) dX7_init_7 (fun a7 H hP hD hS => ?_)
  have hP : va_P G vwCl [(a, .inr (7, [.null, .int (nI 0)])), (a7, .inl (cI, 64, .inl (fun i9 => nI ((fun _ => 0) i9))))] _ := hP
  have hD : va_D A [(a, .inr (7, [.null, .int (nI 0)])), (a7, .inl (cI, 64, .inl (fun i9 => nI ((fun _ => 0) i9))))] := hD
  refine va_putF (D := G) (ci := 7) (v := .ref a7) (ty := tyX7 0) (C := RX7) (T := TX7) (N := 2) hx hb hts hin7 tyX7 tyX7_ok nmX7 hown hK.1 hP hD hS 0 rfl rfl 0 (by decide) k_4 (fun _ h9 => h9) rfl hmn rfl (by decide +kernel) rfl rfl (Nat.le_of_ble_eq_true rfl) dX7_init_9 (fun H locs hP hD hS => ?_)
  have hP : va_P G vwCl [(a, .inr (7, [.ref a7, .int (nI 0)])), (a7, .inl (cI, 64, .inl (fun i9 => nI ((fun _ => 0) i9))))] _ := hP
  have hD : va_D A [(a, .inr (7, [.ref a7, .int (nI 0)])), (a7, .inl (cI, 64, .inl (fun i9 => nI ((fun _ => 0) i9))))] := hD
  refine lv_aload_n hx hb dX7_init_12 rfl (lv_at hl 0 rfl) ?_
  refine lv_iconst (v := nI 0) hx hb dX7_init_13 (by decide) ?_
  refine va_put (D := G) (ci := 7) (v := .int (nI 0)) (ty := tyX7 1) (C := RX7) (T := TX7) (N := 2) hx hb hts hin7 tyX7 tyX7_ok nmX7 hown hK.1 hP hD hS 0 rfl rfl 1 (by decide) k_5 (fun _ h9 => h9) rfl (by decide +kernel) rfl rfl (Nat.le_of_ble_eq_true rfl) dX7_init_14 (fun H locs hP hD hS => ?_)
  have hP : va_P G vwCl [(a, .inr (7, [.ref a7, .int (nI 0)])), (a7, .inl (cI, 64, .inl (fun i9 => nI ((fun _ => 0) i9))))] _ := hP
  have hD : va_D A [(a, .inr (7, [.ref a7, .int (nI 0)])), (a7, .inl (cI, 64, .inl (fun i9 => nI ((fun _ => 0) i9))))] := hD
  exact endV hx hb hr hlocks (mkg [a, a7]) (rfl) (hP.sub [0, 1] rfl) (hD.sub [0, 1] (by decide) rfl) hS dX7_init_17

set_option maxHeartbeats 1000000 in
set_option maxRecDepth 100000 in
theorem c_X1_init {l : Launch} {G : va_G} {cI cJ cZ cS : ClassId} (a : Nat) : CV l G (kT cI cJ cZ cS) (S := Nat → Nat) yX1_init wsX1_init { frames := 1, cells := 2, slots := 182, locals := 20 } [.ref a] [(a, .inr (1, [.null, .null, .int (nI 0), .int (nI 0)]))] (fun g => g 0 = a) (fun g => [(g 0, .inr (1, [.ref (g 1), .ref (g 2), .int (nI 0), .int (nI 0)])), (g 1, .inl (cI, 7, .inl (fun i9 => nI ((fun _ => 0) i9)))), (g 2, .inl (cI, 175, .inl (fun i9 => nI ((fun _ => 0) i9))))]) := by
  refine CV.of (cc := cX1_init) (maxL := 1) (by decide) rfl (Nat.le_of_ble_eq_true rfl) ?_
  intro p9 e9 s m below meth co9 A ls hB
  obtain ⟨hx, hb, hml, hr, hts, hown, hlocks, hmn, hK, hP, hD, hS, hA, hl⟩ := hB
  have hP : va_P G vwCl [(a, .inr (1, [.null, .null, .int (nI 0), .int (nI 0)]))] s.heap := hP
  have hD : va_D A [(a, .inr (1, [.null, .null, .int (nI 0), .int (nI 0)]))] := hD
  have hl : lv_has ls 1 [(0, .ref a)] := hl
  have k_0 := hts (.methodLink RX1 3 objectInit) (by decide +kernel)
  have k_1 := hts (.instanceMethod objectInit) (by decide +kernel)
  have k_2 := hts (.code objectInit ⟨#[0xb1]⟩ 1 none) (by decide +kernel)
  have k_3 := hts (.arrayClass .int) (by decide +kernel)
  have k_4 := hts (.fieldLink RX1 9 "HearsayMarch$Army" "kinds" "[I") (by decide +kernel)
  have k_5 := hts (.fieldLink RX1 15 "HearsayMarch$Army" "tenths" "[I") (by decide +kernel)
  have k_6 := hts (.fieldLink RX1 18 "HearsayMarch$Army" "ranks" "I") (by decide +kernel)
  have k_7 := hts (.fieldLink RX1 22 "HearsayMarch$Army" "slips" "I") (by decide +kernel)
  have hin1 : ∀ w ∈ wsX10, w ∈ wsX1_init := by decide +kernel
  refine lv_aload_n hx hb dX1_init_0 rfl (lv_at hl 0 rfl) ?_
  refine W.objInit hx hb hown k_0 k_1 k_2 rfl (by rw [hml]; exact hl.1) rfl dX1_init_1 (Nat.le_of_ble_eq_true rfl) (Nat.le_of_ble_eq_true rfl) ?_
  refine W.eq (g2 := F0 m 4 ls []) rfl ?_
  refine lv_aload_n hx hb dX1_init_4 rfl (lv_at hl 0 rfl) ?_
  refine lv_bipush (v := nI 7) hx hb dX1_init_5 (by decide) ?_
  refine new_arr (atype := .int) (ty := .int) (cA := cI) (a0 := (7, .inl (fun i9 => nI ((fun _ => 0) i9)))) (N' := 7) hx hb k_3 rfl hK hP hD hS hA 0 rfl (fun C h9 => by cases h9) (fun _ => rfl) (by decide) (by decide) (Nat.le_of_ble_eq_true rfl) (Nat.le_of_ble_eq_true rfl) (Nat.le_of_ble_eq_true rfl) dX1_init_7 (fun a7 H hP hD hS => ?_)
  have hP : va_P G vwCl [(a, .inr (1, [.null, .null, .int (nI 0), .int (nI 0)])), (a7, .inl (cI, 7, .inl (fun i9 => nI ((fun _ => 0) i9))))] _ := hP
  have hD : va_D A [(a, .inr (1, [.null, .null, .int (nI 0), .int (nI 0)])), (a7, .inl (cI, 7, .inl (fun i9 => nI ((fun _ => 0) i9))))] := hD
  refine va_putF (D := G) (ci := 1) (v := .ref a7) (ty := tyX1 0) (C := RX1) (T := TX1) (N := 4) hx hb hts hin1 tyX1 tyX1_ok nmX1 hown hK.1 hP hD hS 0 rfl rfl 0 (by decide) k_4 (fun _ h9 => h9) rfl hmn rfl (by decide +kernel) rfl rfl (Nat.le_of_ble_eq_true rfl) dX1_init_9 (fun H locs hP hD hS => ?_)
  have hP : va_P G vwCl [(a, .inr (1, [.ref a7, .null, .int (nI 0), .int (nI 0)])), (a7, .inl (cI, 7, .inl (fun i9 => nI ((fun _ => 0) i9))))] _ := hP
  have hD : va_D A [(a, .inr (1, [.ref a7, .null, .int (nI 0), .int (nI 0)])), (a7, .inl (cI, 7, .inl (fun i9 => nI ((fun _ => 0) i9))))] := hD
  refine lv_aload_n hx hb dX1_init_12 rfl (lv_at hl 0 rfl) ?_
  refine lv_sipush (v := nI 175) hx hb dX1_init_13 (by decide) ?_
  refine new_arr (atype := .int) (ty := .int) (cA := cI) (a0 := (175, .inl (fun i9 => nI ((fun _ => 0) i9)))) (N' := 175) hx hb k_3 rfl hK hP hD hS hA 0 rfl (fun C h9 => by cases h9) (fun _ => rfl) (by decide) (by decide) (Nat.le_of_ble_eq_true rfl) (Nat.le_of_ble_eq_true rfl) (Nat.le_of_ble_eq_true rfl) dX1_init_16 (fun a16 H hP hD hS => ?_)
  have hP : va_P G vwCl [(a, .inr (1, [.ref a7, .null, .int (nI 0), .int (nI 0)])), (a7, .inl (cI, 7, .inl (fun i9 => nI ((fun _ => 0) i9)))), (a16, .inl (cI, 175, .inl (fun i9 => nI ((fun _ => 0) i9))))] _ := hP
  have hD : va_D A [(a, .inr (1, [.ref a7, .null, .int (nI 0), .int (nI 0)])), (a7, .inl (cI, 7, .inl (fun i9 => nI ((fun _ => 0) i9)))), (a16, .inl (cI, 175, .inl (fun i9 => nI ((fun _ => 0) i9))))] := hD
  refine va_putF (D := G) (ci := 1) (v := .ref a16) (ty := tyX1 1) (C := RX1) (T := TX1) (N := 4) hx hb hts hin1 tyX1 tyX1_ok nmX1 hown hK.1 hP hD hS 0 rfl rfl 1 (by decide) k_5 (fun _ h9 => h9) rfl hmn rfl (by decide +kernel) rfl rfl (Nat.le_of_ble_eq_true rfl) dX1_init_18 (fun H locs hP hD hS => ?_)
  have hP : va_P G vwCl [(a, .inr (1, [.ref a7, .ref a16, .int (nI 0), .int (nI 0)])), (a7, .inl (cI, 7, .inl (fun i9 => nI ((fun _ => 0) i9)))), (a16, .inl (cI, 175, .inl (fun i9 => nI ((fun _ => 0) i9))))] _ := hP
  have hD : va_D A [(a, .inr (1, [.ref a7, .ref a16, .int (nI 0), .int (nI 0)])), (a7, .inl (cI, 7, .inl (fun i9 => nI ((fun _ => 0) i9)))), (a16, .inl (cI, 175, .inl (fun i9 => nI ((fun _ => 0) i9))))] := hD
  refine lv_aload_n hx hb dX1_init_21 rfl (lv_at hl 0 rfl) ?_
  refine lv_iconst (v := nI 0) hx hb dX1_init_22 (by decide) ?_
  refine va_put (D := G) (ci := 1) (v := .int (nI 0)) (ty := tyX1 2) (C := RX1) (T := TX1) (N := 4) hx hb hts hin1 tyX1 tyX1_ok nmX1 hown hK.1 hP hD hS 0 rfl rfl 2 (by decide) k_6 (fun _ h9 => h9) rfl (by decide +kernel) rfl rfl (Nat.le_of_ble_eq_true rfl) dX1_init_23 (fun H locs hP hD hS => ?_)
  have hP : va_P G vwCl [(a, .inr (1, [.ref a7, .ref a16, .int (nI 0), .int (nI 0)])), (a7, .inl (cI, 7, .inl (fun i9 => nI ((fun _ => 0) i9)))), (a16, .inl (cI, 175, .inl (fun i9 => nI ((fun _ => 0) i9))))] _ := hP
  have hD : va_D A [(a, .inr (1, [.ref a7, .ref a16, .int (nI 0), .int (nI 0)])), (a7, .inl (cI, 7, .inl (fun i9 => nI ((fun _ => 0) i9)))), (a16, .inl (cI, 175, .inl (fun i9 => nI ((fun _ => 0) i9))))] := hD
  refine lv_aload_n hx hb dX1_init_26 rfl (lv_at hl 0 rfl) ?_
  refine lv_iconst (v := nI 0) hx hb dX1_init_27 (by decide) ?_
  refine va_put (D := G) (ci := 1) (v := .int (nI 0)) (ty := tyX1 3) (C := RX1) (T := TX1) (N := 4) hx hb hts hin1 tyX1 tyX1_ok nmX1 hown hK.1 hP hD hS 0 rfl rfl 3 (by decide) k_7 (fun _ h9 => h9) rfl (by decide +kernel) rfl rfl (Nat.le_of_ble_eq_true rfl) dX1_init_28 (fun H locs hP hD hS => ?_)
  have hP : va_P G vwCl [(a, .inr (1, [.ref a7, .ref a16, .int (nI 0), .int (nI 0)])), (a7, .inl (cI, 7, .inl (fun i9 => nI ((fun _ => 0) i9)))), (a16, .inl (cI, 175, .inl (fun i9 => nI ((fun _ => 0) i9))))] _ := hP
  have hD : va_D A [(a, .inr (1, [.ref a7, .ref a16, .int (nI 0), .int (nI 0)])), (a7, .inl (cI, 7, .inl (fun i9 => nI ((fun _ => 0) i9)))), (a16, .inl (cI, 175, .inl (fun i9 => nI ((fun _ => 0) i9))))] := hD
  exact endV hx hb hr hlocks (mkg [a, a7, a16]) (rfl) (hP.sub [0, 1, 2] rfl) (hD.sub [0, 1, 2] (by decide) rfl) hS dX1_init_31

set_option maxHeartbeats 1000000 in
set_option maxRecDepth 100000 in
theorem c_X2_init {l : Launch} {G : va_G} {cI cJ cZ cS : ClassId} (a : Nat) : CV l G (kT cI cJ cZ cS) (S := Nat → Nat) yX2_init wsX2_init { frames := 1, cells := 2, slots := 10, locals := 20 } [.ref a] [(a, .inr (2, [.null, .null, .long (lN 0)]))] (fun g => g 0 = a) (fun g => [(g 0, .inr (2, [.ref (g 1), .ref (g 2), .long (lN 1)])), (g 1, .inl (cJ, 5, .inr (.inl (fun i9 => lN ((fun _ => 0) i9))))), (g 2, .inl (cJ, 5, .inr (.inl (fun i9 => lN ((fun _ => 0) i9)))))]) := by
  refine CV.of (cc := cX2_init) (maxL := 1) (by decide) rfl (Nat.le_of_ble_eq_true rfl) ?_
  intro p9 e9 s m below meth co9 A ls hB
  obtain ⟨hx, hb, hml, hr, hts, hown, hlocks, hmn, hK, hP, hD, hS, hA, hl⟩ := hB
  have hP : va_P G vwCl [(a, .inr (2, [.null, .null, .long (lN 0)]))] s.heap := hP
  have hD : va_D A [(a, .inr (2, [.null, .null, .long (lN 0)]))] := hD
  have hl : lv_has ls 1 [(0, .ref a)] := hl
  have k_0 := hts (.methodLink RX2 3 objectInit) (by decide +kernel)
  have k_1 := hts (.instanceMethod objectInit) (by decide +kernel)
  have k_2 := hts (.code objectInit ⟨#[0xb1]⟩ 1 none) (by decide +kernel)
  have k_3 := hts (.arrayClass .long) (by decide +kernel)
  have k_4 := hts (.fieldLink RX2 9 "HearsayMarch$Chances" "parts" "[J") (by decide +kernel)
  have k_5 := hts (.fieldLink RX2 15 "HearsayMarch$Chances" "onward" "[J") (by decide +kernel)
  have k_6 := hts (.fieldLink RX2 18 "HearsayMarch$Chances" "whole" "J") (by decide +kernel)
  have hin2 : ∀ w ∈ wsX20, w ∈ wsX2_init := by decide +kernel
  refine lv_aload_n hx hb dX2_init_0 rfl (lv_at hl 0 rfl) ?_
  refine W.objInit hx hb hown k_0 k_1 k_2 rfl (by rw [hml]; exact hl.1) rfl dX2_init_1 (Nat.le_of_ble_eq_true rfl) (Nat.le_of_ble_eq_true rfl) ?_
  refine W.eq (g2 := F0 m 4 ls []) rfl ?_
  refine lv_aload_n hx hb dX2_init_4 rfl (lv_at hl 0 rfl) ?_
  refine lv_iconst (v := nI 5) hx hb dX2_init_5 (by decide) ?_
  refine new_arr (atype := .long) (ty := .long) (cA := cJ) (a0 := (5, .inr (.inl (fun i9 => lN ((fun _ => 0) i9))))) (N' := 5) hx hb k_3 rfl hK hP hD hS hA 1 rfl (fun C h9 => by cases h9) (fun _ => rfl) (by decide) (by decide) (Nat.le_of_ble_eq_true rfl) (Nat.le_of_ble_eq_true rfl) (Nat.le_of_ble_eq_true rfl) dX2_init_6 (fun a6 H hP hD hS => ?_)
  have hP : va_P G vwCl [(a, .inr (2, [.null, .null, .long (lN 0)])), (a6, .inl (cJ, 5, .inr (.inl (fun i9 => lN ((fun _ => 0) i9)))))] _ := hP
  have hD : va_D A [(a, .inr (2, [.null, .null, .long (lN 0)])), (a6, .inl (cJ, 5, .inr (.inl (fun i9 => lN ((fun _ => 0) i9)))))] := hD
  refine va_putF (D := G) (ci := 2) (v := .ref a6) (ty := tyX2 0) (C := RX2) (T := TX2) (N := 3) hx hb hts hin2 tyX2 tyX2_ok nmX2 hown hK.1 hP hD hS 0 rfl rfl 0 (by decide) k_4 (fun _ h9 => h9) rfl hmn rfl (by decide +kernel) rfl rfl (Nat.le_of_ble_eq_true rfl) dX2_init_8 (fun H locs hP hD hS => ?_)
  have hP : va_P G vwCl [(a, .inr (2, [.ref a6, .null, .long (lN 0)])), (a6, .inl (cJ, 5, .inr (.inl (fun i9 => lN ((fun _ => 0) i9)))))] _ := hP
  have hD : va_D A [(a, .inr (2, [.ref a6, .null, .long (lN 0)])), (a6, .inl (cJ, 5, .inr (.inl (fun i9 => lN ((fun _ => 0) i9)))))] := hD
  refine lv_aload_n hx hb dX2_init_11 rfl (lv_at hl 0 rfl) ?_
  refine lv_iconst (v := nI 5) hx hb dX2_init_12 (by decide) ?_
  refine new_arr (atype := .long) (ty := .long) (cA := cJ) (a0 := (5, .inr (.inl (fun i9 => lN ((fun _ => 0) i9))))) (N' := 5) hx hb k_3 rfl hK hP hD hS hA 1 rfl (fun C h9 => by cases h9) (fun _ => rfl) (by decide) (by decide) (Nat.le_of_ble_eq_true rfl) (Nat.le_of_ble_eq_true rfl) (Nat.le_of_ble_eq_true rfl) dX2_init_13 (fun a13 H hP hD hS => ?_)
  have hP : va_P G vwCl [(a, .inr (2, [.ref a6, .null, .long (lN 0)])), (a6, .inl (cJ, 5, .inr (.inl (fun i9 => lN ((fun _ => 0) i9))))), (a13, .inl (cJ, 5, .inr (.inl (fun i9 => lN ((fun _ => 0) i9)))))] _ := hP
  have hD : va_D A [(a, .inr (2, [.ref a6, .null, .long (lN 0)])), (a6, .inl (cJ, 5, .inr (.inl (fun i9 => lN ((fun _ => 0) i9))))), (a13, .inl (cJ, 5, .inr (.inl (fun i9 => lN ((fun _ => 0) i9)))))] := hD
  refine va_putF (D := G) (ci := 2) (v := .ref a13) (ty := tyX2 1) (C := RX2) (T := TX2) (N := 3) hx hb hts hin2 tyX2 tyX2_ok nmX2 hown hK.1 hP hD hS 0 rfl rfl 1 (by decide) k_5 (fun _ h9 => h9) rfl hmn rfl (by decide +kernel) rfl rfl (Nat.le_of_ble_eq_true rfl) dX2_init_15 (fun H locs hP hD hS => ?_)
  have hP : va_P G vwCl [(a, .inr (2, [.ref a6, .ref a13, .long (lN 0)])), (a6, .inl (cJ, 5, .inr (.inl (fun i9 => lN ((fun _ => 0) i9))))), (a13, .inl (cJ, 5, .inr (.inl (fun i9 => lN ((fun _ => 0) i9)))))] _ := hP
  have hD : va_D A [(a, .inr (2, [.ref a6, .ref a13, .long (lN 0)])), (a6, .inl (cJ, 5, .inr (.inl (fun i9 => lN ((fun _ => 0) i9))))), (a13, .inl (cJ, 5, .inr (.inl (fun i9 => lN ((fun _ => 0) i9)))))] := hD
  refine lv_aload_n hx hb dX2_init_18 rfl (lv_at hl 0 rfl) ?_
  refine lv_lconst (v := lN 1) hx hb dX2_init_19 (by decide) ?_
  refine va_put (D := G) (ci := 2) (v := .long (lN 1)) (ty := tyX2 2) (C := RX2) (T := TX2) (N := 3) hx hb hts hin2 tyX2 tyX2_ok nmX2 hown hK.1 hP hD hS 0 rfl rfl 2 (by decide) k_6 (fun _ h9 => h9) rfl (by decide +kernel) rfl rfl (Nat.le_of_ble_eq_true rfl) dX2_init_20 (fun H locs hP hD hS => ?_)
  have hP : va_P G vwCl [(a, .inr (2, [.ref a6, .ref a13, .long (lN 1)])), (a6, .inl (cJ, 5, .inr (.inl (fun i9 => lN ((fun _ => 0) i9))))), (a13, .inl (cJ, 5, .inr (.inl (fun i9 => lN ((fun _ => 0) i9)))))] _ := hP
  have hD : va_D A [(a, .inr (2, [.ref a6, .ref a13, .long (lN 1)])), (a6, .inl (cJ, 5, .inr (.inl (fun i9 => lN ((fun _ => 0) i9))))), (a13, .inl (cJ, 5, .inr (.inl (fun i9 => lN ((fun _ => 0) i9)))))] := hD
  exact endV hx hb hr hlocks (mkg [a, a6, a13]) (rfl) (hP.sub [0, 1, 2] rfl) (hD.sub [0, 1, 2] (by decide) rfl) hS dX2_init_23

set_option maxHeartbeats 1000000 in
set_option maxRecDepth 100000 in
theorem c_X4_init {l : Launch} {G : va_G} {cI cJ cZ cS : ClassId} (a : Nat) : CV l G (kT cI cJ cZ cS) (S := Nat → Nat) yX4_init wsX4_init { frames := 1, cells := 2, slots := 10, locals := 20 } [.ref a] [(a, .inr (4, [.null, .null]))] (fun g => g 0 = a) (fun g => [(g 0, .inr (4, [.ref (g 1), .ref (g 2)])), (g 1, .inl (cI, 5, .inl (fun i9 => nI ((fun _ => 0) i9)))), (g 2, .inl (cI, 5, .inl (fun i9 => nI ((fun _ => 0) i9))))]) := by
  refine CV.of (cc := cX4_init) (maxL := 1) (by decide) rfl (Nat.le_of_ble_eq_true rfl) ?_
  intro p9 e9 s m below meth co9 A ls hB
  obtain ⟨hx, hb, hml, hr, hts, hown, hlocks, hmn, hK, hP, hD, hS, hA, hl⟩ := hB
  have hP : va_P G vwCl [(a, .inr (4, [.null, .null]))] s.heap := hP
  have hD : va_D A [(a, .inr (4, [.null, .null]))] := hD
  have hl : lv_has ls 1 [(0, .ref a)] := hl
  have k_0 := hts (.methodLink RX4 3 objectInit) (by decide +kernel)
  have k_1 := hts (.instanceMethod objectInit) (by decide +kernel)
  have k_2 := hts (.code objectInit ⟨#[0xb1]⟩ 1 none) (by decide +kernel)
  have k_3 := hts (.arrayClass .int) (by decide +kernel)
  have k_4 := hts (.fieldLink RX4 9 "HearsayMarch$Rows" "ending" "[I") (by decide +kernel)
  have k_5 := hts (.fieldLink RX4 15 "HearsayMarch$Rows" "onward" "[I") (by decide +kernel)
  have hin4 : ∀ w ∈ wsX40, w ∈ wsX4_init := by decide +kernel
  refine lv_aload_n hx hb dX4_init_0 rfl (lv_at hl 0 rfl) ?_
  refine W.objInit hx hb hown k_0 k_1 k_2 rfl (by rw [hml]; exact hl.1) rfl dX4_init_1 (Nat.le_of_ble_eq_true rfl) (Nat.le_of_ble_eq_true rfl) ?_
  refine W.eq (g2 := F0 m 4 ls []) rfl ?_
  refine lv_aload_n hx hb dX4_init_4 rfl (lv_at hl 0 rfl) ?_
  refine lv_iconst (v := nI 5) hx hb dX4_init_5 (by decide) ?_
  refine new_arr (atype := .int) (ty := .int) (cA := cI) (a0 := (5, .inl (fun i9 => nI ((fun _ => 0) i9)))) (N' := 5) hx hb k_3 rfl hK hP hD hS hA 0 rfl (fun C h9 => by cases h9) (fun _ => rfl) (by decide) (by decide) (Nat.le_of_ble_eq_true rfl) (Nat.le_of_ble_eq_true rfl) (Nat.le_of_ble_eq_true rfl) dX4_init_6 (fun a6 H hP hD hS => ?_)
  have hP : va_P G vwCl [(a, .inr (4, [.null, .null])), (a6, .inl (cI, 5, .inl (fun i9 => nI ((fun _ => 0) i9))))] _ := hP
  have hD : va_D A [(a, .inr (4, [.null, .null])), (a6, .inl (cI, 5, .inl (fun i9 => nI ((fun _ => 0) i9))))] := hD
  refine va_putF (D := G) (ci := 4) (v := .ref a6) (ty := tyX4 0) (C := RX4) (T := TX4) (N := 2) hx hb hts hin4 tyX4 tyX4_ok nmX4 hown hK.1 hP hD hS 0 rfl rfl 0 (by decide) k_4 (fun _ h9 => h9) rfl hmn rfl (by decide +kernel) rfl rfl (Nat.le_of_ble_eq_true rfl) dX4_init_8 (fun H locs hP hD hS => ?_)
  have hP : va_P G vwCl [(a, .inr (4, [.ref a6, .null])), (a6, .inl (cI, 5, .inl (fun i9 => nI ((fun _ => 0) i9))))] _ := hP
  have hD : va_D A [(a, .inr (4, [.ref a6, .null])), (a6, .inl (cI, 5, .inl (fun i9 => nI ((fun _ => 0) i9))))] := hD
  refine lv_aload_n hx hb dX4_init_11 rfl (lv_at hl 0 rfl) ?_
  refine lv_iconst (v := nI 5) hx hb dX4_init_12 (by decide) ?_
  refine new_arr (atype := .int) (ty := .int) (cA := cI) (a0 := (5, .inl (fun i9 => nI ((fun _ => 0) i9)))) (N' := 5) hx hb k_3 rfl hK hP hD hS hA 0 rfl (fun C h9 => by cases h9) (fun _ => rfl) (by decide) (by decide) (Nat.le_of_ble_eq_true rfl) (Nat.le_of_ble_eq_true rfl) (Nat.le_of_ble_eq_true rfl) dX4_init_13 (fun a13 H hP hD hS => ?_)
  have hP : va_P G vwCl [(a, .inr (4, [.ref a6, .null])), (a6, .inl (cI, 5, .inl (fun i9 => nI ((fun _ => 0) i9)))), (a13, .inl (cI, 5, .inl (fun i9 => nI ((fun _ => 0) i9))))] _ := hP
  have hD : va_D A [(a, .inr (4, [.ref a6, .null])), (a6, .inl (cI, 5, .inl (fun i9 => nI ((fun _ => 0) i9)))), (a13, .inl (cI, 5, .inl (fun i9 => nI ((fun _ => 0) i9))))] := hD
  refine va_putF (D := G) (ci := 4) (v := .ref a13) (ty := tyX4 1) (C := RX4) (T := TX4) (N := 2) hx hb hts hin4 tyX4 tyX4_ok nmX4 hown hK.1 hP hD hS 0 rfl rfl 1 (by decide) k_5 (fun _ h9 => h9) rfl hmn rfl (by decide +kernel) rfl rfl (Nat.le_of_ble_eq_true rfl) dX4_init_15 (fun H locs hP hD hS => ?_)
  have hP : va_P G vwCl [(a, .inr (4, [.ref a6, .ref a13])), (a6, .inl (cI, 5, .inl (fun i9 => nI ((fun _ => 0) i9)))), (a13, .inl (cI, 5, .inl (fun i9 => nI ((fun _ => 0) i9))))] _ := hP
  have hD : va_D A [(a, .inr (4, [.ref a6, .ref a13])), (a6, .inl (cI, 5, .inl (fun i9 => nI ((fun _ => 0) i9)))), (a13, .inl (cI, 5, .inl (fun i9 => nI ((fun _ => 0) i9))))] := hD
  exact endV hx hb hr hlocks (mkg [a, a6, a13]) (rfl) (hP.sub [0, 1, 2] rfl) (hD.sub [0, 1, 2] (by decide) rfl) hS dX4_init_18

set_option maxHeartbeats 1000000 in
set_option maxRecDepth 100000 in
theorem c_X8_init {l : Launch} {G : va_G} {cI cJ cZ cS : ClassId} (a : Nat) : CV l G (kT cI cJ cZ cS) (S := Nat → Nat) yX8_init wsX8_init { frames := 1, cells := 3, slots := 18, locals := 20 } [.ref a] [(a, .inr (8, [.null, .null, .null, .int (nI 0)]))] (fun g => g 0 = a) (fun g => [(g 0, .inr (8, [.ref (g 1), .ref (g 2), .ref (g 3), .int (nI 0)])), (g 1, .inl (cI, 6, .inl (fun i9 => nI ((fun _ => 0) i9)))), (g 2, .inl (cI, 6, .inl (fun i9 => nI ((fun _ => 0) i9)))), (g 3, .inl (cZ, 6, .inl (fun i9 => nI ((fun _ => 0) i9))))]) := by
  refine CV.of (cc := cX8_init) (maxL := 1) (by decide) rfl (Nat.le_of_ble_eq_true rfl) ?_
  intro p9 e9 s m below meth co9 A ls hB
  obtain ⟨hx, hb, hml, hr, hts, hown, hlocks, hmn, hK, hP, hD, hS, hA, hl⟩ := hB
  have hP : va_P G vwCl [(a, .inr (8, [.null, .null, .null, .int (nI 0)]))] s.heap := hP
  have hD : va_D A [(a, .inr (8, [.null, .null, .null, .int (nI 0)]))] := hD
  have hl : lv_has ls 1 [(0, .ref a)] := hl
  have k_0 := hts (.methodLink RX8 3 objectInit) (by decide +kernel)
  have k_1 := hts (.instanceMethod objectInit) (by decide +kernel)
  have k_2 := hts (.code objectInit ⟨#[0xb1]⟩ 1 none) (by decide +kernel)
  have k_3 := hts (.arrayClass .int) (by decide +kernel)
  have k_4 := hts (.fieldLink RX8 9 "HearsayMarch$Traces" "ranks" "[I") (by decide +kernel)
  have k_5 := hts (.fieldLink RX8 15 "HearsayMarch$Traces" "orders" "[I") (by decide +kernel)
  have k_6 := hts (.arrayClass .boolean) (by decide +kernel)
  have k_7 := hts (.fieldLink RX8 18 "HearsayMarch$Traces" "dids" "[Z") (by decide +kernel)
  have k_8 := hts (.fieldLink RX8 22 "HearsayMarch$Traces" "count" "I") (by decide +kernel)
  have hin8 : ∀ w ∈ wsX80, w ∈ wsX8_init := by decide +kernel
  refine lv_aload_n hx hb dX8_init_0 rfl (lv_at hl 0 rfl) ?_
  refine W.objInit hx hb hown k_0 k_1 k_2 rfl (by rw [hml]; exact hl.1) rfl dX8_init_1 (Nat.le_of_ble_eq_true rfl) (Nat.le_of_ble_eq_true rfl) ?_
  refine W.eq (g2 := F0 m 4 ls []) rfl ?_
  refine lv_aload_n hx hb dX8_init_4 rfl (lv_at hl 0 rfl) ?_
  refine lv_bipush (v := nI 6) hx hb dX8_init_5 (by decide) ?_
  refine new_arr (atype := .int) (ty := .int) (cA := cI) (a0 := (6, .inl (fun i9 => nI ((fun _ => 0) i9)))) (N' := 6) hx hb k_3 rfl hK hP hD hS hA 0 rfl (fun C h9 => by cases h9) (fun _ => rfl) (by decide) (by decide) (Nat.le_of_ble_eq_true rfl) (Nat.le_of_ble_eq_true rfl) (Nat.le_of_ble_eq_true rfl) dX8_init_7 (fun a7 H hP hD hS => ?_)
  have hP : va_P G vwCl [(a, .inr (8, [.null, .null, .null, .int (nI 0)])), (a7, .inl (cI, 6, .inl (fun i9 => nI ((fun _ => 0) i9))))] _ := hP
  have hD : va_D A [(a, .inr (8, [.null, .null, .null, .int (nI 0)])), (a7, .inl (cI, 6, .inl (fun i9 => nI ((fun _ => 0) i9))))] := hD
  refine va_putF (D := G) (ci := 8) (v := .ref a7) (ty := tyX8 0) (C := RX8) (T := TX8) (N := 4) hx hb hts hin8 tyX8 tyX8_ok nmX8 hown hK.1 hP hD hS 0 rfl rfl 0 (by decide) k_4 (fun _ h9 => h9) rfl hmn rfl (by decide +kernel) rfl rfl (Nat.le_of_ble_eq_true rfl) dX8_init_9 (fun H locs hP hD hS => ?_)
  have hP : va_P G vwCl [(a, .inr (8, [.ref a7, .null, .null, .int (nI 0)])), (a7, .inl (cI, 6, .inl (fun i9 => nI ((fun _ => 0) i9))))] _ := hP
  have hD : va_D A [(a, .inr (8, [.ref a7, .null, .null, .int (nI 0)])), (a7, .inl (cI, 6, .inl (fun i9 => nI ((fun _ => 0) i9))))] := hD
  refine lv_aload_n hx hb dX8_init_12 rfl (lv_at hl 0 rfl) ?_
  refine lv_bipush (v := nI 6) hx hb dX8_init_13 (by decide) ?_
  refine new_arr (atype := .int) (ty := .int) (cA := cI) (a0 := (6, .inl (fun i9 => nI ((fun _ => 0) i9)))) (N' := 6) hx hb k_3 rfl hK hP hD hS hA 0 rfl (fun C h9 => by cases h9) (fun _ => rfl) (by decide) (by decide) (Nat.le_of_ble_eq_true rfl) (Nat.le_of_ble_eq_true rfl) (Nat.le_of_ble_eq_true rfl) dX8_init_15 (fun a15 H hP hD hS => ?_)
  have hP : va_P G vwCl [(a, .inr (8, [.ref a7, .null, .null, .int (nI 0)])), (a7, .inl (cI, 6, .inl (fun i9 => nI ((fun _ => 0) i9)))), (a15, .inl (cI, 6, .inl (fun i9 => nI ((fun _ => 0) i9))))] _ := hP
  have hD : va_D A [(a, .inr (8, [.ref a7, .null, .null, .int (nI 0)])), (a7, .inl (cI, 6, .inl (fun i9 => nI ((fun _ => 0) i9)))), (a15, .inl (cI, 6, .inl (fun i9 => nI ((fun _ => 0) i9))))] := hD
  refine va_putF (D := G) (ci := 8) (v := .ref a15) (ty := tyX8 1) (C := RX8) (T := TX8) (N := 4) hx hb hts hin8 tyX8 tyX8_ok nmX8 hown hK.1 hP hD hS 0 rfl rfl 1 (by decide) k_5 (fun _ h9 => h9) rfl hmn rfl (by decide +kernel) rfl rfl (Nat.le_of_ble_eq_true rfl) dX8_init_17 (fun H locs hP hD hS => ?_)
  have hP : va_P G vwCl [(a, .inr (8, [.ref a7, .ref a15, .null, .int (nI 0)])), (a7, .inl (cI, 6, .inl (fun i9 => nI ((fun _ => 0) i9)))), (a15, .inl (cI, 6, .inl (fun i9 => nI ((fun _ => 0) i9))))] _ := hP
  have hD : va_D A [(a, .inr (8, [.ref a7, .ref a15, .null, .int (nI 0)])), (a7, .inl (cI, 6, .inl (fun i9 => nI ((fun _ => 0) i9)))), (a15, .inl (cI, 6, .inl (fun i9 => nI ((fun _ => 0) i9))))] := hD
  refine lv_aload_n hx hb dX8_init_20 rfl (lv_at hl 0 rfl) ?_
  refine lv_bipush (v := nI 6) hx hb dX8_init_21 (by decide) ?_
  refine new_arr (atype := .boolean) (ty := .boolean) (cA := cZ) (a0 := (6, .inl (fun i9 => nI ((fun _ => 0) i9)))) (N' := 6) hx hb k_6 rfl hK hP hD hS hA 2 rfl (fun C h9 => by cases h9) (fun _ => rfl) (by decide) (by decide) (Nat.le_of_ble_eq_true rfl) (Nat.le_of_ble_eq_true rfl) (Nat.le_of_ble_eq_true rfl) dX8_init_23 (fun a23 H hP hD hS => ?_)
  have hP : va_P G vwCl [(a, .inr (8, [.ref a7, .ref a15, .null, .int (nI 0)])), (a7, .inl (cI, 6, .inl (fun i9 => nI ((fun _ => 0) i9)))), (a15, .inl (cI, 6, .inl (fun i9 => nI ((fun _ => 0) i9)))), (a23, .inl (cZ, 6, .inl (fun i9 => nI ((fun _ => 0) i9))))] _ := hP
  have hD : va_D A [(a, .inr (8, [.ref a7, .ref a15, .null, .int (nI 0)])), (a7, .inl (cI, 6, .inl (fun i9 => nI ((fun _ => 0) i9)))), (a15, .inl (cI, 6, .inl (fun i9 => nI ((fun _ => 0) i9)))), (a23, .inl (cZ, 6, .inl (fun i9 => nI ((fun _ => 0) i9))))] := hD
  refine va_putF (D := G) (ci := 8) (v := .ref a23) (ty := tyX8 2) (C := RX8) (T := TX8) (N := 4) hx hb hts hin8 tyX8 tyX8_ok nmX8 hown hK.1 hP hD hS 0 rfl rfl 2 (by decide) k_7 (fun _ h9 => h9) rfl hmn rfl (by decide +kernel) rfl rfl (Nat.le_of_ble_eq_true rfl) dX8_init_25 (fun H locs hP hD hS => ?_)
  have hP : va_P G vwCl [(a, .inr (8, [.ref a7, .ref a15, .ref a23, .int (nI 0)])), (a7, .inl (cI, 6, .inl (fun i9 => nI ((fun _ => 0) i9)))), (a15, .inl (cI, 6, .inl (fun i9 => nI ((fun _ => 0) i9)))), (a23, .inl (cZ, 6, .inl (fun i9 => nI ((fun _ => 0) i9))))] _ := hP
  have hD : va_D A [(a, .inr (8, [.ref a7, .ref a15, .ref a23, .int (nI 0)])), (a7, .inl (cI, 6, .inl (fun i9 => nI ((fun _ => 0) i9)))), (a15, .inl (cI, 6, .inl (fun i9 => nI ((fun _ => 0) i9)))), (a23, .inl (cZ, 6, .inl (fun i9 => nI ((fun _ => 0) i9))))] := hD
  refine lv_aload_n hx hb dX8_init_28 rfl (lv_at hl 0 rfl) ?_
  refine lv_iconst (v := nI 0) hx hb dX8_init_29 (by decide) ?_
  refine va_put (D := G) (ci := 8) (v := .int (nI 0)) (ty := tyX8 3) (C := RX8) (T := TX8) (N := 4) hx hb hts hin8 tyX8 tyX8_ok nmX8 hown hK.1 hP hD hS 0 rfl rfl 3 (by decide) k_8 (fun _ h9 => h9) rfl (by decide +kernel) rfl rfl (Nat.le_of_ble_eq_true rfl) dX8_init_30 (fun H locs hP hD hS => ?_)
  have hP : va_P G vwCl [(a, .inr (8, [.ref a7, .ref a15, .ref a23, .int (nI 0)])), (a7, .inl (cI, 6, .inl (fun i9 => nI ((fun _ => 0) i9)))), (a15, .inl (cI, 6, .inl (fun i9 => nI ((fun _ => 0) i9)))), (a23, .inl (cZ, 6, .inl (fun i9 => nI ((fun _ => 0) i9))))] _ := hP
  have hD : va_D A [(a, .inr (8, [.ref a7, .ref a15, .ref a23, .int (nI 0)])), (a7, .inl (cI, 6, .inl (fun i9 => nI ((fun _ => 0) i9)))), (a15, .inl (cI, 6, .inl (fun i9 => nI ((fun _ => 0) i9)))), (a23, .inl (cZ, 6, .inl (fun i9 => nI ((fun _ => 0) i9))))] := hD
  exact endV hx hb hr hlocks (mkg [a, a7, a15, a23]) (rfl) (hP.sub [0, 1, 2, 3] rfl) (hD.sub [0, 1, 2, 3] (by decide) rfl) hS dX8_init_33

set_option maxHeartbeats 1000000 in
set_option maxRecDepth 100000 in
theorem c_X5_init {l : Launch} {G : va_G} {cI cJ cZ cS : ClassId} (a : Nat) : CV l G (kT cI cJ cZ cS) (S := Nat → Nat) yX5_init wsX5_init { frames := 1, cells := 7, slots := 49, locals := 20 } [.ref a] [(a, .inr (5, [.null, .null, .null, .null, .null, .null, .null, .int (nI 0), .long (lN 0)]))] (fun g => g 0 = a) (fun g => [(g 0, .inr (5, [.ref (g 1), .ref (g 2), .ref (g 3), .ref (g 4), .ref (g 5), .ref (g 6), .ref (g 7), .int (nI 0), .long (lN 0)])), (g 1, .inl (cI, 7, .inl ((fun _ _ => nI 0) 0))), (g 2, .inl (cI, 7, .inl ((fun _ _ => nI 0) 1))), (g 3, .inl (cI, 7, .inl ((fun _ _ => nI 0) 5))), (g 4, .inl (cI, 7, .inl ((fun _ _ => nI 0) 2))), (g 5, .inl (cI, 7, .inl ((fun _ _ => nI 0) 3))), (g 6, .inl (cI, 7, .inl ((fun _ _ => nI 0) 4))), (g 7, .inl (cZ, 7, .inl ((fun _ _ => nI 0) 6)))]) := by
  refine CV.of (cc := cX5_init) (maxL := 1) (by decide) rfl (Nat.le_of_ble_eq_true rfl) ?_
  intro p9 e9 s m below meth co9 A ls hB
  obtain ⟨hx, hb, hml, hr, hts, hown, hlocks, hmn, hK, hP, hD, hS, hA, hl⟩ := hB
  have hP : va_P G vwCl [(a, .inr (5, [.null, .null, .null, .null, .null, .null, .null, .int (nI 0), .long (lN 0)]))] s.heap := hP
  have hD : va_D A [(a, .inr (5, [.null, .null, .null, .null, .null, .null, .null, .int (nI 0), .long (lN 0)]))] := hD
  have hl : lv_has ls 1 [(0, .ref a)] := hl
  have k_0 := hts (.methodLink RX5 3 objectInit) (by decide +kernel)
  have k_1 := hts (.instanceMethod objectInit) (by decide +kernel)
  have k_2 := hts (.code objectInit ⟨#[0xb1]⟩ 1 none) (by decide +kernel)
  have k_3 := hts (.arrayClass .int) (by decide +kernel)
  have k_4 := hts (.fieldLink RX5 9 "HearsayMarch$Scene" "last" "[I") (by decide +kernel)
  have k_5 := hts (.fieldLink RX5 15 "HearsayMarch$Scene" "ahead" "[I") (by decide +kernel)
  have k_6 := hts (.fieldLink RX5 18 "HearsayMarch$Scene" "heardNow" "[I") (by decide +kernel)
  have k_7 := hts (.fieldLink RX5 21 "HearsayMarch$Scene" "does" "[I") (by decide +kernel)
  have k_8 := hts (.fieldLink RX5 24 "HearsayMarch$Scene" "east" "[I") (by decide +kernel)
  have k_9 := hts (.fieldLink RX5 27 "HearsayMarch$Scene" "north" "[I") (by decide +kernel)
  have k_10 := hts (.arrayClass .boolean) (by decide +kernel)
  have k_11 := hts (.fieldLink RX5 30 "HearsayMarch$Scene" "asleep" "[Z") (by decide +kernel)
  have k_12 := hts (.fieldLink RX5 34 "HearsayMarch$Scene" "minute" "I") (by decide +kernel)
  have k_13 := hts (.fieldLink RX5 38 "HearsayMarch$Scene" "seed" "J") (by decide +kernel)
  have hin5 : ∀ w ∈ wsX50, w ∈ wsX5_init := by decide +kernel
  refine lv_aload_n hx hb dX5_init_0 rfl (lv_at hl 0 rfl) ?_
  refine W.objInit hx hb hown k_0 k_1 k_2 rfl (by rw [hml]; exact hl.1) rfl dX5_init_1 (Nat.le_of_ble_eq_true rfl) (Nat.le_of_ble_eq_true rfl) ?_
  refine W.eq (g2 := F0 m 4 ls []) rfl ?_
  refine lv_aload_n hx hb dX5_init_4 rfl (lv_at hl 0 rfl) ?_
  refine lv_bipush (v := nI 7) hx hb dX5_init_5 (by decide) ?_
  refine new_arr (atype := .int) (ty := .int) (cA := cI) (a0 := (7, .inl (fun i9 => nI ((fun _ => 0) i9)))) (N' := 7) hx hb k_3 rfl hK hP hD hS hA 0 rfl (fun C h9 => by cases h9) (fun _ => rfl) (by decide) (by decide) (Nat.le_of_ble_eq_true rfl) (Nat.le_of_ble_eq_true rfl) (Nat.le_of_ble_eq_true rfl) dX5_init_7 (fun a7 H hP hD hS => ?_)
  have hP : va_P G vwCl [(a, .inr (5, [.null, .null, .null, .null, .null, .null, .null, .int (nI 0), .long (lN 0)])), (a7, .inl (cI, 7, .inl (fun i9 => nI ((fun _ => 0) i9))))] _ := hP
  have hD : va_D A [(a, .inr (5, [.null, .null, .null, .null, .null, .null, .null, .int (nI 0), .long (lN 0)])), (a7, .inl (cI, 7, .inl (fun i9 => nI ((fun _ => 0) i9))))] := hD
  refine va_putF (D := G) (ci := 5) (v := .ref a7) (ty := tyX5 0) (C := RX5) (T := TX5) (N := 9) hx hb hts hin5 tyX5 tyX5_ok nmX5 hown hK.1 hP hD hS 0 rfl rfl 0 (by decide) k_4 (fun _ h9 => h9) rfl hmn rfl (by decide +kernel) rfl rfl (Nat.le_of_ble_eq_true rfl) dX5_init_9 (fun H locs hP hD hS => ?_)
  have hP : va_P G vwCl [(a, .inr (5, [.ref a7, .null, .null, .null, .null, .null, .null, .int (nI 0), .long (lN 0)])), (a7, .inl (cI, 7, .inl (fun i9 => nI ((fun _ => 0) i9))))] _ := hP
  have hD : va_D A [(a, .inr (5, [.ref a7, .null, .null, .null, .null, .null, .null, .int (nI 0), .long (lN 0)])), (a7, .inl (cI, 7, .inl (fun i9 => nI ((fun _ => 0) i9))))] := hD
  refine lv_aload_n hx hb dX5_init_12 rfl (lv_at hl 0 rfl) ?_
  refine lv_bipush (v := nI 7) hx hb dX5_init_13 (by decide) ?_
  refine new_arr (atype := .int) (ty := .int) (cA := cI) (a0 := (7, .inl (fun i9 => nI ((fun _ => 0) i9)))) (N' := 7) hx hb k_3 rfl hK hP hD hS hA 0 rfl (fun C h9 => by cases h9) (fun _ => rfl) (by decide) (by decide) (Nat.le_of_ble_eq_true rfl) (Nat.le_of_ble_eq_true rfl) (Nat.le_of_ble_eq_true rfl) dX5_init_15 (fun a15 H hP hD hS => ?_)
  have hP : va_P G vwCl [(a, .inr (5, [.ref a7, .null, .null, .null, .null, .null, .null, .int (nI 0), .long (lN 0)])), (a7, .inl (cI, 7, .inl (fun i9 => nI ((fun _ => 0) i9)))), (a15, .inl (cI, 7, .inl (fun i9 => nI ((fun _ => 0) i9))))] _ := hP
  have hD : va_D A [(a, .inr (5, [.ref a7, .null, .null, .null, .null, .null, .null, .int (nI 0), .long (lN 0)])), (a7, .inl (cI, 7, .inl (fun i9 => nI ((fun _ => 0) i9)))), (a15, .inl (cI, 7, .inl (fun i9 => nI ((fun _ => 0) i9))))] := hD
  refine va_putF (D := G) (ci := 5) (v := .ref a15) (ty := tyX5 1) (C := RX5) (T := TX5) (N := 9) hx hb hts hin5 tyX5 tyX5_ok nmX5 hown hK.1 hP hD hS 0 rfl rfl 1 (by decide) k_5 (fun _ h9 => h9) rfl hmn rfl (by decide +kernel) rfl rfl (Nat.le_of_ble_eq_true rfl) dX5_init_17 (fun H locs hP hD hS => ?_)
  have hP : va_P G vwCl [(a, .inr (5, [.ref a7, .ref a15, .null, .null, .null, .null, .null, .int (nI 0), .long (lN 0)])), (a7, .inl (cI, 7, .inl (fun i9 => nI ((fun _ => 0) i9)))), (a15, .inl (cI, 7, .inl (fun i9 => nI ((fun _ => 0) i9))))] _ := hP
  have hD : va_D A [(a, .inr (5, [.ref a7, .ref a15, .null, .null, .null, .null, .null, .int (nI 0), .long (lN 0)])), (a7, .inl (cI, 7, .inl (fun i9 => nI ((fun _ => 0) i9)))), (a15, .inl (cI, 7, .inl (fun i9 => nI ((fun _ => 0) i9))))] := hD
  refine lv_aload_n hx hb dX5_init_20 rfl (lv_at hl 0 rfl) ?_
  refine lv_bipush (v := nI 7) hx hb dX5_init_21 (by decide) ?_
  refine new_arr (atype := .int) (ty := .int) (cA := cI) (a0 := (7, .inl (fun i9 => nI ((fun _ => 0) i9)))) (N' := 7) hx hb k_3 rfl hK hP hD hS hA 0 rfl (fun C h9 => by cases h9) (fun _ => rfl) (by decide) (by decide) (Nat.le_of_ble_eq_true rfl) (Nat.le_of_ble_eq_true rfl) (Nat.le_of_ble_eq_true rfl) dX5_init_23 (fun a23 H hP hD hS => ?_)
  have hP : va_P G vwCl [(a, .inr (5, [.ref a7, .ref a15, .null, .null, .null, .null, .null, .int (nI 0), .long (lN 0)])), (a7, .inl (cI, 7, .inl (fun i9 => nI ((fun _ => 0) i9)))), (a15, .inl (cI, 7, .inl (fun i9 => nI ((fun _ => 0) i9)))), (a23, .inl (cI, 7, .inl (fun i9 => nI ((fun _ => 0) i9))))] _ := hP
  have hD : va_D A [(a, .inr (5, [.ref a7, .ref a15, .null, .null, .null, .null, .null, .int (nI 0), .long (lN 0)])), (a7, .inl (cI, 7, .inl (fun i9 => nI ((fun _ => 0) i9)))), (a15, .inl (cI, 7, .inl (fun i9 => nI ((fun _ => 0) i9)))), (a23, .inl (cI, 7, .inl (fun i9 => nI ((fun _ => 0) i9))))] := hD
  refine va_putF (D := G) (ci := 5) (v := .ref a23) (ty := tyX5 2) (C := RX5) (T := TX5) (N := 9) hx hb hts hin5 tyX5 tyX5_ok nmX5 hown hK.1 hP hD hS 0 rfl rfl 2 (by decide) k_6 (fun _ h9 => h9) rfl hmn rfl (by decide +kernel) rfl rfl (Nat.le_of_ble_eq_true rfl) dX5_init_25 (fun H locs hP hD hS => ?_)
  have hP : va_P G vwCl [(a, .inr (5, [.ref a7, .ref a15, .ref a23, .null, .null, .null, .null, .int (nI 0), .long (lN 0)])), (a7, .inl (cI, 7, .inl (fun i9 => nI ((fun _ => 0) i9)))), (a15, .inl (cI, 7, .inl (fun i9 => nI ((fun _ => 0) i9)))), (a23, .inl (cI, 7, .inl (fun i9 => nI ((fun _ => 0) i9))))] _ := hP
  have hD : va_D A [(a, .inr (5, [.ref a7, .ref a15, .ref a23, .null, .null, .null, .null, .int (nI 0), .long (lN 0)])), (a7, .inl (cI, 7, .inl (fun i9 => nI ((fun _ => 0) i9)))), (a15, .inl (cI, 7, .inl (fun i9 => nI ((fun _ => 0) i9)))), (a23, .inl (cI, 7, .inl (fun i9 => nI ((fun _ => 0) i9))))] := hD
  refine lv_aload_n hx hb dX5_init_28 rfl (lv_at hl 0 rfl) ?_
  refine lv_bipush (v := nI 7) hx hb dX5_init_29 (by decide) ?_
  refine new_arr (atype := .int) (ty := .int) (cA := cI) (a0 := (7, .inl (fun i9 => nI ((fun _ => 0) i9)))) (N' := 7) hx hb k_3 rfl hK hP hD hS hA 0 rfl (fun C h9 => by cases h9) (fun _ => rfl) (by decide) (by decide) (Nat.le_of_ble_eq_true rfl) (Nat.le_of_ble_eq_true rfl) (Nat.le_of_ble_eq_true rfl) dX5_init_31 (fun a31 H hP hD hS => ?_)
  have hP : va_P G vwCl [(a, .inr (5, [.ref a7, .ref a15, .ref a23, .null, .null, .null, .null, .int (nI 0), .long (lN 0)])), (a7, .inl (cI, 7, .inl (fun i9 => nI ((fun _ => 0) i9)))), (a15, .inl (cI, 7, .inl (fun i9 => nI ((fun _ => 0) i9)))), (a23, .inl (cI, 7, .inl (fun i9 => nI ((fun _ => 0) i9)))), (a31, .inl (cI, 7, .inl (fun i9 => nI ((fun _ => 0) i9))))] _ := hP
  have hD : va_D A [(a, .inr (5, [.ref a7, .ref a15, .ref a23, .null, .null, .null, .null, .int (nI 0), .long (lN 0)])), (a7, .inl (cI, 7, .inl (fun i9 => nI ((fun _ => 0) i9)))), (a15, .inl (cI, 7, .inl (fun i9 => nI ((fun _ => 0) i9)))), (a23, .inl (cI, 7, .inl (fun i9 => nI ((fun _ => 0) i9)))), (a31, .inl (cI, 7, .inl (fun i9 => nI ((fun _ => 0) i9))))] := hD
  refine va_putF (D := G) (ci := 5) (v := .ref a31) (ty := tyX5 3) (C := RX5) (T := TX5) (N := 9) hx hb hts hin5 tyX5 tyX5_ok nmX5 hown hK.1 hP hD hS 0 rfl rfl 3 (by decide) k_7 (fun _ h9 => h9) rfl hmn rfl (by decide +kernel) rfl rfl (Nat.le_of_ble_eq_true rfl) dX5_init_33 (fun H locs hP hD hS => ?_)
  have hP : va_P G vwCl [(a, .inr (5, [.ref a7, .ref a15, .ref a23, .ref a31, .null, .null, .null, .int (nI 0), .long (lN 0)])), (a7, .inl (cI, 7, .inl (fun i9 => nI ((fun _ => 0) i9)))), (a15, .inl (cI, 7, .inl (fun i9 => nI ((fun _ => 0) i9)))), (a23, .inl (cI, 7, .inl (fun i9 => nI ((fun _ => 0) i9)))), (a31, .inl (cI, 7, .inl (fun i9 => nI ((fun _ => 0) i9))))] _ := hP
  have hD : va_D A [(a, .inr (5, [.ref a7, .ref a15, .ref a23, .ref a31, .null, .null, .null, .int (nI 0), .long (lN 0)])), (a7, .inl (cI, 7, .inl (fun i9 => nI ((fun _ => 0) i9)))), (a15, .inl (cI, 7, .inl (fun i9 => nI ((fun _ => 0) i9)))), (a23, .inl (cI, 7, .inl (fun i9 => nI ((fun _ => 0) i9)))), (a31, .inl (cI, 7, .inl (fun i9 => nI ((fun _ => 0) i9))))] := hD
  refine lv_aload_n hx hb dX5_init_36 rfl (lv_at hl 0 rfl) ?_
  refine lv_bipush (v := nI 7) hx hb dX5_init_37 (by decide) ?_
  refine new_arr (atype := .int) (ty := .int) (cA := cI) (a0 := (7, .inl (fun i9 => nI ((fun _ => 0) i9)))) (N' := 7) hx hb k_3 rfl hK hP hD hS hA 0 rfl (fun C h9 => by cases h9) (fun _ => rfl) (by decide) (by decide) (Nat.le_of_ble_eq_true rfl) (Nat.le_of_ble_eq_true rfl) (Nat.le_of_ble_eq_true rfl) dX5_init_39 (fun a39 H hP hD hS => ?_)
  have hP : va_P G vwCl [(a, .inr (5, [.ref a7, .ref a15, .ref a23, .ref a31, .null, .null, .null, .int (nI 0), .long (lN 0)])), (a7, .inl (cI, 7, .inl (fun i9 => nI ((fun _ => 0) i9)))), (a15, .inl (cI, 7, .inl (fun i9 => nI ((fun _ => 0) i9)))), (a23, .inl (cI, 7, .inl (fun i9 => nI ((fun _ => 0) i9)))), (a31, .inl (cI, 7, .inl (fun i9 => nI ((fun _ => 0) i9)))), (a39, .inl (cI, 7, .inl (fun i9 => nI ((fun _ => 0) i9))))] _ := hP
  have hD : va_D A [(a, .inr (5, [.ref a7, .ref a15, .ref a23, .ref a31, .null, .null, .null, .int (nI 0), .long (lN 0)])), (a7, .inl (cI, 7, .inl (fun i9 => nI ((fun _ => 0) i9)))), (a15, .inl (cI, 7, .inl (fun i9 => nI ((fun _ => 0) i9)))), (a23, .inl (cI, 7, .inl (fun i9 => nI ((fun _ => 0) i9)))), (a31, .inl (cI, 7, .inl (fun i9 => nI ((fun _ => 0) i9)))), (a39, .inl (cI, 7, .inl (fun i9 => nI ((fun _ => 0) i9))))] := hD
  refine va_putF (D := G) (ci := 5) (v := .ref a39) (ty := tyX5 4) (C := RX5) (T := TX5) (N := 9) hx hb hts hin5 tyX5 tyX5_ok nmX5 hown hK.1 hP hD hS 0 rfl rfl 4 (by decide) k_8 (fun _ h9 => h9) rfl hmn rfl (by decide +kernel) rfl rfl (Nat.le_of_ble_eq_true rfl) dX5_init_41 (fun H locs hP hD hS => ?_)
  have hP : va_P G vwCl [(a, .inr (5, [.ref a7, .ref a15, .ref a23, .ref a31, .ref a39, .null, .null, .int (nI 0), .long (lN 0)])), (a7, .inl (cI, 7, .inl (fun i9 => nI ((fun _ => 0) i9)))), (a15, .inl (cI, 7, .inl (fun i9 => nI ((fun _ => 0) i9)))), (a23, .inl (cI, 7, .inl (fun i9 => nI ((fun _ => 0) i9)))), (a31, .inl (cI, 7, .inl (fun i9 => nI ((fun _ => 0) i9)))), (a39, .inl (cI, 7, .inl (fun i9 => nI ((fun _ => 0) i9))))] _ := hP
  have hD : va_D A [(a, .inr (5, [.ref a7, .ref a15, .ref a23, .ref a31, .ref a39, .null, .null, .int (nI 0), .long (lN 0)])), (a7, .inl (cI, 7, .inl (fun i9 => nI ((fun _ => 0) i9)))), (a15, .inl (cI, 7, .inl (fun i9 => nI ((fun _ => 0) i9)))), (a23, .inl (cI, 7, .inl (fun i9 => nI ((fun _ => 0) i9)))), (a31, .inl (cI, 7, .inl (fun i9 => nI ((fun _ => 0) i9)))), (a39, .inl (cI, 7, .inl (fun i9 => nI ((fun _ => 0) i9))))] := hD
  refine lv_aload_n hx hb dX5_init_44 rfl (lv_at hl 0 rfl) ?_
  refine lv_bipush (v := nI 7) hx hb dX5_init_45 (by decide) ?_
  refine new_arr (atype := .int) (ty := .int) (cA := cI) (a0 := (7, .inl (fun i9 => nI ((fun _ => 0) i9)))) (N' := 7) hx hb k_3 rfl hK hP hD hS hA 0 rfl (fun C h9 => by cases h9) (fun _ => rfl) (by decide) (by decide) (Nat.le_of_ble_eq_true rfl) (Nat.le_of_ble_eq_true rfl) (Nat.le_of_ble_eq_true rfl) dX5_init_47 (fun a47 H hP hD hS => ?_)
  have hP : va_P G vwCl [(a, .inr (5, [.ref a7, .ref a15, .ref a23, .ref a31, .ref a39, .null, .null, .int (nI 0), .long (lN 0)])), (a7, .inl (cI, 7, .inl (fun i9 => nI ((fun _ => 0) i9)))), (a15, .inl (cI, 7, .inl (fun i9 => nI ((fun _ => 0) i9)))), (a23, .inl (cI, 7, .inl (fun i9 => nI ((fun _ => 0) i9)))), (a31, .inl (cI, 7, .inl (fun i9 => nI ((fun _ => 0) i9)))), (a39, .inl (cI, 7, .inl (fun i9 => nI ((fun _ => 0) i9)))), (a47, .inl (cI, 7, .inl (fun i9 => nI ((fun _ => 0) i9))))] _ := hP
  have hD : va_D A [(a, .inr (5, [.ref a7, .ref a15, .ref a23, .ref a31, .ref a39, .null, .null, .int (nI 0), .long (lN 0)])), (a7, .inl (cI, 7, .inl (fun i9 => nI ((fun _ => 0) i9)))), (a15, .inl (cI, 7, .inl (fun i9 => nI ((fun _ => 0) i9)))), (a23, .inl (cI, 7, .inl (fun i9 => nI ((fun _ => 0) i9)))), (a31, .inl (cI, 7, .inl (fun i9 => nI ((fun _ => 0) i9)))), (a39, .inl (cI, 7, .inl (fun i9 => nI ((fun _ => 0) i9)))), (a47, .inl (cI, 7, .inl (fun i9 => nI ((fun _ => 0) i9))))] := hD
  refine va_putF (D := G) (ci := 5) (v := .ref a47) (ty := tyX5 5) (C := RX5) (T := TX5) (N := 9) hx hb hts hin5 tyX5 tyX5_ok nmX5 hown hK.1 hP hD hS 0 rfl rfl 5 (by decide) k_9 (fun _ h9 => h9) rfl hmn rfl (by decide +kernel) rfl rfl (Nat.le_of_ble_eq_true rfl) dX5_init_49 (fun H locs hP hD hS => ?_)
  have hP : va_P G vwCl [(a, .inr (5, [.ref a7, .ref a15, .ref a23, .ref a31, .ref a39, .ref a47, .null, .int (nI 0), .long (lN 0)])), (a7, .inl (cI, 7, .inl (fun i9 => nI ((fun _ => 0) i9)))), (a15, .inl (cI, 7, .inl (fun i9 => nI ((fun _ => 0) i9)))), (a23, .inl (cI, 7, .inl (fun i9 => nI ((fun _ => 0) i9)))), (a31, .inl (cI, 7, .inl (fun i9 => nI ((fun _ => 0) i9)))), (a39, .inl (cI, 7, .inl (fun i9 => nI ((fun _ => 0) i9)))), (a47, .inl (cI, 7, .inl (fun i9 => nI ((fun _ => 0) i9))))] _ := hP
  have hD : va_D A [(a, .inr (5, [.ref a7, .ref a15, .ref a23, .ref a31, .ref a39, .ref a47, .null, .int (nI 0), .long (lN 0)])), (a7, .inl (cI, 7, .inl (fun i9 => nI ((fun _ => 0) i9)))), (a15, .inl (cI, 7, .inl (fun i9 => nI ((fun _ => 0) i9)))), (a23, .inl (cI, 7, .inl (fun i9 => nI ((fun _ => 0) i9)))), (a31, .inl (cI, 7, .inl (fun i9 => nI ((fun _ => 0) i9)))), (a39, .inl (cI, 7, .inl (fun i9 => nI ((fun _ => 0) i9)))), (a47, .inl (cI, 7, .inl (fun i9 => nI ((fun _ => 0) i9))))] := hD
  refine lv_aload_n hx hb dX5_init_52 rfl (lv_at hl 0 rfl) ?_
  refine lv_bipush (v := nI 7) hx hb dX5_init_53 (by decide) ?_
  refine new_arr (atype := .boolean) (ty := .boolean) (cA := cZ) (a0 := (7, .inl (fun i9 => nI ((fun _ => 0) i9)))) (N' := 7) hx hb k_10 rfl hK hP hD hS hA 2 rfl (fun C h9 => by cases h9) (fun _ => rfl) (by decide) (by decide) (Nat.le_of_ble_eq_true rfl) (Nat.le_of_ble_eq_true rfl) (Nat.le_of_ble_eq_true rfl) dX5_init_55 (fun a55 H hP hD hS => ?_)
  have hP : va_P G vwCl [(a, .inr (5, [.ref a7, .ref a15, .ref a23, .ref a31, .ref a39, .ref a47, .null, .int (nI 0), .long (lN 0)])), (a7, .inl (cI, 7, .inl (fun i9 => nI ((fun _ => 0) i9)))), (a15, .inl (cI, 7, .inl (fun i9 => nI ((fun _ => 0) i9)))), (a23, .inl (cI, 7, .inl (fun i9 => nI ((fun _ => 0) i9)))), (a31, .inl (cI, 7, .inl (fun i9 => nI ((fun _ => 0) i9)))), (a39, .inl (cI, 7, .inl (fun i9 => nI ((fun _ => 0) i9)))), (a47, .inl (cI, 7, .inl (fun i9 => nI ((fun _ => 0) i9)))), (a55, .inl (cZ, 7, .inl (fun i9 => nI ((fun _ => 0) i9))))] _ := hP
  have hD : va_D A [(a, .inr (5, [.ref a7, .ref a15, .ref a23, .ref a31, .ref a39, .ref a47, .null, .int (nI 0), .long (lN 0)])), (a7, .inl (cI, 7, .inl (fun i9 => nI ((fun _ => 0) i9)))), (a15, .inl (cI, 7, .inl (fun i9 => nI ((fun _ => 0) i9)))), (a23, .inl (cI, 7, .inl (fun i9 => nI ((fun _ => 0) i9)))), (a31, .inl (cI, 7, .inl (fun i9 => nI ((fun _ => 0) i9)))), (a39, .inl (cI, 7, .inl (fun i9 => nI ((fun _ => 0) i9)))), (a47, .inl (cI, 7, .inl (fun i9 => nI ((fun _ => 0) i9)))), (a55, .inl (cZ, 7, .inl (fun i9 => nI ((fun _ => 0) i9))))] := hD
  refine va_putF (D := G) (ci := 5) (v := .ref a55) (ty := tyX5 6) (C := RX5) (T := TX5) (N := 9) hx hb hts hin5 tyX5 tyX5_ok nmX5 hown hK.1 hP hD hS 0 rfl rfl 6 (by decide) k_11 (fun _ h9 => h9) rfl hmn rfl (by decide +kernel) rfl rfl (Nat.le_of_ble_eq_true rfl) dX5_init_57 (fun H locs hP hD hS => ?_)
  have hP : va_P G vwCl [(a, .inr (5, [.ref a7, .ref a15, .ref a23, .ref a31, .ref a39, .ref a47, .ref a55, .int (nI 0), .long (lN 0)])), (a7, .inl (cI, 7, .inl (fun i9 => nI ((fun _ => 0) i9)))), (a15, .inl (cI, 7, .inl (fun i9 => nI ((fun _ => 0) i9)))), (a23, .inl (cI, 7, .inl (fun i9 => nI ((fun _ => 0) i9)))), (a31, .inl (cI, 7, .inl (fun i9 => nI ((fun _ => 0) i9)))), (a39, .inl (cI, 7, .inl (fun i9 => nI ((fun _ => 0) i9)))), (a47, .inl (cI, 7, .inl (fun i9 => nI ((fun _ => 0) i9)))), (a55, .inl (cZ, 7, .inl (fun i9 => nI ((fun _ => 0) i9))))] _ := hP
  have hD : va_D A [(a, .inr (5, [.ref a7, .ref a15, .ref a23, .ref a31, .ref a39, .ref a47, .ref a55, .int (nI 0), .long (lN 0)])), (a7, .inl (cI, 7, .inl (fun i9 => nI ((fun _ => 0) i9)))), (a15, .inl (cI, 7, .inl (fun i9 => nI ((fun _ => 0) i9)))), (a23, .inl (cI, 7, .inl (fun i9 => nI ((fun _ => 0) i9)))), (a31, .inl (cI, 7, .inl (fun i9 => nI ((fun _ => 0) i9)))), (a39, .inl (cI, 7, .inl (fun i9 => nI ((fun _ => 0) i9)))), (a47, .inl (cI, 7, .inl (fun i9 => nI ((fun _ => 0) i9)))), (a55, .inl (cZ, 7, .inl (fun i9 => nI ((fun _ => 0) i9))))] := hD
  refine lv_aload_n hx hb dX5_init_60 rfl (lv_at hl 0 rfl) ?_
  refine lv_iconst (v := nI 0) hx hb dX5_init_61 (by decide) ?_
  refine va_put (D := G) (ci := 5) (v := .int (nI 0)) (ty := tyX5 7) (C := RX5) (T := TX5) (N := 9) hx hb hts hin5 tyX5 tyX5_ok nmX5 hown hK.1 hP hD hS 0 rfl rfl 7 (by decide) k_12 (fun _ h9 => h9) rfl (by decide +kernel) rfl rfl (Nat.le_of_ble_eq_true rfl) dX5_init_62 (fun H locs hP hD hS => ?_)
  have hP : va_P G vwCl [(a, .inr (5, [.ref a7, .ref a15, .ref a23, .ref a31, .ref a39, .ref a47, .ref a55, .int (nI 0), .long (lN 0)])), (a7, .inl (cI, 7, .inl (fun i9 => nI ((fun _ => 0) i9)))), (a15, .inl (cI, 7, .inl (fun i9 => nI ((fun _ => 0) i9)))), (a23, .inl (cI, 7, .inl (fun i9 => nI ((fun _ => 0) i9)))), (a31, .inl (cI, 7, .inl (fun i9 => nI ((fun _ => 0) i9)))), (a39, .inl (cI, 7, .inl (fun i9 => nI ((fun _ => 0) i9)))), (a47, .inl (cI, 7, .inl (fun i9 => nI ((fun _ => 0) i9)))), (a55, .inl (cZ, 7, .inl (fun i9 => nI ((fun _ => 0) i9))))] _ := hP
  have hD : va_D A [(a, .inr (5, [.ref a7, .ref a15, .ref a23, .ref a31, .ref a39, .ref a47, .ref a55, .int (nI 0), .long (lN 0)])), (a7, .inl (cI, 7, .inl (fun i9 => nI ((fun _ => 0) i9)))), (a15, .inl (cI, 7, .inl (fun i9 => nI ((fun _ => 0) i9)))), (a23, .inl (cI, 7, .inl (fun i9 => nI ((fun _ => 0) i9)))), (a31, .inl (cI, 7, .inl (fun i9 => nI ((fun _ => 0) i9)))), (a39, .inl (cI, 7, .inl (fun i9 => nI ((fun _ => 0) i9)))), (a47, .inl (cI, 7, .inl (fun i9 => nI ((fun _ => 0) i9)))), (a55, .inl (cZ, 7, .inl (fun i9 => nI ((fun _ => 0) i9))))] := hD
  refine lv_aload_n hx hb dX5_init_65 rfl (lv_at hl 0 rfl) ?_
  refine lv_lconst (v := lN 0) hx hb dX5_init_66 (by decide) ?_
  refine va_put (D := G) (ci := 5) (v := .long (lN 0)) (ty := tyX5 8) (C := RX5) (T := TX5) (N := 9) hx hb hts hin5 tyX5 tyX5_ok nmX5 hown hK.1 hP hD hS 0 rfl rfl 8 (by decide) k_13 (fun _ h9 => h9) rfl (by decide +kernel) rfl rfl (Nat.le_of_ble_eq_true rfl) dX5_init_67 (fun H locs hP hD hS => ?_)
  have hP : va_P G vwCl [(a, .inr (5, [.ref a7, .ref a15, .ref a23, .ref a31, .ref a39, .ref a47, .ref a55, .int (nI 0), .long (lN 0)])), (a7, .inl (cI, 7, .inl (fun i9 => nI ((fun _ => 0) i9)))), (a15, .inl (cI, 7, .inl (fun i9 => nI ((fun _ => 0) i9)))), (a23, .inl (cI, 7, .inl (fun i9 => nI ((fun _ => 0) i9)))), (a31, .inl (cI, 7, .inl (fun i9 => nI ((fun _ => 0) i9)))), (a39, .inl (cI, 7, .inl (fun i9 => nI ((fun _ => 0) i9)))), (a47, .inl (cI, 7, .inl (fun i9 => nI ((fun _ => 0) i9)))), (a55, .inl (cZ, 7, .inl (fun i9 => nI ((fun _ => 0) i9))))] _ := hP
  have hD : va_D A [(a, .inr (5, [.ref a7, .ref a15, .ref a23, .ref a31, .ref a39, .ref a47, .ref a55, .int (nI 0), .long (lN 0)])), (a7, .inl (cI, 7, .inl (fun i9 => nI ((fun _ => 0) i9)))), (a15, .inl (cI, 7, .inl (fun i9 => nI ((fun _ => 0) i9)))), (a23, .inl (cI, 7, .inl (fun i9 => nI ((fun _ => 0) i9)))), (a31, .inl (cI, 7, .inl (fun i9 => nI ((fun _ => 0) i9)))), (a39, .inl (cI, 7, .inl (fun i9 => nI ((fun _ => 0) i9)))), (a47, .inl (cI, 7, .inl (fun i9 => nI ((fun _ => 0) i9)))), (a55, .inl (cZ, 7, .inl (fun i9 => nI ((fun _ => 0) i9))))] := hD
  exact endV hx hb hr hlocks (mkg [a, a7, a15, a23, a31, a39, a47, a55]) (rfl) (hP.sub [0, 1, 2, 3, 4, 5, 6, 7] rfl) (hD.sub [0, 1, 2, 3, 4, 5, 6, 7] (by decide) rfl) hS dX5_init_70
