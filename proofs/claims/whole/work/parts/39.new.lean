/-! new objects -/
theorem new_arr {p : Program} {l : Launch} {e : Env} {R : Room} {s : State} {m : MethodId} {args : Array Value} {below : List Frame} {meth : Method} {c : Code} {H : Heap} {locs : List Loc} {cells slots : Nat} {Q : State → Prop} {pc : Nat} {ls : Array Slot} {rest : List Value} {cc : ByteArray} {G : va_G} {A : Nat → Prop} {H0 : Heap} {ws : va_W} {T : List (ClassId × FieldType)}
    (hx : p.tables.exec = Jvm.exec) (hb : c.code = cc) {atype : ArrayType} (harr : (Cond.arrayClass (newarray.typeOf atype)).before args s = true) {ty : FieldType} (hty : newarray.typeOf atype = ty) (hK : KK G T s) (hP : va_P G vwCl ws H) (hD : va_D A ws) (hS : va_S A H0 H locs) (hA : ∀ q, H0.size ≤ q → A q)
    {cA : ClassId} (t0 : Nat) (ht : T[t0]? = some (cA, ty)) (hpr : ∀ C, ¬ ty = .object C) {n : Int32} {N' : Nat} {a0 : vp_A} (ha : ∀ cA : ClassId, vp_cell cA a0 = arrV cA N' (fun _ => defaultValue ty)) (hn : ¬ n < 0) (hN : n.toNatClampNeg = N') (hbytes : N' * componentBytes ty ≤ 536870912) (hcells : cells + 1 ≤ R.cells) (hslots : slots + N' ≤ R.slots) (hdg : decode cc pc = .ok (.newarray atype, 2))
    (kk : ∀ (q : Nat) (H1 : Heap), va_P G vwCl (ws ++ [(q, .inl (cA, a0))]) H1 → va_D A (ws ++ [(q, .inl (cA, a0))]) → va_S A H0 H1 locs →
      W p l e R s m args below meth c H1 locs (cells + 1) (slots + N') Q (F0 m (pc + 2) ls (.ref q :: rest))) : W p l e R s m args below meth c H locs cells slots Q (F0 m pc ls (.int n :: rest)) := by
  refine va_newa hx hb harr hty hK.1 hP hD hS hA ha hn hN hbytes hcells hslots hdg (fun q cB H1 k1 p1 d1 s1 => ?_)
  have e1 := (k1.2 T.length (cB, ty) (by simp)).2
  have e2 := (hK.1.2 t0 _ ht).2
  have e : cB = cA := by
    cases ty with
    | object C => exact absurd rfl (hpr C)
    | _ => exact Option.some.inj (e1.symm.trans e2)
  subst e
  exact kk q H1 p1 d1 s1
set_option maxHeartbeats 400000 in
set_option maxRecDepth 100000 in
theorem c_X7_init {l : Launch} {G : va_G} {cI cJ cZ cS : ClassId} (a : Nat) : CV l G (kT cI cJ cZ cS) (S := Nat) yX7_init wsX7_init { frames := 1, cells := 1, slots := 64, locals := 20 } [.ref a] [(a, .inr (7, [.null, .int (nI 0)]))] (fun b1 => True) (fun b1 => [(a, .inr (7, [.ref b1, .int (nI 0)])), (b1, .inl (cI, 64, .inl (fun i9 => nI ((fun _ => 0) i9))))]) := by
  refine CV.of (cc := cX7_init) (maxL := 1) (by decide) rfl (Nat.le_of_ble_eq_true rfl) ?_
  intro p9 e9 s m below meth co9 A ls hB
  obtain ⟨hx, hb, hml, hr, hts, hown, hlocks, hmn, hK, hP, hD, hS, hA, hl⟩ := hB
  have hP : va_P G vwCl [(a, .inr (7, [.null, .int (nI 0)]))] s.heap := hP
  have hD : va_D A [(a, .inr (7, [.null, .int (nI 0)]))] := hD
  have hl : lv_has ls 1 [(0, .ref a)] := hl
  have k_0 := hts (.methodLink RX7 3 objectInit) (by decide +kernel)
  have k_1 := hts (.instanceMethod objectInit) (by decide +kernel)
  have k_2 := hts (.code objectInit ⟨#[0xb1]⟩ 1 none) (by decide +kernel)
  have k_3 := hts (.arrayClass .int) (by decide +kernel)
  have k_4 := hts (.fieldLink RX7 9 "HearsayMarch$Text" "signs" "[I") (by decide +kernel)
  have k_5 := hts (.fieldLink RX7 15 "HearsayMarch$Text" "length" "I") (by decide +kernel)
  have hin7 : ∀ w ∈ wsX70, w ∈ wsX7_init := by decide +kernel
  refine lv_aload_n hx hb dX7_init_0 rfl (lv_at hl 0 rfl) ?_
  refine W.objInit hx hb hown k_0 k_1 k_2 rfl (by rw [hml]; exact hl.1) rfl dX7_init_1 (Nat.le_of_ble_eq_true rfl) (Nat.le_of_ble_eq_true rfl) ?_
  refine W.eq (g2 := F0 m 4 ls []) rfl ?_
  refine lv_aload_n hx hb dX7_init_4 rfl (lv_at hl 0 rfl) ?_
  refine lv_bipush (v := nI 64) hx hb dX7_init_5 (by decide) ?_
  refine new_arr (atype := .int) (ty := .int) (cA := cI) (a0 := (64, .inl (fun i9 => nI ((fun _ => 0) i9)))) (N' := 64) hx hb k_3 rfl hK hP hD hS hA 0 rfl (fun C h9 => by cases h9) (fun _ => rfl) (by decide) (by decide) (Nat.le_of_ble_eq_true rfl) (Nat.le_of_ble_eq_true rfl) (Nat.le_of_ble_eq_true rfl) dX7_init_7 (fun a7 H hP hD hS => ?_)
  have hP : va_P G vwCl [(a, .inr (7, [.null, .int (nI 0)])), (a7, .inl (cI, 64, .inl (fun i9 => nI ((fun _ => 0) i9))))] _ := hP
  have hD : va_D A [(a, .inr (7, [.null, .int (nI 0)])), (a7, .inl (cI, 64, .inl (fun i9 => nI ((fun _ => 0) i9))))] := hD
  refine va_putF (D := G) (ci := 7) (v := .ref a7) (ty := tyX7 0) (C := RX7) (T := TX7) (N := 2) hx hb hts hin7 tyX7 tyX7_ok nmX7 hown hK.1 hP hD hS 0 rfl rfl 0 (by decide) k_4 (fun _ h9 => h9) rfl hmn rfl (by decide +kernel) rfl rfl (Nat.le_of_ble_eq_true rfl) dX7_init_9 (fun H locs hP hD hS => ?_)
  have hP : va_P G vwCl [(a, .inr (7, [.ref a7, .int (nI 0)])), (a7, .inl (cI, 64, .inl (fun i9 => nI ((fun _ => 0) i9))))] _ := hP
  have hD : va_D A [(a, .inr (7, [.ref a7, .int (nI 0)])), (a7, .inl (cI, 64, .inl (fun i9 => nI ((fun _ => 0) i9))))] := hD
  refine lv_aload_n hx hb dX7_init_12 rfl (lv_at hl 0 rfl) ?_
  refine lv_iconst (v := nI 0) hx hb dX7_init_13 (by decide) ?_
  refine va_put (D := G) (ci := 7) (v := .int (nI 0)) (ty := tyX7 1) (C := RX7) (T := TX7) (N := 2) hx hb hts hin7 tyX7 tyX7_ok nmX7 hown hK.1 hP hD hS 0 rfl rfl 1 (by decide) k_5 (fun _ h9 => h9) rfl (by decide +kernel) rfl rfl (Nat.le_of_ble_eq_true rfl) dX7_init_14 (fun H locs hP hD hS => ?_)
  have hP : va_P G vwCl [(a, .inr (7, [.ref a7, .int (nI 0)])), (a7, .inl (cI, 64, .inl (fun i9 => nI ((fun _ => 0) i9))))] _ := hP
  have hD : va_D A [(a, .inr (7, [.ref a7, .int (nI 0)])), (a7, .inl (cI, 64, .inl (fun i9 => nI ((fun _ => 0) i9))))] := hD
  exact endV hx hb hr hlocks (a7) (trivial) (hP.sub [0, 1] rfl) (hD.sub [0, 1] (by decide) rfl) hS dX7_init_17
