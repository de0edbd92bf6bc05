/-! the law's loop, and its start -/
theorem len5 {L i : Nat} (hL : L ≤ 2560) (hi : i < 1073741824) : Int32.ofNat L - nI 5 < nI i ↔ L < i + 5 := by
  show nI L - nI 5 < nI i ↔ L < i + 5
  rw [Int32.lt_iff_toInt_lt, pk_sub_toInt (by omega) (by omega), nI_toInt (by omega)]
  omega
set_option maxHeartbeats 4000000 in
set_option maxRecDepth 100000 in
theorem lw_out {p : Program} {l : Launch} {e : Env} {s : State} {m : MethodId} {below : List Frame} {meth : Method} {c : Code} {G : va_G} {cI cJ cZ cS : ClassId} {ad ba ka : Nat → Nat → Nat} {g : Nat → Nat} {b L : Nat} {xs : Nat → Int32} {i : Nat} (hC : LC p s m meth c G cI cJ cZ cS b L xs) (h5 : L < i + 5) (hi : i < 1073741824) : LG p l e s m below meth c G cI cJ cZ cS ad ba ka g b i 18 := by
  intro zx zm H locs ls hP hD hS hR hl
  obtain ⟨hx, hb, hml, hown, hts, hK, hX, hbl, hL, hr, hlocks⟩ := hC
  have hbA : ¬ (fun q : Nat => s.heap.size ≤ q) b := Nat.not_le.mpr hbl
  refine lv_iload_n hx hb dL_law_18 rfl (lv_at hl 3 rfl) ?_
  refine lv_aload_n hx hb dL_law_19 rfl (lv_at hl 0 rfl) ?_
  refine va_slen hx hb hX hbl hbA hS dL_law_20 ?_
  refine lv_iconst (v := nI 5) hx hb dL_law_21 (by decide) ?_
  refine lv_isub hx hb dL_law_22 ?_
  refine lv_icmp_gt (tgt := 900) hx hb dL_law_23 (by decide) (fun _ => ?_) (fun c9 => absurd ((len5 hL hi).mpr h5) c9)
  refine lv_iconst (v := 1) hx hb dL_law_900 (by decide) ?_
  refine va_forget (fun q hq => hS.2.2 q hq) ?_
  refine W.widen (k := 600000) (n := 7302250) (Nat.le_of_ble_eq_true rfl) (Nat.le_of_ble_eq_true rfl) ?_
  exact lw_ret hx hb hr hlocks dL_law_901
set_option maxHeartbeats 4000000 in
set_option maxRecDepth 100000 in
theorem law_loop {p : Program} {l : Launch} {e : Env} {s : State} {m : MethodId} {below : List Frame} {meth : Method} {c : Code} {G : va_G} {cI cJ cZ cS : ClassId} {ad ba ka : Nat → Nat → Nat} {g : Nat → Nat} {b L : Nat} {xs : Nat → Int32} (hC : LC p s m meth c G cI cJ cZ cS b L xs) : ∀ n i, L + 1 ≤ i + n → i ≤ L + 5 → LG p l e s m below meth c G cI cJ cZ cS ad ba ka g b i 18 := by
  intro n
  induction n with
  | zero =>
    intro i h h0 zx zm H locs ls hP hD hS hR hl
    exact lw_out hC (by omega) (by have := hC.2.2.2.2.2.2.2.2.1; omega) zx zm H locs ls hP hD hS hR hl
  | succ n ih =>
    intro i h h0
    by_cases h5 : i + 5 ≤ L
    · have K : LG p l e s m below meth c G cI cJ cZ cS ad ba ka g b i 894 := by
        intro zx zm H locs ls hP hD hS hR hl
        obtain ⟨hx, hb, -⟩ := id hC
        refine lv_iinc (v := nI (i + 5)) (lv' := [(3, .int (nI (i + 5))), (0, .ref b), (1, .ref (ad 0 0)), (2, .ref (g 0))]) hx hb dL_law_894 hl (k := 3) rfl (nI_inc _ 5 5 (by decide)) (by decide) rfl (fun ls hl => ?_)
        refine lv_goto (tgt := 18) hx hb dL_law_897 (by decide) ?_
        exact ih (i + 5) (by omega) (by omega) zx zm H locs ls hP hD hS hR (lv_sub hl [1, 2, 3, 0] rfl)
      intro zx zm H locs ls hP hD hS hR hl
      obtain ⟨hx, hb, hml, hown, hts, hK, hX, hbl, hL, hr, hlocks⟩ := id hC
      have hbA : ¬ (fun q : Nat => s.heap.size ≤ q) b := Nat.not_le.mpr hbl
      refine lv_iload_n hx hb dL_law_18 rfl (lv_at hl 3 rfl) ?_
      refine lv_aload_n hx hb dL_law_19 rfl (lv_at hl 0 rfl) ?_
      refine va_slen hx hb hX hbl hbA hS dL_law_20 ?_
      refine lv_iconst (v := nI 5) hx hb dL_law_21 (by decide) ?_
      refine lv_isub hx hb dL_law_22 ?_
      refine lv_icmp_gt (tgt := 900) hx hb dL_law_23 (by decide) (fun c9 => absurd h5 (by have := (len5 hL (by omega)).mp c9; omega)) (fun _ => ?_)
      refine lv_aload_n hx hb dL_law_26 rfl (lv_at hl 0 rfl) ?_
      refine lv_iload_n hx hb dL_law_27 rfl (lv_at hl 3 rfl) ?_
      refine sld hx hb hX hbl hbA hS (j := i) (by omega) hL dL_law_28 ?_
      refine lv_bipush (v := nI 31) hx hb dL_law_29 (by decide) ?_
      refine lv_iand hx hb dL_law_31 ?_
      generalize xs i &&& nI 31 = q
      by_cases w_0 : q = nI 0
      · subst w_0
        refine lv_tableIn (tgt := 148) (off := 116) hx hb dL_law_32 (by decide) (by decide) (by decide) (by decide) ?_
        exact lc_write hC h5 K zx zm H locs ls hP hD hS hR hl
      by_cases w_1 : q = nI 1
      · subst w_1
        refine lv_tableIn (tgt := 211) (off := 179) hx hb dL_law_32 (by decide) (by decide) (by decide) (by decide) ?_
        exact lc_wipe hC h5 K zx zm H locs ls hP hD hS hR hl
      by_cases w_2 : q = nI 2
      · subst w_2
        refine lv_tableIn (tgt := 224) (off := 192) hx hb dL_law_32 (by decide) (by decide) (by decide) (by decide) ?_
        exact lc_fault hC h5 K zx zm H locs ls hP hD hS hR hl
      by_cases w_3 : q = nI 3
      · subst w_3
        refine lv_tableIn (tgt := 237) (off := 205) hx hb dL_law_32 (by decide) (by decide) (by decide) (by decide) ?_
        exact lc_army hC h5 K zx zm H locs ls hP hD hS hR hl
      by_cases w_4 : q = nI 4
      · subst w_4
        refine lv_tableIn (tgt := 250) (off := 218) hx hb dL_law_32 (by decide) (by decide) (by decide) (by decide) ?_
        exact lc_about hC h5 K zx zm H locs ls hP hD hS hR hl
      by_cases w_5 : q = nI 5
      · subst w_5
        refine lv_tableIn (tgt := 273) (off := 241) hx hb dL_law_32 (by decide) (by decide) (by decide) (by decide) ?_
        exact lc_rank hC h5 K zx zm H locs ls hP hD hS hR hl
      by_cases w_6 : q = nI 6
      · subst w_6
        refine lv_tableIn (tgt := 306) (off := 274) hx hb dL_law_32 (by decide) (by decide) (by decide) (by decide) ?_
        exact lc_slip hC h5 K zx zm H locs ls hP hD hS hR hl
      by_cases w_7 : q = nI 7
      · subst w_7
        refine lv_tableIn (tgt := 349) (off := 317) hx hb dL_law_32 (by decide) (by decide) (by decide) (by decide) ?_
        exact lc_seed hC h5 K zx zm H locs ls hP hD hS hR hl
      by_cases w_8 : q = nI 8
      · subst w_8
        refine lv_tableIn (tgt := 403) (off := 371) hx hb dL_law_32 (by decide) (by decide) (by decide) (by decide) ?_
        exact lc_say hC h5 K zx zm H locs ls hP hD hS hR hl
      by_cases w_9 : q = nI 9
      · subst w_9
        refine lv_tableIn (tgt := 426) (off := 394) hx hb dL_law_32 (by decide) (by decide) (by decide) (by decide) ?_
        exact lc_minute hC h5 K zx zm H locs ls hP hD hS hR hl
      by_cases w_10 : q = nI 10
      · subst w_10
        refine lv_tableIn (tgt := 439) (off := 407) hx hb dL_law_32 (by decide) (by decide) (by decide) (by decide) ?_
        exact lc_bugle hC h5 K zx zm H locs ls hP hD hS hR hl
      by_cases w_11 : q = nI 11
      · subst w_11
        refine lv_tableIn (tgt := 452) (off := 420) hx hb dL_law_32 (by decide) (by decide) (by decide) (by decide) ?_
        exact lc_undo hC h5 K zx zm H locs ls hP hD hS hR hl
      by_cases w_12 : q = nI 12
      · subst w_12
        refine lv_tableIn (tgt := 465) (off := 433) hx hb dL_law_32 (by decide) (by decide) (by decide) (by decide) ?_
        exact lc_heard hC h5 K zx zm H locs ls hP hD hS hR hl
      by_cases w_13 : q = nI 13
      · subst w_13
        refine lv_tableIn (tgt := 535) (off := 503) hx hb dL_law_32 (by decide) (by decide) (by decide) (by decide) ?_
        exact lc_comes hC h5 K zx zm H locs ls hP hD hS hR hl
      by_cases w_14 : q = nI 14
      · subst w_14
        refine lv_tableIn (tgt := 568) (off := 536) hx hb dL_law_32 (by decide) (by decide) (by decide) (by decide) ?_
        exact lc_sure hC h5 K zx zm H locs ls hP hD hS hR hl
      by_cases w_15 : q = nI 15
      · subst w_15
        refine lv_tableIn (tgt := 591) (off := 559) hx hb dL_law_32 (by decide) (by decide) (by decide) (by decide) ?_
        exact lc_code hC h5 K zx zm H locs ls hP hD hS hR hl
      by_cases w_16 : q = nI 16
      · subst w_16
        refine lv_tableIn (tgt := 614) (off := 582) hx hb dL_law_32 (by decide) (by decide) (by decide) (by decide) ?_
        exact lc_twoOfThree hC h5 K zx zm H locs ls hP hD hS hR hl
      by_cases w_17 : q = nI 17
      · subst w_17
        refine lv_tableIn (tgt := 674) (off := 642) hx hb dL_law_32 (by decide) (by decide) (by decide) (by decide) ?_
        exact lc_help hC h5 K zx zm H locs ls hP hD hS hR hl
      by_cases w_18 : q = nI 18
      · subst w_18
        refine lv_tableIn (tgt := 697) (off := 665) hx hb dL_law_32 (by decide) (by decide) (by decide) (by decide) ?_
        exact lc_trace hC h5 K zx zm H locs ls hP hD hS hR hl
      by_cases w_19 : q = nI 19
      · subst w_19
        refine lv_tableIn (tgt := 756) (off := 724) hx hb dL_law_32 (by decide) (by decide) (by decide) (by decide) ?_
        exact lc_untrace hC h5 K zx zm H locs ls hP hD hS hR hl
      by_cases w_20 : q = nI 20
      · subst w_20
        refine lv_tableIn (tgt := 769) (off := 737) hx hb dL_law_32 (by decide) (by decide) (by decide) (by decide) ?_
        exact lc_fits hC h5 K zx zm H locs ls hP hD hS hR hl
      by_cases w_21 : q = nI 21
      · subst w_21
        refine lv_tableIn (tgt := 782) (off := 750) hx hb dL_law_32 (by decide) (by decide) (by decide) (by decide) ?_
        exact lc_told hC h5 K zx zm H locs ls hP hD hS hR hl
      by_cases w_22 : q = nI 22
      · subst w_22
        refine lv_tableIn (tgt := 795) (off := 763) hx hb dL_law_32 (by decide) (by decide) (by decide) (by decide) ?_
        exact lc_drill hC h5 K zx zm H locs ls hP hD hS hR hl
      by_cases w_23 : q = nI 23
      · subst w_23
        refine lv_tableIn (tgt := 848) (off := 816) hx hb dL_law_32 (by decide) (by decide) (by decide) (by decide) ?_
        exact lc_keep hC h5 K zx zm H locs ls hP hD hS hR hl
      by_cases w_24 : q = nI 24
      · subst w_24
        refine lv_tableIn (tgt := 871) (off := 839) hx hb dL_law_32 (by decide) (by decide) (by decide) (by decide) ?_
        exact lc_again hC h5 K zx zm H locs ls hP hD hS hR hl
      refine lv_tableOut (tgt := 894) hx hb dL_law_32 (sw_out (hi := 24) 25 (by omega) (by decide) (by decide) (fun j hj => by rcases (show j = 0 ∨ j = 1 ∨ j = 2 ∨ j = 3 ∨ j = 4 ∨ j = 5 ∨ j = 6 ∨ j = 7 ∨ j = 8 ∨ j = 9 ∨ j = 10 ∨ j = 11 ∨ j = 12 ∨ j = 13 ∨ j = 14 ∨ j = 15 ∨ j = 16 ∨ j = 17 ∨ j = 18 ∨ j = 19 ∨ j = 20 ∨ j = 21 ∨ j = 22 ∨ j = 23 ∨ j = 24 by omega) with rfl | rfl | rfl | rfl | rfl | rfl | rfl | rfl | rfl | rfl | rfl | rfl | rfl | rfl | rfl | rfl | rfl | rfl | rfl | rfl | rfl | rfl | rfl | rfl | rfl <;> assumption)) (by decide) ?_
      exact K zx zm H locs ls hP hD hS hR hl
    · exact lw_out hC (by omega) (by have := hC.2.2.2.2.2.2.2.2.1; omega)
theorem Rel_0 {v1 : Nat → Nat → Int32} (h : ∀ f j, f < 7 → j < 7 → v1 f j = setV (fun _ => 0) 0 f j) : Rel (((fun _ => 0), 0, 0, (nI 0), (nI 0), (nI 0), (fun _ => 0), (fun _ => 0), 0, 0, (fun _ => 0), (fun _ => 0), 0, 0, v1, (nI 0), (lN 0), (fun _ _ => nI 0), (nI 0), (lN 0), 0, 0, (fun _ _ _ => nI 0), (fun _ => nI 0), (fun _ => lN 0), (fun _ => 0), (fun _ _ _ => nI 0), (fun _ => nI 0), (fun _ => lN 0), (fun _ => 0), (fun _ => 0), (fun _ => 0), 0, (fun _ => 0), (fun _ => 0), 1, (fun _ => 0), (fun _ => 0), (fun _ => 0)) : XS) ((0, 0, 0, 0, 0, 0, 0, 0, (lN 0), (lN 0), (fun _ => 0), (fun _ => 0), (fun _ => 0), (fun _ => 0), (fun _ => 0), (fun _ => nI 0), (fun _ => nI 0), (fun _ => lN 0), (fun _ => nI 0), (fun _ => lN 0), (fun _ => 0), (fun _ => 0), (fun _ => 0), (fun _ => 0), (fun _ => nI 0), (fun _ => nI 0), (fun _ => 0), (fun _ => 0), (fun _ => 0), (fun _ => 0)) : MS) := by
  refine ⟨⟨rfl, by decide, fun _ _ => rfl, fun _ _ => Nat.le_of_ble_eq_true rfl⟩, fun _ _ => Nat.le_of_ble_eq_true rfl, ⟨rfl, rfl, by decide, AOk0, AOk0, fun _ _ => rfl, fun _ _ => rfl, fun _ _ _ _ => rfl⟩, ⟨fun j hj => by rw [h 6 j (by decide) hj]; exact bo_set j hj, fun f j _ hj => absurd hj (Nat.not_lt_zero _), rfl, rfl, fun k hk => absurd hk (Nat.not_lt_zero _), fun h0 => absurd h0 (Nat.not_lt_zero _)⟩, ⟨rfl, by decide, by decide, fun _ _ _ _ => Or.inl rfl, fun j hj => absurd hj (Nat.not_lt_zero _)⟩, ⟨fun _ _ => ⟨rfl, Nat.le_of_ble_eq_true rfl, fun _ _ => Or.inl rfl⟩, fun _ _ z => absurd rfl z⟩, rfl, rfl, rfl, rfl, by decide, fun j hj => absurd hj (Nat.not_lt_zero _)⟩
theorem arr_K {s : State} {args : Array Value} {ty : FieldType} (hty : ∀ C, ¬ ty = .object C) (h : (Cond.arrayClass ty).before args s = true) : ∃ cA : ClassId, ArrOfT s cA ty ∧ va_RA s cA ty := by
  obtain ⟨cA, k, comp, h1, h2, h3⟩ := Cond.arrayClass_spec h
  refine ⟨cA, fun n z => ⟨fun k h => (by cases h), k, h2, comp, h3⟩, ?_⟩
  cases ty with
  | object C => exact absurd rfl (hty C)
  | _ => exact h1
theorem arr_S {s : State} {args : Array Value} {C : String} (h : (Cond.arrayOver (.object C)).before args s = true) : ∃ cA : ClassId, ArrOfT s cA (.object C) ∧ va_RA s cA (.object C) := by
  obtain ⟨comp, cA, k, h1, h2, h3, h4, h5⟩ := Cond.arrayOver_spec h
  exact ⟨cA, fun n z => ⟨fun k h => (by cases h), k, h3, comp, h4⟩, k, comp, h3, h4, h1, h5⟩
set_option maxHeartbeats 4000000 in
set_option maxRecDepth 100000 in
theorem whole_start {p : Program} {e : Env} {s : State} {m : MethodId} {below : List Frame} {meth : Method} {c : Code} (l : Launch) (hflags : l.flags = flags0) {b L : Nat} {xs : Nat → Int32} (hL : L ≤ 2560) (C0 : lw_At p s m meth c b L xs) : W p l e room_1 s m #[Value.ref b] below meth c s.heap [] 0 0 (lw_Z below #[Value.ref b] s) (entryFrame m ([Value.ref b] : List Value).toArray 4) := by
  obtain ⟨hx, hb, hr, hml, hown, hts0, hX, hbl, hlocks, hgv⟩ := id C0
  have hts : ∀ w ∈ wsL_law, w.before #[Value.ref b] s = true := fun w hw => hts0 w (wsL_law_in w hw)
  have hA : ∀ q : Nat, s.heap.size ≤ q → (fun q : Nat => s.heap.size ≤ q) q := fun _ h => h
  have hbA : ¬ (fun q : Nat => s.heap.size ≤ q) b := Nat.not_le.mpr hbl
  obtain ⟨k0, i0, hn0⟩ := u_known (C := RX0) (T := TX0) (N := 3) (n := 3) hts inlX0 (hts (.instantiable RX0 3) (by decide +kernel))
  obtain ⟨k1, i1, hn1⟩ := u_known (C := RX1) (T := TX1) (N := 4) (n := 4) hts inlX1 (hts (.instantiable RX1 4) (by decide +kernel))
  obtain ⟨k2, i2, hn2⟩ := u_known (C := RX2) (T := TX2) (N := 3) (n := 3) hts inlX2 (hts (.instantiable RX2 3) (by decide +kernel))
  obtain ⟨k3, i3, hn3⟩ := u_known (C := RX3) (T := TX3) (N := 5) (n := 5) hts inlX3 (hts (.instantiable RX3 5) (by decide +kernel))
  obtain ⟨k4, i4, hn4⟩ := u_known (C := RX4) (T := TX4) (N := 2) (n := 2) hts inlX4 (hts (.instantiable RX4 2) (by decide +kernel))
  obtain ⟨k5, i5, hn5⟩ := u_known (C := RX5) (T := TX5) (N := 9) (n := 9) hts inlX5 (hts (.instantiable RX5 9) (by decide +kernel))
  obtain ⟨k6, i6, hn6⟩ := u_known (C := RX6) (T := TX6) (N := 2) (n := 2) hts inlX6 (hts (.instantiable RX6 2) (by decide +kernel))
  obtain ⟨k7, i7, hn7⟩ := u_known (C := RX7) (T := TX7) (N := 2) (n := 2) hts inlX7 (hts (.instantiable RX7 2) (by decide +kernel))
  obtain ⟨k8, i8, hn8⟩ := u_known (C := RX8) (T := TX8) (N := 4) (n := 4) hts inlX8 (hts (.instantiable RX8 4) (by decide +kernel))
  obtain ⟨k9, i9, hn9⟩ := u_known (C := RX9) (T := TX9) (N := 11) (n := 11) hts inlX9 (hts (.instantiable RX9 11) (by decide +kernel))
  obtain ⟨k10, i10, hn10⟩ := u_known (C := RX10) (T := TX10) (N := 31) (n := 31) hts inlX10 (hts (.instantiable RX10 31) (by decide +kernel))
  obtain ⟨G, hKc⟩ : ∃ G : va_G, ∀ (k : Nat) (q : vw_C), vwCl[k]? = some q → u_Kn s q.1 q.2.1 q.2.2 (G.1 k) (G.2 k) := by
    refine ⟨(fun k => match k with | 0 => k0 | 1 => k1 | 2 => k2 | 3 => k3 | 4 => k4 | 5 => k5 | 6 => k6 | 7 => k7 | 8 => k8 | 9 => k9 | _ => k10, fun k => match k with | 0 => i0 | 1 => i1 | 2 => i2 | 3 => i3 | 4 => i4 | 5 => i5 | 6 => i6 | 7 => i7 | 8 => i8 | 9 => i9 | _ => i10), ?_⟩
    intro k q hq
    match k, hq with
    | 0, hq => cases hq; exact hn0
    | 1, hq => cases hq; exact hn1
    | 2, hq => cases hq; exact hn2
    | 3, hq => cases hq; exact hn3
    | 4, hq => cases hq; exact hn4
    | 5, hq => cases hq; exact hn5
    | 6, hq => cases hq; exact hn6
    | 7, hq => cases hq; exact hn7
    | 8, hq => cases hq; exact hn8
    | 9, hq => cases hq; exact hn9
    | 10, hq => cases hq; exact hn10
    | k + 11, hq => simp [vwCl] at hq
  obtain ⟨cI, hI⟩ := arr_K (s := s) (ty := .int) (fun C z => by cases z) (hts0 (.arrayClass .int) (by decide +kernel))
  obtain ⟨cJ, hJ⟩ := arr_K (s := s) (ty := .long) (fun C z => by cases z) (hts0 (.arrayClass .long) (by decide +kernel))
  obtain ⟨cZ, hZ⟩ := arr_K (s := s) (ty := .boolean) (fun C z => by cases z) (hts0 (.arrayClass .boolean) (by decide +kernel))
  obtain ⟨cS, hSc⟩ := arr_S (s := s) (C := "HearsayMarch$Scene") (hts0 (.arrayOver (.object "HearsayMarch$Scene")) (by decide +kernel))
  have hK : KK G (kT cI cJ cZ cS) s := by
    refine ⟨⟨hKc, fun k q hk => ?_⟩, va_Nw.of rfl (hts0 nestOrder (by decide +kernel)), va_AO.of (hts0 (.arrayOver (.object "HearsayMarch$Scene")) (by decide +kernel))⟩
    match k, hk with
    | 0, hk => cases hk; exact hI
    | 1, hk => cases hk; exact hJ
    | 2, hk => cases hk; exact hZ
    | 3, hk => cases hk; exact hSc
    | k + 4, hk => simp at hk
  have hC : LC p s m meth c G cI cJ cZ cS b L xs := ⟨hx, hb, hml, hown, hts, hK, hX, hbl, hL, hr, hlocks⟩
  have hS : va_S (fun q : Nat => s.heap.size ≤ q) s.heap s.heap [] := va_S.rf
  have hP : va_P G vwCl [] s.heap := fun k q h => by simp at h
  have hD : va_D (fun q : Nat => s.heap.size ≤ q) [] := ⟨fun i j p q h => by simp at h, fun k q h => by simp at h⟩
  have hl := lv_entry ([.ref b]) (n := 4) (Nat.le_of_ble_eq_true rfl)
  rw [lg_entry_eq]
  generalize (lg_sl ([.ref b]) ++ List.replicate (4 - (lg_sl ([.ref b])).length) Slot.unset).toArray = ls at hl ⊢
  have hl : lv_has ls 4 [(0, .ref b)] := hl
  refine va_new (D := G) (ci := 9) (fs := [.null, .null, .null, .null, .null, .null, .null, .null, .null, .null, .null]) (C := RX9) (T := TX9) (N := 11) hx hb hts inlX9 tyX9 tyX9_ok hown (hts (.classLink RL 7 RX9) (by decide +kernel)) (hts (.instantiable RX9 11) (by decide +kernel)) (hts (.initialized RX9) (by decide +kernel)) hK.1 hP hD hS hA rfl (by intro j hj; rcases (show j = 0 ∨ j = 1 ∨ j = 2 ∨ j = 3 ∨ j = 4 ∨ j = 5 ∨ j = 6 ∨ j = 7 ∨ j = 8 ∨ j = 9 ∨ j = 10 by omega) with rfl | rfl | rfl | rfl | rfl | rfl | rfl | rfl | rfl | rfl | rfl <;> rfl) (Nat.le_of_ble_eq_true rfl) (Nat.le_of_ble_eq_true rfl) dL_law_0 (fun a0 H hP hD hS => ?_)
  have hP : va_P G vwCl [(a0, .inr (9, [.null, .null, .null, .null, .null, .null, .null, .null, .null, .null, .null]))] _ := hP
  have hD : va_D (fun q : Nat => s.heap.size ≤ q) [(a0, .inr (9, [.null, .null, .null, .null, .null, .null, .null, .null, .null, .null, .null]))] := hD
  refine lv_dup hx hb dL_law_3 rfl ?_
  refine aftW_v (wa := [(a0, .inr (9, [.null, .null, .null, .null, .null, .null, .null, .null, .null, .null, .null]))]) (wb := []) (va_runI (As := []) (rest := [.ref a0]) ⟨hx, hb, hml, hown, hts⟩ (c_X9_init a0 _) (cwI 0 hts gL_law_X9_init rfl rfl rfl (hts (.initialized RX9) (by decide +kernel)) (hts (.methodLink RL 9 yX9_init) (by decide +kernel)) (hts (.instanceMethod yX9_init) (by decide +kernel)) rfl (by decide +kernel) ⟨Nat.le_of_ble_eq_true rfl, Nat.le_of_ble_eq_true rfl⟩) (preWS (wb := []) (List.Perm.refl _) hK hP hD) rfl rfl hl.1 rfl (lv_room (Nat.le_of_ble_eq_true rfl)) dL_law_4 ⟨Nat.le_of_ble_eq_true rfl, Nat.le_of_ble_eq_true rfl⟩) (List.Perm.refl _) hP hD hS hA (fun uu9 H locs hw hP hD hS => ?_)
  obtain ⟨ad, ba, ka, v1⟩ := uu9
  obtain ⟨hw0, hw1⟩ : ad 0 0 = a0 ∧ ∀ f j, f < 7 → j < 7 → v1 f j = setV (fun _ => 0) 0 f j := hw
  rw [List.append_nil] at hP hD
  have hP : va_P G vwCl (xW cI cJ cZ cS ad ba ka (((fun _ => 0), 0, 0, (nI 0), (nI 0), (nI 0), (fun _ => 0), (fun _ => 0), 0, 0, (fun _ => 0), (fun _ => 0), 0, 0, v1, (nI 0), (lN 0), (fun _ _ => nI 0), (nI 0), (lN 0), 0, 0, (fun _ _ _ => nI 0), (fun _ => nI 0), (fun _ => lN 0), (fun _ => 0), (fun _ _ _ => nI 0), (fun _ => nI 0), (fun _ => lN 0), (fun _ => 0), (fun _ => 0), (fun _ => 0), 0, (fun _ => 0), (fun _ => 0), 1, (fun _ => 0), (fun _ => 0), (fun _ => 0)) : XS)) _ := hP
  have hD : va_D (fun q : Nat => s.heap.size ≤ q) (xW cI cJ cZ cS ad ba ka (((fun _ => 0), 0, 0, (nI 0), (nI 0), (nI 0), (fun _ => 0), (fun _ => 0), 0, 0, (fun _ => 0), (fun _ => 0), 0, 0, v1, (nI 0), (lN 0), (fun _ _ => nI 0), (nI 0), (lN 0), 0, 0, (fun _ _ _ => nI 0), (fun _ => nI 0), (fun _ => lN 0), (fun _ => 0), (fun _ _ _ => nI 0), (fun _ => nI 0), (fun _ => lN 0), (fun _ => 0), (fun _ => 0), (fun _ => 0), 0, (fun _ => 0), (fun _ => 0), 1, (fun _ => 0), (fun _ => 0), (fun _ => 0)) : XS)) := hD
  rw [← hw0]
  refine lv_astore_n (lv' := [(1, .ref (ad 0 0)), (0, .ref b)]) hx hb dL_law_7 rfl hl (by decide) rfl (fun ls hl => ?_)
  have hR := Rel_0 hw1
  generalize (((fun _ => 0), 0, 0, (nI 0), (nI 0), (nI 0), (fun _ => 0), (fun _ => 0), 0, 0, (fun _ => 0), (fun _ => 0), 0, 0, v1, (nI 0), (lN 0), (fun _ _ => nI 0), (nI 0), (lN 0), 0, 0, (fun _ _ _ => nI 0), (fun _ => nI 0), (fun _ => lN 0), (fun _ => 0), (fun _ _ _ => nI 0), (fun _ => nI 0), (fun _ => lN 0), (fun _ => 0), (fun _ => 0), (fun _ => 0), 0, (fun _ => 0), (fun _ => 0), 1, (fun _ => 0), (fun _ => 0), (fun _ => 0)) : XS) = zx at hP hD hR
  refine va_new (D := G) (ci := 10) (fs := [.int (nI 0), .null, .int (nI 0), .int (nI 0), .int (nI 0), .null, .int (nI 0), .null, .int (nI 0), .int (nI 0), .null, .null, .null, .long (lN 0), .null, .null, .int (nI 0), .null, .null, .null, .int (nI 0), .null, .null, .null, .null, .long (lN 0), .null, .null, .null, .null, .null]) (C := RX10) (T := TX10) (N := 31) hx hb hts inlX10 tyX10 tyX10_ok hown (hts (.classLink RL 10 RX10) (by decide +kernel)) (hts (.instantiable RX10 31) (by decide +kernel)) (hts (.initialized RX10) (by decide +kernel)) hK.1 hP hD hS hA rfl (by intro j hj; rcases (show j = 0 ∨ j = 1 ∨ j = 2 ∨ j = 3 ∨ j = 4 ∨ j = 5 ∨ j = 6 ∨ j = 7 ∨ j = 8 ∨ j = 9 ∨ j = 10 ∨ j = 11 ∨ j = 12 ∨ j = 13 ∨ j = 14 ∨ j = 15 ∨ j = 16 ∨ j = 17 ∨ j = 18 ∨ j = 19 ∨ j = 20 ∨ j = 21 ∨ j = 22 ∨ j = 23 ∨ j = 24 ∨ j = 25 ∨ j = 26 ∨ j = 27 ∨ j = 28 ∨ j = 29 ∨ j = 30 by omega) with rfl | rfl | rfl | rfl | rfl | rfl | rfl | rfl | rfl | rfl | rfl | rfl | rfl | rfl | rfl | rfl | rfl | rfl | rfl | rfl | rfl | rfl | rfl | rfl | rfl | rfl | rfl | rfl | rfl | rfl | rfl <;> rfl) (Nat.le_of_ble_eq_true rfl) (Nat.le_of_ble_eq_true rfl) dL_law_8 (fun a1 H hP hD hS => ?_)
  refine lv_dup hx hb dL_law_11 rfl ?_
  refine aftW_v (wa := [(a1, .inr (10, [.int (nI 0), .null, .int (nI 0), .int (nI 0), .int (nI 0), .null, .int (nI 0), .null, .int (nI 0), .int (nI 0), .null, .null, .null, .long (lN 0), .null, .null, .int (nI 0), .null, .null, .null, .int (nI 0), .null, .null, .null, .null, .long (lN 0), .null, .null, .null, .null, .null]))]) (wb := xW cI cJ cZ cS ad ba ka zx) (va_runI (As := []) (rest := [.ref a1]) ⟨hx, hb, hml, hown, hts⟩ (c_X10_init a1 _) (cwI 0 hts gL_law_X10_init rfl rfl rfl (hts (.initialized RX10) (by decide +kernel)) (hts (.methodLink RL 12 yX10_init) (by decide +kernel)) (hts (.instanceMethod yX10_init) (by decide +kernel)) rfl (by decide +kernel) ⟨Nat.le_of_ble_eq_true rfl, Nat.le_of_ble_eq_true rfl⟩) (preWS List.perm_append_comm hK hP hD) rfl rfl hl.1 rfl (lv_room (Nat.le_of_ble_eq_true rfl)) dL_law_12 ⟨Nat.le_of_ble_eq_true rfl, Nat.le_of_ble_eq_true rfl⟩) List.perm_append_comm hP hD hS hA (fun g H locs hw hP hD hS => ?_)
  have hw : g 0 = a1 := hw
  have hP := va_P_perm List.perm_append_comm hP
  have hD := va_D_perm List.perm_append_comm hD
  have hP : va_P G vwCl (xW cI cJ cZ cS ad ba ka zx ++ mW cI cJ cZ g ((0, 0, 0, 0, 0, 0, 0, 0, (lN 0), (lN 0), (fun _ => 0), (fun _ => 0), (fun _ => 0), (fun _ => 0), (fun _ => 0), (fun _ => nI 0), (fun _ => nI 0), (fun _ => lN 0), (fun _ => nI 0), (fun _ => lN 0), (fun _ => 0), (fun _ => 0), (fun _ => 0), (fun _ => 0), (fun _ => nI 0), (fun _ => nI 0), (fun _ => 0), (fun _ => 0), (fun _ => 0), (fun _ => 0)) : MS)) _ := hP
  have hD : va_D (fun q : Nat => s.heap.size ≤ q) (xW cI cJ cZ cS ad ba ka zx ++ mW cI cJ cZ g ((0, 0, 0, 0, 0, 0, 0, 0, (lN 0), (lN 0), (fun _ => 0), (fun _ => 0), (fun _ => 0), (fun _ => 0), (fun _ => 0), (fun _ => nI 0), (fun _ => nI 0), (fun _ => lN 0), (fun _ => nI 0), (fun _ => lN 0), (fun _ => 0), (fun _ => 0), (fun _ => 0), (fun _ => 0), (fun _ => nI 0), (fun _ => nI 0), (fun _ => 0), (fun _ => 0), (fun _ => 0), (fun _ => 0)) : MS)) := hD
  rw [← hw]
  refine lv_astore_n (lv' := [(2, .ref (g 0)), (1, .ref (ad 0 0)), (0, .ref b)]) hx hb dL_law_15 rfl hl (by decide) rfl (fun ls hl => ?_)
  refine lv_iconst (v := nI 0) hx hb dL_law_16 (by decide) ?_
  refine lv_istore_n (lv' := [(3, .int (nI 0)), (2, .ref (g 0)), (1, .ref (ad 0 0)), (0, .ref b)]) hx hb dL_law_17 rfl hl (by decide) rfl (fun ls hl => ?_)
  exact law_loop hC (L + 1) 0 (by omega) (by omega) zx _ _ _ ls hP hD hS hR (lv_sub hl [3, 2, 1, 0] rfl)
