/-! classes Chances, Rows -/
def ArmyOk (kd tn : Nat → Nat) : Prop := (∀ k, k < 7 → kd k < 4) ∧ (∀ i, i < 175 → tn i < 10) ∧ ∀ k u, k < 7 → u < 5 → sumN (slT tn k u) 5 ≤ 10
def nextP (tn kd : Nat → Nat) (k : Nat) (pa : Nat → Nat) (w : Nat) : Nat := sumN (fun u => pa u * wayT tn k u (turnN (kd k) w)) 5
def spP (tn kd : Nat → Nat) (f o : Nat) : Nat → Nat → Nat
  | 0 => fun w => if w = turnN (kd f) o then 1 else 0
  | n + 1 => nextP tn kd (f + n + 1) (spP tn kd f o n)
theorem turnN_lt {kk o : Nat} (h : o < 5) : turnN kk o < 5 := by
  unfold turnN
  split
  · split
    · omega
    · split <;> omega
  · exact h
theorem turnN_inv {kk o : Nat} : turnN kk (turnN kk o) = o := by
  unfold turnN
  by_cases h : kk = 2
  · simp only [h, if_true]
    by_cases h2 : o = 2
    · simp [h2]
    · by_cases h3 : o = 3
      · simp [h3]
      · simp [h2, h3]
  · simp only [h, if_false]
theorem wayT_le {tn : Nat → Nat} {k u v : Nat} (h : sumN (slT tn k u) 5 ≤ 10) (h2 : slT tn k u v < 10) : wayT tn k u v ≤ 10 := by
  unfold wayT
  split <;> omega
theorem sumN_congr {f g : Nat → Nat} : ∀ {n : Nat}, (∀ i, i < n → f i = g i) → sumN f n = sumN g n
  | 0, _ => rfl
  | n + 1, h => by
    show sumN f n + f n = sumN g n + g n
    rw [sumN_congr (fun i hi => h i (by omega)), h n (by omega)]
theorem nextP_congr {tn kd : Nat → Nat} {k w : Nat} {p q : Nat → Nat} (h : ∀ w, w < 5 → p w = q w) : nextP tn kd k p w = nextP tn kd k q w := by
  unfold nextP
  exact sumN_congr (fun i hi => by rw [h i hi])
theorem nextP_up {tn kd : Nat → Nat} {k v : Nat} {pa o : Nat → Nat} (hv : v < 5) (h : ∀ w, w < 5 → turnN (kd k) w < v → o w = nextP tn kd k pa w) : ∀ w, w < 5 → turnN (kd k) w < v + 1 → va_up o (turnN (kd k) v) (sumN (fun u => pa u * wayT tn k u v) 5) w = nextP tn kd k pa w := by
  intro w hw hlt
  by_cases e : w = turnN (kd k) v
  · rw [e, va_up_self]
    unfold nextP
    rw [turnN_inv]
  · rw [va_up_ne _ _ e]
    refine h w hw ?_
    rcases Nat.lt_or_ge (turnN (kd k) w) v with q | q
    · exact q
    · exact absurd (by rw [show v = turnN (kd k) w by omega, turnN_inv]) e
theorem spP_0 {tn kd : Nat → Nat} {f o : Nat} {q : Nat → Nat} (h : ∀ j, j < 5 → q j = 0) : ∀ w, w < 5 → va_up q (turnN (kd f) o) 1 w = spP tn kd f o 0 w := by
  intro w hw
  show _ = if w = turnN (kd f) o then 1 else 0
  by_cases e : w = turnN (kd f) o
  · rw [if_pos e, e, va_up_self]
  · rw [if_neg e, va_up_ne _ _ e, h w hw]
def arrU (tn : Nat → Nat) (k : Nat) (en : Nat → Nat) (v u : Nat) : Nat := if 0 < wayT tn k u v then en u else 0
noncomputable def pI (P : Prop) (a b : Nat) : Nat := @ite Nat P (Classical.propDecidable P) a b
theorem pI_t {P : Prop} {a b : Nat} (h : P) : pI P a b = a := by unfold pI; rw [if_pos h]
theorem pI_f {P : Prop} {a b : Nat} (h : ¬ P) : pI P a b = b := by unfold pI; rw [if_neg h]
theorem pI_iff {P P' : Prop} {a b : Nat} (h : P ↔ P') : pI P a b = pI P' a b := by rw [show P = P' from propext h]
def TrOk (tr tq td : Nat → Nat) (tc : Nat) : Prop := ∀ i, i < tc → tr i < 7 ∧ tq i < 5 ∧ td i < 2
def arrN (tn : Nat → Nat) (k : Nat) (en : Nat → Nat) (v : Nat) : Nat := sumN (arrU tn k en v) 5
noncomputable def nextR (tn kd tr tq td : Nat → Nat) (tc k : Nat) (en : Nat → Nat) (w : Nat) : Nat := pI (alw tr tq td tc k w) (arrN tn k en (turnN (kd k) w)) 0
noncomputable def rowsP (tn kd tr tq td : Nat → Nat) (tc o : Nat) : Nat → Nat → Nat
  | 0 => fun w => pI (w = turnN (kd 0) o ∧ alw tr tq td tc 0 w) 1 0
  | n + 1 => nextR tn kd tr tq td tc (n + 1) (rowsP tn kd tr tq td tc o n)
noncomputable def cntN (tn kd tr tq td : Nat → Nat) (tc rk o : Nat) : Nat := if rk = 0 then 0 else sumN (rowsP tn kd tr tq td tc o (rk - 1)) 5
theorem arrN_congr {tn : Nat → Nat} {k v : Nat} {p q : Nat → Nat} (h : ∀ w, w < 5 → p w = q w) : arrN tn k p v = arrN tn k q v := by
  unfold arrN
  exact sumN_congr (fun i hi => by unfold arrU; rw [h i hi])
theorem nextR_congr {tn kd tr tq td : Nat → Nat} {tc k w : Nat} {p q : Nat → Nat} (_ : 0 = 0 ∨ w < 5) (h : ∀ w, w < 5 → p w = q w) : nextR tn kd tr tq td tc k p w = nextR tn kd tr tq td tc k q w := by
  unfold nextR
  rw [arrN_congr h]
theorem nextR_upT {tn kd tr tq td : Nat → Nat} {tc k v : Nat} {en o : Nat → Nat} (hv : v < 5) (hc : alw tr tq td tc k (turnN (kd k) v)) (h : ∀ w, w < 5 → turnN (kd k) w < v → o w = nextR tn kd tr tq td tc k en w) : ∀ w, w < 5 → turnN (kd k) w < v + 1 → va_up o (turnN (kd k) v) (arrN tn k en v) w = nextR tn kd tr tq td tc k en w := by
  intro w hw hlt
  by_cases e : w = turnN (kd k) v
  · rw [e, va_up_self, nextR, turnN_inv, pI_t hc]
  · rw [va_up_ne _ _ e]
    refine h w hw ?_
    rcases Nat.lt_or_ge (turnN (kd k) w) v with q | q
    · exact q
    · exact absurd (by rw [show v = turnN (kd k) w by omega, turnN_inv]) e
theorem nextR_upF {tn kd tr tq td : Nat → Nat} {tc k v : Nat} {en o : Nat → Nat} (hv : v < 5) (hc : ¬ alw tr tq td tc k (turnN (kd k) v)) (h : ∀ w, w < 5 → turnN (kd k) w < v → o w = nextR tn kd tr tq td tc k en w) : ∀ w, w < 5 → turnN (kd k) w < v + 1 → va_up o (turnN (kd k) v) 0 w = nextR tn kd tr tq td tc k en w := by
  intro w hw hlt
  by_cases e : w = turnN (kd k) v
  · rw [e, va_up_self, nextR, turnN_inv, pI_f hc]
  · rw [va_up_ne _ _ e]
    refine h w hw ?_
    rcases Nat.lt_or_ge (turnN (kd k) w) v with q | q
    · exact q
    · exact absurd (by rw [show v = turnN (kd k) w by omega, turnN_inv]) e
theorem rowsP_0 {tn kd tr tq td : Nat → Nat} {tc o z : Nat} {q : Nat → Nat} (h : ∀ j, j < 5 → q j = 0) (hz : z = pI (alw tr tq td tc 0 (turnN (kd 0) o)) 1 0) : ∀ w, w < 5 → va_up q (turnN (kd 0) o) z w = rowsP tn kd tr tq td tc o 0 w := by
  intro w hw
  show _ = pI (w = turnN (kd 0) o ∧ alw tr tq td tc 0 w) 1 0
  by_cases e : w = turnN (kd 0) o
  · rw [e, va_up_self, hz]
    exact pI_iff ⟨fun k => ⟨rfl, k⟩, fun k => k.2⟩
  · rw [va_up_ne _ _ e, h w hw, pI_f (fun k => e k.1)]
set_option maxHeartbeats 4000000 in
set_option maxRecDepth 100000 in
theorem c_X2_goOverWay {l : Launch} {G : va_G} {cI cJ cZ cS : ClassId} (g : Nat → Nat) (pa : Nat → Nat) (on : Nat → Nat) (wh : Nat) (h : Nat → Nat) (kd : Nat → Nat) (tn : Nat → Nat) (rk : Nat) (sl : Nat) (k : Nat) (hok : ArmyOk kd tn) (hk : k < 7) : CV l G (kT cI cJ cZ cS) (S := (Nat → Nat) × (Nat → Nat)) yX2_goOverWay wsX2_goOverWay { frames := 4, cells := 0, slots := 0, locals := 92 } [.ref (g 0), .ref (h 0), .int (nI k)] [(g 0, .inr (2, [.ref (g 1), .ref (g 2), .long (lN wh)])), (g 1, .inl (cJ, 5, .inr (.inl (fun i9 => lN (pa i9))))), (g 2, .inl (cJ, 5, .inr (.inl (fun i9 => lN (on i9))))), (h 0, .inr (1, [.ref (h 1), .ref (h 2), .int (nI rk), .int (nI sl)])), (h 1, .inl (cI, 7, .inl (fun i9 => nI (kd i9)))), (h 2, .inl (cI, 175, .inl (fun i9 => nI (tn i9))))] (fun uu9 => match uu9 with | (p1, o1) => ∀ w, w < 5 → p1 w = nextP tn kd k pa w) (fun uu9 => match uu9 with | (p1, o1) => [(g 0, .inr (2, [.ref (g 1), .ref (g 2), .long (lN wh)])), (g 1, .inl (cJ, 5, .inr (.inl (fun i9 => lN (p1 i9))))), (g 2, .inl (cJ, 5, .inr (.inl (fun i9 => lN (o1 i9))))), (h 0, .inr (1, [.ref (h 1), .ref (h 2), .int (nI rk), .int (nI sl)])), (h 1, .inl (cI, 7, .inl (fun i9 => nI (kd i9)))), (h 2, .inl (cI, 175, .inl (fun i9 => nI (tn i9))))]) := by
  refine CV.of (cc := cX2_goOverWay) (maxL := 7) (by decide) rfl (Nat.le_of_ble_eq_true rfl) ?_
  intro p e s m below meth c A ls hB
  obtain ⟨hx, hb, hml, hr, hts, hown, hlocks, hmn, hK, hP, hD, hS, hA, hl⟩ := hB
  have hP : va_P G vwCl [(g 0, .inr (2, [.ref (g 1), .ref (g 2), .long (lN wh)])), (g 1, .inl (cJ, 5, .inr (.inl (fun i9 => lN (pa i9))))), (g 2, .inl (cJ, 5, .inr (.inl (fun i9 => lN (on i9))))), (h 0, .inr (1, [.ref (h 1), .ref (h 2), .int (nI rk), .int (nI sl)])), (h 1, .inl (cI, 7, .inl (fun i9 => nI (kd i9)))), (h 2, .inl (cI, 175, .inl (fun i9 => nI (tn i9))))] s.heap := hP
  have hD : va_D A [(g 0, .inr (2, [.ref (g 1), .ref (g 2), .long (lN wh)])), (g 1, .inl (cJ, 5, .inr (.inl (fun i9 => lN (pa i9))))), (g 2, .inl (cJ, 5, .inr (.inl (fun i9 => lN (on i9))))), (h 0, .inr (1, [.ref (h 1), .ref (h 2), .int (nI rk), .int (nI sl)])), (h 1, .inl (cI, 7, .inl (fun i9 => nI (kd i9)))), (h 2, .inl (cI, 175, .inl (fun i9 => nI (tn i9))))] := hD
  have hl : lv_has ls 7 [(0, .ref (g 0)), (1, .ref (h 0)), (2, .int (nI k))] := hl
  have k_0 := hts (.fieldLink RX2 15 "HearsayMarch$Chances" "onward" "[J") (by decide +kernel)
  have k_1 := hts (.fieldLink RX2 9 "HearsayMarch$Chances" "parts" "[J") (by decide +kernel)
  have k_2 := hts (.methodLink RX2 38 arraycopyName) (by decide +kernel)
  have k_3 := hts (.native arraycopyName) (by decide +kernel)
  have k_4 := hts (.static arraycopyName) (by decide +kernel)
  have k_5 := hts (.initialized "java/lang/System") (by decide +kernel)
  have hin2 : ∀ w ∈ wsX20, w ∈ wsX2_goOverWay := by decide +kernel
  refine lv_iconst (v := nI 0) hx hb dX2_goOverWay_0 (by decide) ?_
  refine lv_istore_n (lv' := [(3, .int (nI 0)), (0, .ref (g 0)), (1, .ref (h 0)), (2, .int (nI k))]) hx hb dX2_goOverWay_1 rfl hl (by decide) rfl (fun ls hl => ?_)
  refine loopW (σ := Nat × (Nat → Nat)) 2 (fun xx9 H locs ls => match xx9 with | (v, o) => (v ≤ 5) ∧ (∀ w, w < 5 → turnN (kd k) w < v → o w = nextP tn kd k pa w) ∧ va_P G vwCl [(g 0, .inr (2, [.ref (g 1), .ref (g 2), .long (lN wh)])), (g 1, .inl (cJ, 5, .inr (.inl (fun i9 => lN (pa i9))))), (g 2, .inl (cJ, 5, .inr (.inl (fun i9 => lN (o i9))))), (h 0, .inr (1, [.ref (h 1), .ref (h 2), .int (nI rk), .int (nI sl)])), (h 1, .inl (cI, 7, .inl (fun i9 => nI (kd i9)))), (h 2, .inl (cI, 175, .inl (fun i9 => nI (tn i9))))] H ∧ va_D A [(g 0, .inr (2, [.ref (g 1), .ref (g 2), .long (lN wh)])), (g 1, .inl (cJ, 5, .inr (.inl (fun i9 => lN (pa i9))))), (g 2, .inl (cJ, 5, .inr (.inl (fun i9 => lN (o i9))))), (h 0, .inr (1, [.ref (h 1), .ref (h 2), .int (nI rk), .int (nI sl)])), (h 1, .inl (cI, 7, .inl (fun i9 => nI (kd i9)))), (h 2, .inl (cI, 175, .inl (fun i9 => nI (tn i9))))] ∧ va_S A s.heap H locs ∧ lv_has ls 7 [(3, .int (nI v)), (0, .ref (g 0)), (1, .ref (h 0)), (2, .int (nI k))]) (fun xx9 => match xx9 with | (v, o) => []) (fun xx9 => match xx9 with | (v, o) => 5 - v) ?_ (0, on) ⟨by first | assumption | omega | (simp; done), by first | assumption | omega | (simp; done), hP.sub [0, 1, 2, 3, 4, 5] rfl, hD.sub [0, 1, 2, 3, 4, 5] (by decide) rfl, hS, lv_sub hl [0, 1, 2, 3] rfl⟩
  intro xx9 H locs ls hI ih_2
  obtain ⟨v, o⟩ := xx9
  obtain ⟨hv, ho, hP, hD, hS, hl⟩ := hI
  have hv : v ≤ 5 := hv
  have ho : ∀ w, w < 5 → turnN (kd k) w < v → o w = nextP tn kd k pa w := ho
  have hP : va_P G vwCl [(g 0, .inr (2, [.ref (g 1), .ref (g 2), .long (lN wh)])), (g 1, .inl (cJ, 5, .inr (.inl (fun i9 => lN (pa i9))))), (g 2, .inl (cJ, 5, .inr (.inl (fun i9 => lN (o i9))))), (h 0, .inr (1, [.ref (h 1), .ref (h 2), .int (nI rk), .int (nI sl)])), (h 1, .inl (cI, 7, .inl (fun i9 => nI (kd i9)))), (h 2, .inl (cI, 175, .inl (fun i9 => nI (tn i9))))] _ := hP
  have hD : va_D A [(g 0, .inr (2, [.ref (g 1), .ref (g 2), .long (lN wh)])), (g 1, .inl (cJ, 5, .inr (.inl (fun i9 => lN (pa i9))))), (g 2, .inl (cJ, 5, .inr (.inl (fun i9 => lN (o i9))))), (h 0, .inr (1, [.ref (h 1), .ref (h 2), .int (nI rk), .int (nI sl)])), (h 1, .inl (cI, 7, .inl (fun i9 => nI (kd i9)))), (h 2, .inl (cI, 175, .inl (fun i9 => nI (tn i9))))] := hD
  have hl : lv_has ls 7 [(3, .int (nI v)), (0, .ref (g 0)), (1, .ref (h 0)), (2, .int (nI k))] := hl
  refine lv_iload_n hx hb dX2_goOverWay_2 rfl (lv_at hl 0 rfl) ?_
  refine lv_iconst (v := nI 5) hx hb dX2_goOverWay_3 (by decide) ?_
  refine lv_icmp_ge (tgt := 66) hx hb dX2_goOverWay_4 (by decide) (fun c_4 => ?_) (fun c_4 => ?_)
  · skip
    have c_4 := n_geT c_4 (by omega) (by omega)
    refine lv_aload_n hx hb dX2_goOverWay_66 rfl (lv_at hl 1 rfl) ?_
    refine va_get (D := G) (ci := 2) (v := .ref (g 2)) (C := RX2) (T := TX2) (N := 3) hx hb hts hin2 hown hK.1 hP 0 rfl rfl 1 (by decide) k_0 (fun _ h9 => h9) rfl dX2_goOverWay_67 ?_
    refine lv_iconst (v := nI 0) hx hb dX2_goOverWay_70 (by decide) ?_
    refine lv_aload_n hx hb dX2_goOverWay_71 rfl (lv_at hl 1 rfl) ?_
    refine va_get (D := G) (ci := 2) (v := .ref (g 1)) (C := RX2) (T := TX2) (N := 3) hx hb hts hin2 hown hK.1 hP 0 rfl rfl 0 (by decide) k_1 (fun _ h9 => h9) rfl dX2_goOverWay_72 ?_
    refine lv_iconst (v := nI 0) hx hb dX2_goOverWay_75 (by decide) ?_
    refine lv_iconst (v := nI 5) hx hb dX2_goOverWay_76 (by decide) ?_
    refine va_copyl hx hb (by rw [hml]; exact hl.1.symm) hown k_2 k_3 k_4 k_5 hK.1 hP hD hS 2 1 1 1 rfl rfl rfl rfl rfl (by decide) (by decide) (by decide) (by decide) (by decide) (fun i hi => rfl) (Nat.le_of_ble_eq_true rfl) (Nat.le_of_ble_eq_true rfl) dX2_goOverWay_77 (fun H locs hP hD hS => ?_)
    have hP : va_P G vwCl [(g 0, .inr (2, [.ref (g 1), .ref (g 2), .long (lN wh)])), (g 1, .inl (cJ, 5, .inr (.inl (va_cpy (fun i9 => lN (o i9)) (fun i9 => lN (pa i9)) 0 0 5)))), (g 2, .inl (cJ, 5, .inr (.inl (fun i9 => lN (o i9))))), (h 0, .inr (1, [.ref (h 1), .ref (h 2), .int (nI rk), .int (nI sl)])), (h 1, .inl (cI, 7, .inl (fun i9 => nI (kd i9)))), (h 2, .inl (cI, 175, .inl (fun i9 => nI (tn i9))))] _ := hP
    have hD : va_D A [(g 0, .inr (2, [.ref (g 1), .ref (g 2), .long (lN wh)])), (g 1, .inl (cJ, 5, .inr (.inl (va_cpy (fun i9 => lN (o i9)) (fun i9 => lN (pa i9)) 0 0 5)))), (g 2, .inl (cJ, 5, .inr (.inl (fun i9 => lN (o i9))))), (h 0, .inr (1, [.ref (h 1), .ref (h 2), .int (nI rk), .int (nI sl)])), (h 1, .inl (cI, 7, .inl (fun i9 => nI (kd i9)))), (h 2, .inl (cI, 175, .inl (fun i9 => nI (tn i9))))] := hD
    rw [cpy_natL] at hP hD
    have hP : va_P G vwCl [(g 0, .inr (2, [.ref (g 1), .ref (g 2), .long (lN wh)])), (g 1, .inl (cJ, 5, .inr (.inl (fun i9 => lN ((va_cpy o pa 0 0 5) i9))))), (g 2, .inl (cJ, 5, .inr (.inl (fun i9 => lN (o i9))))), (h 0, .inr (1, [.ref (h 1), .ref (h 2), .int (nI rk), .int (nI sl)])), (h 1, .inl (cI, 7, .inl (fun i9 => nI (kd i9)))), (h 2, .inl (cI, 175, .inl (fun i9 => nI (tn i9))))] _ := hP
    have hD : va_D A [(g 0, .inr (2, [.ref (g 1), .ref (g 2), .long (lN wh)])), (g 1, .inl (cJ, 5, .inr (.inl (fun i9 => lN ((va_cpy o pa 0 0 5) i9))))), (g 2, .inl (cJ, 5, .inr (.inl (fun i9 => lN (o i9))))), (h 0, .inr (1, [.ref (h 1), .ref (h 2), .int (nI rk), .int (nI sl)])), (h 1, .inl (cI, 7, .inl (fun i9 => nI (kd i9)))), (h 2, .inl (cI, 175, .inl (fun i9 => nI (tn i9))))] := hD
    exact endV hx hb hr hlocks ((va_cpy o pa 0 0 5, o)) (fun w hw => by rw [pk_cpy_in (by omega) (by omega), Nat.sub_zero, Nat.zero_add]; exact ho w hw (by have := turnN_lt (kk := kd k) (o := w) hw; omega)) (hP.sub [0, 1, 2, 3, 4, 5] rfl) (hD.sub [0, 1, 2, 3, 4, 5] (by decide) rfl) hS dX2_goOverWay_80
  · skip
    have c_4 := n_geF c_4 (by omega) (by omega)
    refine lv_lconst (v := lN 0) hx hb dX2_goOverWay_7 (by decide) ?_
    refine lv_lstore (lv' := [(4, .long (lN 0)), (3, .int (nI v)), (0, .ref (g 0)), (1, .ref (h 0)), (2, .int (nI k))]) hx hb dX2_goOverWay_8 hl (by decide) rfl (fun ls hl => ?_)
    refine lv_iconst (v := nI 0) hx hb dX2_goOverWay_10 (by decide) ?_
    refine lv_istore (lv' := [(6, .int (nI 0)), (4, .long (lN 0)), (3, .int (nI v)), (0, .ref (g 0)), (1, .ref (h 0)), (2, .int (nI k))]) hx hb dX2_goOverWay_11 hl (by decide) rfl (fun ls hl => ?_)
    refine loopW (σ := Nat) 13 (fun (u : Nat) H locs ls => (u ≤ 5) ∧ va_P G vwCl [(g 0, .inr (2, [.ref (g 1), .ref (g 2), .long (lN wh)])), (g 1, .inl (cJ, 5, .inr (.inl (fun i9 => lN (pa i9))))), (g 2, .inl (cJ, 5, .inr (.inl (fun i9 => lN (o i9))))), (h 0, .inr (1, [.ref (h 1), .ref (h 2), .int (nI rk), .int (nI sl)])), (h 1, .inl (cI, 7, .inl (fun i9 => nI (kd i9)))), (h 2, .inl (cI, 175, .inl (fun i9 => nI (tn i9))))] H ∧ va_D A [(g 0, .inr (2, [.ref (g 1), .ref (g 2), .long (lN wh)])), (g 1, .inl (cJ, 5, .inr (.inl (fun i9 => lN (pa i9))))), (g 2, .inl (cJ, 5, .inr (.inl (fun i9 => lN (o i9))))), (h 0, .inr (1, [.ref (h 1), .ref (h 2), .int (nI rk), .int (nI sl)])), (h 1, .inl (cI, 7, .inl (fun i9 => nI (kd i9)))), (h 2, .inl (cI, 175, .inl (fun i9 => nI (tn i9))))] ∧ va_S A s.heap H locs ∧ lv_has ls 7 [(6, .int (nI u)), (4, .long (lN (sumN (fun u9 => pa u9 * wayT tn k u9 v) u))), (3, .int (nI v)), (0, .ref (g 0)), (1, .ref (h 0)), (2, .int (nI k))]) (fun (u : Nat) => []) (fun (u : Nat) => 5 - u) ?_ 0 ⟨by first | assumption | omega | (simp; done), hP.sub [0, 1, 2, 3, 4, 5] rfl, hD.sub [0, 1, 2, 3, 4, 5] (by decide) rfl, hS, lv_sub hl [0, 1, 2, 3, 4, 5] rfl⟩
    intro xx9 H locs ls hI ih_13
    obtain ⟨u, rfl⟩ : ∃ z, z = xx9 := ⟨_, rfl⟩
    obtain ⟨hu, hP, hD, hS, hl⟩ := hI
    have hu : u ≤ 5 := hu
    have hP : va_P G vwCl [(g 0, .inr (2, [.ref (g 1), .ref (g 2), .long (lN wh)])), (g 1, .inl (cJ, 5, .inr (.inl (fun i9 => lN (pa i9))))), (g 2, .inl (cJ, 5, .inr (.inl (fun i9 => lN (o i9))))), (h 0, .inr (1, [.ref (h 1), .ref (h 2), .int (nI rk), .int (nI sl)])), (h 1, .inl (cI, 7, .inl (fun i9 => nI (kd i9)))), (h 2, .inl (cI, 175, .inl (fun i9 => nI (tn i9))))] _ := hP
    have hD : va_D A [(g 0, .inr (2, [.ref (g 1), .ref (g 2), .long (lN wh)])), (g 1, .inl (cJ, 5, .inr (.inl (fun i9 => lN (pa i9))))), (g 2, .inl (cJ, 5, .inr (.inl (fun i9 => lN (o i9))))), (h 0, .inr (1, [.ref (h 1), .ref (h 2), .int (nI rk), .int (nI sl)])), (h 1, .inl (cI, 7, .inl (fun i9 => nI (kd i9)))), (h 2, .inl (cI, 175, .inl (fun i9 => nI (tn i9))))] := hD
    have hl : lv_has ls 7 [(6, .int (nI u)), (4, .long (lN (sumN (fun u9 => pa u9 * wayT tn k u9 v) u))), (3, .int (nI v)), (0, .ref (g 0)), (1, .ref (h 0)), (2, .int (nI k))] := hl
    refine lv_iload hx hb dX2_goOverWay_13 (lv_at hl 0 rfl) ?_
    refine lv_iconst (v := nI 5) hx hb dX2_goOverWay_15 (by decide) ?_
    refine lv_icmp_ge (tgt := 47) hx hb dX2_goOverWay_16 (by decide) (fun c_16 => ?_) (fun c_16 => ?_)
    · skip
      have c_16 := n_geT c_16 (by omega) (by omega)
      refine lv_aload_n hx hb dX2_goOverWay_47 rfl (lv_at hl 3 rfl) ?_
      refine va_get (D := G) (ci := 2) (v := .ref (g 2)) (C := RX2) (T := TX2) (N := 3) hx hb hts hin2 hown hK.1 hP 0 rfl rfl 1 (by decide) k_0 (fun _ h9 => h9) rfl dX2_goOverWay_48 ?_
      refine lv_aload_n hx hb dX2_goOverWay_51 rfl (lv_at hl 4 rfl) ?_
      refine lv_iload_n hx hb dX2_goOverWay_52 rfl (lv_at hl 5 rfl) ?_
      refine lv_iload_n hx hb dX2_goOverWay_53 rfl (lv_at hl 2 rfl) ?_
      have hu5 : u = 5 := by omega
      subst hu5
      refine aft_i (wr := [(g 0, .inr (2, [.ref (g 1), .ref (g 2), .long (lN wh)])), (g 1, .inl (cJ, 5, .inr (.inl (fun i9 => lN (pa i9))))), (g 2, .inl (cJ, 5, .inr (.inl (fun i9 => lN (o i9)))))]) (va_runV (As := [.int (nI k), .int (nI v)]) (rest := [.ref (g 2)]) ⟨hx, hb, hml, hown, hts⟩ (c_X1_hears (h := h) (kd := kd) (tn := tn) (rk := rk) (sl := sl) (k := k) (o := v) (hk := by first | assumption | omega | exact hok.1 _ (by omega) | exact hok.2.2 _ _ (by omega) (by omega) | exact hok.2.1) (ho := by first | assumption | omega | exact hok.1 _ (by omega) | exact hok.2.2 _ _ (by omega) (by omega) | exact hok.2.1) (hd := by first | assumption | omega | exact hok.1 _ (by omega) | exact hok.2.2 _ _ (by omega) (by omega) | exact hok.2.1) _) (cwV 2 hts gX2_goOverWay_X1_hears rfl rfl rfl (by decide +kernel) ⟨Nat.le_of_ble_eq_true rfl, Nat.le_of_ble_eq_true rfl⟩) (preV (cq := (RX1, TX1, 4)) (q0 := 3) (ci := 1) hK hP hD [3, 4, 5] rfl rfl rfl rfl) rfl rfl hl.1 rfl (lv_room (Nat.le_of_ble_eq_true rfl)) dX2_goOverWay_54 ⟨Nat.le_of_ble_eq_true rfl, Nat.le_of_ble_eq_true rfl⟩) hP hD hS hA [3, 4, 5] [0, 1, 2] rfl rfl rfl (by decide) (fun r_54 uu9 H locs hw hP hD hS => ?_)
      have hP : va_P G vwCl [(g 0, .inr (2, [.ref (g 1), .ref (g 2), .long (lN wh)])), (g 1, .inl (cJ, 5, .inr (.inl (fun i9 => lN (pa i9))))), (g 2, .inl (cJ, 5, .inr (.inl (fun i9 => lN (o i9))))), (h 0, .inr (1, [.ref (h 1), .ref (h 2), .int (nI rk), .int (nI sl)])), (h 1, .inl (cI, 7, .inl (fun i9 => nI (kd i9)))), (h 2, .inl (cI, 175, .inl (fun i9 => nI (tn i9))))] _ := hP
      have hD : va_D A [(g 0, .inr (2, [.ref (g 1), .ref (g 2), .long (lN wh)])), (g 1, .inl (cJ, 5, .inr (.inl (fun i9 => lN (pa i9))))), (g 2, .inl (cJ, 5, .inr (.inl (fun i9 => lN (o i9))))), (h 0, .inr (1, [.ref (h 1), .ref (h 2), .int (nI rk), .int (nI sl)])), (h 1, .inl (cI, 7, .inl (fun i9 => nI (kd i9)))), (h 2, .inl (cI, 175, .inl (fun i9 => nI (tn i9))))] := hD
      obtain rfl := hw
      refine top_i (y := nI (turnN (kd k) v)) rfl ?_
      refine lv_lload hx hb dX2_goOverWay_57 (lv_at hl 1 rfl) ?_
      have ht9 := turnN_lt (kk := kd k) (o := v) (by omega)
      refine lst (f' := fun i9 => lN ((va_up o (turnN (kd k) v) (sumN (fun u9 => pa u9 * wayT tn k u9 v) 5)) i9)) hx hb hK hP hD hS 2 1 rfl rfl (j := turnN (kd k) v) (by omega) (by omega) (updL_nat) dX2_goOverWay_59 (fun H locs hP hD hS => ?_)
      have hP : va_P G vwCl [(g 0, .inr (2, [.ref (g 1), .ref (g 2), .long (lN wh)])), (g 1, .inl (cJ, 5, .inr (.inl (fun i9 => lN (pa i9))))), (g 2, .inl (cJ, 5, .inr (.inl (fun i9 => lN ((va_up o (turnN (kd k) v) (sumN (fun u9 => pa u9 * wayT tn k u9 v) 5)) i9))))), (h 0, .inr (1, [.ref (h 1), .ref (h 2), .int (nI rk), .int (nI sl)])), (h 1, .inl (cI, 7, .inl (fun i9 => nI (kd i9)))), (h 2, .inl (cI, 175, .inl (fun i9 => nI (tn i9))))] _ := hP
      have hD : va_D A [(g 0, .inr (2, [.ref (g 1), .ref (g 2), .long (lN wh)])), (g 1, .inl (cJ, 5, .inr (.inl (fun i9 => lN (pa i9))))), (g 2, .inl (cJ, 5, .inr (.inl (fun i9 => lN ((va_up o (turnN (kd k) v) (sumN (fun u9 => pa u9 * wayT tn k u9 v) 5)) i9))))), (h 0, .inr (1, [.ref (h 1), .ref (h 2), .int (nI rk), .int (nI sl)])), (h 1, .inl (cI, 7, .inl (fun i9 => nI (kd i9)))), (h 2, .inl (cI, 175, .inl (fun i9 => nI (tn i9))))] := hD
      refine lv_iinc (v := nI (v + 1)) (lv' := [(3, .int (nI (v + 1))), (6, .int (nI 5)), (4, .long (lN (sumN (fun u9 => pa u9 * wayT tn k u9 v) 5))), (0, .ref (g 0)), (1, .ref (h 0)), (2, .int (nI k))]) hx hb dX2_goOverWay_60 hl (k := 2) rfl (nI_inc _ 1 1 (by decide)) (by decide) rfl (fun ls hl => ?_)
      refine lv_goto (tgt := 2) hx hb dX2_goOverWay_63 (by decide) ?_
      exact ih_2 (v + 1, va_up o (turnN (kd k) v) (sumN (fun u9 => pa u9 * wayT tn k u9 v) 5)) _ _ _ (by first | omega | (simp only []; omega) | (show _ < _; omega)) ⟨by first | assumption | omega | (simp; done), nextP_up (by omega) ho, hP.sub [0, 1, 2, 3, 4, 5] rfl, hD.sub [0, 1, 2, 3, 4, 5] (by decide) rfl, hS, lv_sub hl [0, 3, 4, 5] rfl⟩
    · skip
      have c_16 := n_geF c_16 (by omega) (by omega)
      refine lv_lload hx hb dX2_goOverWay_19 (lv_at hl 1 rfl) ?_
      refine lv_aload_n hx hb dX2_goOverWay_21 rfl (lv_at hl 3 rfl) ?_
      refine va_get (D := G) (ci := 2) (v := .ref (g 1)) (C := RX2) (T := TX2) (N := 3) hx hb hts hin2 hown hK.1 hP 0 rfl rfl 0 (by decide) k_1 (fun _ h9 => h9) rfl dX2_goOverWay_22 ?_
      refine lv_iload hx hb dX2_goOverWay_25 (lv_at hl 0 rfl) ?_
      refine lld hx hb hK hP 1 1 rfl rfl (j := u) (by omega) (by omega) dX2_goOverWay_27 ?_
      refine lv_aload_n hx hb dX2_goOverWay_28 rfl (lv_at hl 4 rfl) ?_
      refine lv_iload_n hx hb dX2_goOverWay_29 rfl (lv_at hl 5 rfl) ?_
      refine lv_iload hx hb dX2_goOverWay_30 (lv_at hl 0 rfl) ?_
      refine lv_iload_n hx hb dX2_goOverWay_32 rfl (lv_at hl 2 rfl) ?_
      have hw9 := wayT_le (hok.2.2 k u (by omega) (by omega)) (v := v) (hok.2.1 _ (by omega) : slT tn k u v < 10)
      refine aft_i (wr := [(g 0, .inr (2, [.ref (g 1), .ref (g 2), .long (lN wh)])), (g 1, .inl (cJ, 5, .inr (.inl (fun i9 => lN (pa i9))))), (g 2, .inl (cJ, 5, .inr (.inl (fun i9 => lN (o i9)))))]) (va_runV (As := [.int (nI k), .int (nI u), .int (nI v)]) (rest := [.long (lN (pa u)), .long (lN (sumN (fun u9 => pa u9 * wayT tn k u9 v) u))]) ⟨hx, hb, hml, hown, hts⟩ (c_X1_wayTenths (h := h) (kd := kd) (tn := tn) (rk := rk) (sl := sl) (k := k) (u := u) (v := v) (hk := by first | assumption | omega | exact hok.1 _ (by omega) | exact hok.2.2 _ _ (by omega) (by omega) | exact hok.2.1) (hu := by first | assumption | omega | exact hok.1 _ (by omega) | exact hok.2.2 _ _ (by omega) (by omega) | exact hok.2.1) (hv := by first | assumption | omega | exact hok.1 _ (by omega) | exact hok.2.2 _ _ (by omega) (by omega) | exact hok.2.1) (hs := by first | assumption | omega | exact hok.1 _ (by omega) | exact hok.2.2 _ _ (by omega) (by omega) | exact hok.2.1) _) (cwV 3 hts gX2_goOverWay_X1_wayTenths rfl rfl rfl (by decide +kernel) ⟨Nat.le_of_ble_eq_true rfl, Nat.le_of_ble_eq_true rfl⟩) (preV (cq := (RX1, TX1, 4)) (q0 := 3) (ci := 1) hK hP hD [3, 4, 5] rfl rfl rfl rfl) rfl rfl hl.1 rfl (lv_room (Nat.le_of_ble_eq_true rfl)) dX2_goOverWay_33 ⟨Nat.le_of_ble_eq_true rfl, Nat.le_of_ble_eq_true rfl⟩) hP hD hS hA [3, 4, 5] [0, 1, 2] rfl rfl rfl (by decide) (fun r_33 uu9 H locs hw hP hD hS => ?_)
      have hP : va_P G vwCl [(g 0, .inr (2, [.ref (g 1), .ref (g 2), .long (lN wh)])), (g 1, .inl (cJ, 5, .inr (.inl (fun i9 => lN (pa i9))))), (g 2, .inl (cJ, 5, .inr (.inl (fun i9 => lN (o i9))))), (h 0, .inr (1, [.ref (h 1), .ref (h 2), .int (nI rk), .int (nI sl)])), (h 1, .inl (cI, 7, .inl (fun i9 => nI (kd i9)))), (h 2, .inl (cI, 175, .inl (fun i9 => nI (tn i9))))] _ := hP
      have hD : va_D A [(g 0, .inr (2, [.ref (g 1), .ref (g 2), .long (lN wh)])), (g 1, .inl (cJ, 5, .inr (.inl (fun i9 => lN (pa i9))))), (g 2, .inl (cJ, 5, .inr (.inl (fun i9 => lN (o i9))))), (h 0, .inr (1, [.ref (h 1), .ref (h 2), .int (nI rk), .int (nI sl)])), (h 1, .inl (cI, 7, .inl (fun i9 => nI (kd i9)))), (h 2, .inl (cI, 175, .inl (fun i9 => nI (tn i9))))] := hD
      obtain rfl := hw
      refine top_i (y := nI (wayT tn k u v)) rfl ?_
      refine lv_i2l (v := lN (wayT tn k u v)) hx hb dX2_goOverWay_36 (nI_l (by omega)) ?_
      refine lv_lmul hx hb dX2_goOverWay_37 ?_
      refine top_l (y := lN ((pa u) * (wayT tn k u v))) (lN_mul _ _) ?_
      refine lv_ladd hx hb dX2_goOverWay_38 ?_
      refine top_l (y := lN (sumN (fun u9 => pa u9 * wayT tn k u9 v) u + ((pa u) * (wayT tn k u v)))) (lN_add _ _) ?_
      refine lv_lstore (lv' := [(4, .long (lN (sumN (fun u9 => pa u9 * wayT tn k u9 v) u + ((pa u) * (wayT tn k u v))))), (6, .int (nI u)), (3, .int (nI v)), (0, .ref (g 0)), (1, .ref (h 0)), (2, .int (nI k))]) hx hb dX2_goOverWay_39 hl (by decide) rfl (fun ls hl => ?_)
      refine lv_iinc (v := nI (u + 1)) (lv' := [(6, .int (nI (u + 1))), (4, .long (lN (sumN (fun u9 => pa u9 * wayT tn k u9 v) u + ((pa u) * (wayT tn k u v))))), (3, .int (nI v)), (0, .ref (g 0)), (1, .ref (h 0)), (2, .int (nI k))]) hx hb dX2_goOverWay_41 hl (k := 1) rfl (nI_inc _ 1 1 (by decide)) (by decide) rfl (fun ls hl => ?_)
      refine lv_goto (tgt := 13) hx hb dX2_goOverWay_44 (by decide) ?_
      exact ih_13 (u + 1) _ _ _ (by first | omega | (simp only []; omega) | (show _ < _; omega)) ⟨by first | assumption | omega | (simp; done), hP.sub [0, 1, 2, 3, 4, 5] rfl, hD.sub [0, 1, 2, 3, 4, 5] (by decide) rfl, hS, lv_sub hl [0, 1, 2, 3, 4, 5] rfl⟩

set_option maxHeartbeats 4000000 in
set_option maxRecDepth 100000 in
theorem c_X2_spread {l : Launch} {G : va_G} {cI cJ cZ cS : ClassId} (g : Nat → Nat) (pa : Nat → Nat) (on : Nat → Nat) (wh : Nat) (h : Nat → Nat) (kd : Nat → Nat) (tn : Nat → Nat) (rk : Nat) (sl : Nat) (f : Nat) (t : Nat) (o : Nat) (hok : ArmyOk kd tn) (hf : f ≤ t) (ht : t < 7) (ho : o < 5) : CV l G (kT cI cJ cZ cS) (S := (Nat → Nat) × (Nat → Nat)) yX2_spread wsX2_spread { frames := 5, cells := 0, slots := 0, locals := 118 } [.ref (g 0), .ref (h 0), .int (nI f), .int (nI t), .int (nI o)] [(g 0, .inr (2, [.ref (g 1), .ref (g 2), .long (lN wh)])), (g 1, .inl (cJ, 5, .inr (.inl (fun i9 => lN (pa i9))))), (g 2, .inl (cJ, 5, .inr (.inl (fun i9 => lN (on i9))))), (h 0, .inr (1, [.ref (h 1), .ref (h 2), .int (nI rk), .int (nI sl)])), (h 1, .inl (cI, 7, .inl (fun i9 => nI (kd i9)))), (h 2, .inl (cI, 175, .inl (fun i9 => nI (tn i9))))] (fun uu9 => match uu9 with | (p1, o1) => ∀ w, w < 5 → p1 w = spP tn kd f o (t - f) w) (fun uu9 => match uu9 with | (p1, o1) => [(g 0, .inr (2, [.ref (g 1), .ref (g 2), .long (lN (10 ^ (t - f)))])), (g 1, .inl (cJ, 5, .inr (.inl (fun i9 => lN (p1 i9))))), (g 2, .inl (cJ, 5, .inr (.inl (fun i9 => lN (o1 i9))))), (h 0, .inr (1, [.ref (h 1), .ref (h 2), .int (nI rk), .int (nI sl)])), (h 1, .inl (cI, 7, .inl (fun i9 => nI (kd i9)))), (h 2, .inl (cI, 175, .inl (fun i9 => nI (tn i9))))]) := by
  refine CV.of (cc := cX2_spread) (maxL := 6) (by decide) rfl (Nat.le_of_ble_eq_true rfl) ?_
  intro p e s m below meth c A ls hB
  obtain ⟨hx, hb, hml, hr, hts, hown, hlocks, hmn, hK, hP, hD, hS, hA, hl⟩ := hB
  have hP : va_P G vwCl [(g 0, .inr (2, [.ref (g 1), .ref (g 2), .long (lN wh)])), (g 1, .inl (cJ, 5, .inr (.inl (fun i9 => lN (pa i9))))), (g 2, .inl (cJ, 5, .inr (.inl (fun i9 => lN (on i9))))), (h 0, .inr (1, [.ref (h 1), .ref (h 2), .int (nI rk), .int (nI sl)])), (h 1, .inl (cI, 7, .inl (fun i9 => nI (kd i9)))), (h 2, .inl (cI, 175, .inl (fun i9 => nI (tn i9))))] s.heap := hP
  have hD : va_D A [(g 0, .inr (2, [.ref (g 1), .ref (g 2), .long (lN wh)])), (g 1, .inl (cJ, 5, .inr (.inl (fun i9 => lN (pa i9))))), (g 2, .inl (cJ, 5, .inr (.inl (fun i9 => lN (on i9))))), (h 0, .inr (1, [.ref (h 1), .ref (h 2), .int (nI rk), .int (nI sl)])), (h 1, .inl (cI, 7, .inl (fun i9 => nI (kd i9)))), (h 2, .inl (cI, 175, .inl (fun i9 => nI (tn i9))))] := hD
  have hl : lv_has ls 6 [(0, .ref (g 0)), (1, .ref (h 0)), (2, .int (nI f)), (3, .int (nI t)), (4, .int (nI o))] := hl
  have k_0 := hts (.fieldLink RX2 9 "HearsayMarch$Chances" "parts" "[J") (by decide +kernel)
  have k_1 := hts (.fieldLink RX2 18 "HearsayMarch$Chances" "whole" "J") (by decide +kernel)
  have k_2 := hts (.constantLong RX2 32 (10)) (by decide +kernel)
  have hin2 : ∀ w ∈ wsX20, w ∈ wsX2_spread := by decide +kernel
  refine lv_iconst (v := nI 0) hx hb dX2_spread_0 (by decide) ?_
  refine lv_istore (lv' := [(5, .int (nI 0)), (0, .ref (g 0)), (1, .ref (h 0)), (2, .int (nI f)), (3, .int (nI t)), (4, .int (nI o))]) hx hb dX2_spread_1 hl (by decide) rfl (fun ls hl => ?_)
  refine loopW (σ := Nat × (Nat → Nat)) 3 (fun xx9 H locs ls => match xx9 with | (v, q) => (v ≤ 5) ∧ (∀ j, j < v → q j = 0) ∧ va_P G vwCl [(g 0, .inr (2, [.ref (g 1), .ref (g 2), .long (lN wh)])), (g 1, .inl (cJ, 5, .inr (.inl (fun i9 => lN (q i9))))), (g 2, .inl (cJ, 5, .inr (.inl (fun i9 => lN (on i9))))), (h 0, .inr (1, [.ref (h 1), .ref (h 2), .int (nI rk), .int (nI sl)])), (h 1, .inl (cI, 7, .inl (fun i9 => nI (kd i9)))), (h 2, .inl (cI, 175, .inl (fun i9 => nI (tn i9))))] H ∧ va_D A [(g 0, .inr (2, [.ref (g 1), .ref (g 2), .long (lN wh)])), (g 1, .inl (cJ, 5, .inr (.inl (fun i9 => lN (q i9))))), (g 2, .inl (cJ, 5, .inr (.inl (fun i9 => lN (on i9))))), (h 0, .inr (1, [.ref (h 1), .ref (h 2), .int (nI rk), .int (nI sl)])), (h 1, .inl (cI, 7, .inl (fun i9 => nI (kd i9)))), (h 2, .inl (cI, 175, .inl (fun i9 => nI (tn i9))))] ∧ va_S A s.heap H locs ∧ lv_has ls 6 [(5, .int (nI v)), (0, .ref (g 0)), (1, .ref (h 0)), (2, .int (nI f)), (3, .int (nI t)), (4, .int (nI o))]) (fun xx9 => match xx9 with | (v, q) => []) (fun xx9 => match xx9 with | (v, q) => 5 - v) ?_ (0, pa) ⟨by first | assumption | omega | (simp; done), by first | assumption | omega | (simp; done), hP.sub [0, 1, 2, 3, 4, 5] rfl, hD.sub [0, 1, 2, 3, 4, 5] (by decide) rfl, hS, lv_sub hl [0, 1, 2, 3, 4, 5] rfl⟩
  intro xx9 H locs ls hI ih_3
  obtain ⟨v, q⟩ := xx9
  obtain ⟨hv, hq, hP, hD, hS, hl⟩ := hI
  have hv : v ≤ 5 := hv
  have hq : ∀ j, j < v → q j = 0 := hq
  have hP : va_P G vwCl [(g 0, .inr (2, [.ref (g 1), .ref (g 2), .long (lN wh)])), (g 1, .inl (cJ, 5, .inr (.inl (fun i9 => lN (q i9))))), (g 2, .inl (cJ, 5, .inr (.inl (fun i9 => lN (on i9))))), (h 0, .inr (1, [.ref (h 1), .ref (h 2), .int (nI rk), .int (nI sl)])), (h 1, .inl (cI, 7, .inl (fun i9 => nI (kd i9)))), (h 2, .inl (cI, 175, .inl (fun i9 => nI (tn i9))))] _ := hP
  have hD : va_D A [(g 0, .inr (2, [.ref (g 1), .ref (g 2), .long (lN wh)])), (g 1, .inl (cJ, 5, .inr (.inl (fun i9 => lN (q i9))))), (g 2, .inl (cJ, 5, .inr (.inl (fun i9 => lN (on i9))))), (h 0, .inr (1, [.ref (h 1), .ref (h 2), .int (nI rk), .int (nI sl)])), (h 1, .inl (cI, 7, .inl (fun i9 => nI (kd i9)))), (h 2, .inl (cI, 175, .inl (fun i9 => nI (tn i9))))] := hD
  have hl : lv_has ls 6 [(5, .int (nI v)), (0, .ref (g 0)), (1, .ref (h 0)), (2, .int (nI f)), (3, .int (nI t)), (4, .int (nI o))] := hl
  refine lv_iload hx hb dX2_spread_3 (lv_at hl 0 rfl) ?_
  refine lv_iconst (v := nI 5) hx hb dX2_spread_5 (by decide) ?_
  refine lv_icmp_ge (tgt := 23) hx hb dX2_spread_6 (by decide) (fun c_6 => ?_) (fun c_6 => ?_)
  · skip
    have c_6 := n_geT c_6 (by omega) (by omega)
    have hv5 : v = 5 := by omega
    subst hv5
    refine lv_aload_n hx hb dX2_spread_23 rfl (lv_at hl 1 rfl) ?_
    refine va_get (D := G) (ci := 2) (v := .ref (g 1)) (C := RX2) (T := TX2) (N := 3) hx hb hts hin2 hown hK.1 hP 0 rfl rfl 0 (by decide) k_0 (fun _ h9 => h9) rfl dX2_spread_24 ?_
    refine lv_aload_n hx hb dX2_spread_27 rfl (lv_at hl 2 rfl) ?_
    refine lv_iload_n hx hb dX2_spread_28 rfl (lv_at hl 3 rfl) ?_
    refine lv_iload hx hb dX2_spread_29 (lv_at hl 5 rfl) ?_
    have hkf := hok.1 f (by omega)
    refine aft_i (wr := [(g 0, .inr (2, [.ref (g 1), .ref (g 2), .long (lN wh)])), (g 1, .inl (cJ, 5, .inr (.inl (fun i9 => lN (q i9))))), (g 2, .inl (cJ, 5, .inr (.inl (fun i9 => lN (on i9)))))]) (va_runV (As := [.int (nI f), .int (nI o)]) (rest := [.ref (g 1)]) ⟨hx, hb, hml, hown, hts⟩ (c_X1_hears (h := h) (kd := kd) (tn := tn) (rk := rk) (sl := sl) (k := f) (o := o) (hk := by first | assumption | omega | exact hok.1 _ (by omega) | exact hok.2.2 _ _ (by omega) (by omega) | exact hok.2.1) (ho := by first | assumption | omega | exact hok.1 _ (by omega) | exact hok.2.2 _ _ (by omega) (by omega) | exact hok.2.1) (hd := by first | assumption | omega | exact hok.1 _ (by omega) | exact hok.2.2 _ _ (by omega) (by omega) | exact hok.2.1) _) (cwV 2 hts gX2_spread_X1_hears rfl rfl rfl (by decide +kernel) ⟨Nat.le_of_ble_eq_true rfl, Nat.le_of_ble_eq_true rfl⟩) (preV (cq := (RX1, TX1, 4)) (q0 := 3) (ci := 1) hK hP hD [3, 4, 5] rfl rfl rfl rfl) rfl rfl hl.1 rfl (lv_room (Nat.le_of_ble_eq_true rfl)) dX2_spread_31 ⟨Nat.le_of_ble_eq_true rfl, Nat.le_of_ble_eq_true rfl⟩) hP hD hS hA [3, 4, 5] [0, 1, 2] rfl rfl rfl (by decide) (fun r_31 uu9 H locs hw hP hD hS => ?_)
    have hP : va_P G vwCl [(g 0, .inr (2, [.ref (g 1), .ref (g 2), .long (lN wh)])), (g 1, .inl (cJ, 5, .inr (.inl (fun i9 => lN (q i9))))), (g 2, .inl (cJ, 5, .inr (.inl (fun i9 => lN (on i9))))), (h 0, .inr (1, [.ref (h 1), .ref (h 2), .int (nI rk), .int (nI sl)])), (h 1, .inl (cI, 7, .inl (fun i9 => nI (kd i9)))), (h 2, .inl (cI, 175, .inl (fun i9 => nI (tn i9))))] _ := hP
    have hD : va_D A [(g 0, .inr (2, [.ref (g 1), .ref (g 2), .long (lN wh)])), (g 1, .inl (cJ, 5, .inr (.inl (fun i9 => lN (q i9))))), (g 2, .inl (cJ, 5, .inr (.inl (fun i9 => lN (on i9))))), (h 0, .inr (1, [.ref (h 1), .ref (h 2), .int (nI rk), .int (nI sl)])), (h 1, .inl (cI, 7, .inl (fun i9 => nI (kd i9)))), (h 2, .inl (cI, 175, .inl (fun i9 => nI (tn i9))))] := hD
    obtain rfl := hw
    refine top_i (y := nI (turnN (kd f) o)) rfl ?_
    have ht9 := turnN_lt (kk := kd f) (o := o) (by omega)
    refine lv_lconst (v := lN 1) hx hb dX2_spread_34 (by decide) ?_
    refine lst (f' := fun i9 => lN ((va_up q (turnN (kd f) o) 1) i9)) hx hb hK hP hD hS 1 1 rfl rfl (j := turnN (kd f) o) (by omega) (by omega) (updL_nat) dX2_spread_35 (fun H locs hP hD hS => ?_)
    have hP : va_P G vwCl [(g 0, .inr (2, [.ref (g 1), .ref (g 2), .long (lN wh)])), (g 1, .inl (cJ, 5, .inr (.inl (fun i9 => lN ((va_up q (turnN (kd f) o) 1) i9))))), (g 2, .inl (cJ, 5, .inr (.inl (fun i9 => lN (on i9))))), (h 0, .inr (1, [.ref (h 1), .ref (h 2), .int (nI rk), .int (nI sl)])), (h 1, .inl (cI, 7, .inl (fun i9 => nI (kd i9)))), (h 2, .inl (cI, 175, .inl (fun i9 => nI (tn i9))))] _ := hP
    have hD : va_D A [(g 0, .inr (2, [.ref (g 1), .ref (g 2), .long (lN wh)])), (g 1, .inl (cJ, 5, .inr (.inl (fun i9 => lN ((va_up q (turnN (kd f) o) 1) i9))))), (g 2, .inl (cJ, 5, .inr (.inl (fun i9 => lN (on i9))))), (h 0, .inr (1, [.ref (h 1), .ref (h 2), .int (nI rk), .int (nI sl)])), (h 1, .inl (cI, 7, .inl (fun i9 => nI (kd i9)))), (h 2, .inl (cI, 175, .inl (fun i9 => nI (tn i9))))] := hD
    refine lv_aload_n hx hb dX2_spread_36 rfl (lv_at hl 1 rfl) ?_
    refine lv_lconst (v := lN 1) hx hb dX2_spread_37 (by decide) ?_
    refine va_put (D := G) (ci := 2) (v := .long (lN 1)) (ty := tyX2 2) (C := RX2) (T := TX2) (N := 3) hx hb hts hin2 tyX2 tyX2_ok nmX2 hown hK.1 hP hD hS 0 rfl rfl 2 (by decide) k_1 (fun _ h9 => h9) rfl (by decide +kernel) rfl rfl (Nat.le_of_ble_eq_true rfl) dX2_spread_38 (fun H locs hP hD hS => ?_)
    have hP : va_P G vwCl [(g 0, .inr (2, [.ref (g 1), .ref (g 2), .long (lN 1)])), (g 1, .inl (cJ, 5, .inr (.inl (fun i9 => lN ((va_up q (turnN (kd f) o) 1) i9))))), (g 2, .inl (cJ, 5, .inr (.inl (fun i9 => lN (on i9))))), (h 0, .inr (1, [.ref (h 1), .ref (h 2), .int (nI rk), .int (nI sl)])), (h 1, .inl (cI, 7, .inl (fun i9 => nI (kd i9)))), (h 2, .inl (cI, 175, .inl (fun i9 => nI (tn i9))))] _ := hP
    have hD : va_D A [(g 0, .inr (2, [.ref (g 1), .ref (g 2), .long (lN 1)])), (g 1, .inl (cJ, 5, .inr (.inl (fun i9 => lN ((va_up q (turnN (kd f) o) 1) i9))))), (g 2, .inl (cJ, 5, .inr (.inl (fun i9 => lN (on i9))))), (h 0, .inr (1, [.ref (h 1), .ref (h 2), .int (nI rk), .int (nI sl)])), (h 1, .inl (cI, 7, .inl (fun i9 => nI (kd i9)))), (h 2, .inl (cI, 175, .inl (fun i9 => nI (tn i9))))] := hD
    refine lv_iload_n hx hb dX2_spread_41 rfl (lv_at hl 3 rfl) ?_
    refine lv_iconst (v := nI 1) hx hb dX2_spread_42 (by decide) ?_
    refine lv_iadd hx hb dX2_spread_43 ?_
    refine top_i (y := nI (f + 1)) (nI_add _ _) ?_
    refine lv_istore (lv' := [(5, .int (nI (f + 1))), (0, .ref (g 0)), (1, .ref (h 0)), (2, .int (nI f)), (3, .int (nI t)), (4, .int (nI o))]) hx hb dX2_spread_44 hl (by decide) rfl (fun ls hl => ?_)
    refine loopW (σ := Nat × (Nat → Nat) × (Nat → Nat)) 46 (fun xx9 H locs ls => match xx9 with | (i, q, n) => (f + i ≤ t) ∧ (∀ w, w < 5 → q w = spP tn kd f o i w) ∧ va_P G vwCl [(g 0, .inr (2, [.ref (g 1), .ref (g 2), .long (lN (10 ^ i))])), (g 1, .inl (cJ, 5, .inr (.inl (fun i9 => lN (q i9))))), (g 2, .inl (cJ, 5, .inr (.inl (fun i9 => lN (n i9))))), (h 0, .inr (1, [.ref (h 1), .ref (h 2), .int (nI rk), .int (nI sl)])), (h 1, .inl (cI, 7, .inl (fun i9 => nI (kd i9)))), (h 2, .inl (cI, 175, .inl (fun i9 => nI (tn i9))))] H ∧ va_D A [(g 0, .inr (2, [.ref (g 1), .ref (g 2), .long (lN (10 ^ i))])), (g 1, .inl (cJ, 5, .inr (.inl (fun i9 => lN (q i9))))), (g 2, .inl (cJ, 5, .inr (.inl (fun i9 => lN (n i9))))), (h 0, .inr (1, [.ref (h 1), .ref (h 2), .int (nI rk), .int (nI sl)])), (h 1, .inl (cI, 7, .inl (fun i9 => nI (kd i9)))), (h 2, .inl (cI, 175, .inl (fun i9 => nI (tn i9))))] ∧ va_S A s.heap H locs ∧ lv_has ls 6 [(5, .int (nI (f + i + 1))), (0, .ref (g 0)), (1, .ref (h 0)), (2, .int (nI f)), (3, .int (nI t)), (4, .int (nI o))]) (fun xx9 => match xx9 with | (i, q, n) => []) (fun xx9 => match xx9 with | (i, q, n) => t - (f + i)) ?_ (0, va_up q (turnN (kd f) o) 1, on) ⟨by first | assumption | omega | (simp; done), spP_0 hq, hP.sub [0, 1, 2, 3, 4, 5] rfl, hD.sub [0, 1, 2, 3, 4, 5] (by decide) rfl, hS, lv_sub hl [0, 1, 2, 3, 4, 5] rfl⟩
    intro xx9 H locs ls hI ih_46
    obtain ⟨i, q, n⟩ := xx9
    obtain ⟨hi, hq, hP, hD, hS, hl⟩ := hI
    have hi : f + i ≤ t := hi
    have hq : ∀ w, w < 5 → q w = spP tn kd f o i w := hq
    have hP : va_P G vwCl [(g 0, .inr (2, [.ref (g 1), .ref (g 2), .long (lN (10 ^ i))])), (g 1, .inl (cJ, 5, .inr (.inl (fun i9 => lN (q i9))))), (g 2, .inl (cJ, 5, .inr (.inl (fun i9 => lN (n i9))))), (h 0, .inr (1, [.ref (h 1), .ref (h 2), .int (nI rk), .int (nI sl)])), (h 1, .inl (cI, 7, .inl (fun i9 => nI (kd i9)))), (h 2, .inl (cI, 175, .inl (fun i9 => nI (tn i9))))] _ := hP
    have hD : va_D A [(g 0, .inr (2, [.ref (g 1), .ref (g 2), .long (lN (10 ^ i))])), (g 1, .inl (cJ, 5, .inr (.inl (fun i9 => lN (q i9))))), (g 2, .inl (cJ, 5, .inr (.inl (fun i9 => lN (n i9))))), (h 0, .inr (1, [.ref (h 1), .ref (h 2), .int (nI rk), .int (nI sl)])), (h 1, .inl (cI, 7, .inl (fun i9 => nI (kd i9)))), (h 2, .inl (cI, 175, .inl (fun i9 => nI (tn i9))))] := hD
    have hl : lv_has ls 6 [(5, .int (nI (f + i + 1))), (0, .ref (g 0)), (1, .ref (h 0)), (2, .int (nI f)), (3, .int (nI t)), (4, .int (nI o))] := hl
    refine lv_iload hx hb dX2_spread_46 (lv_at hl 0 rfl) ?_
    refine lv_iload_n hx hb dX2_spread_48 rfl (lv_at hl 4 rfl) ?_
    refine lv_icmp_gt (tgt := 77) hx hb dX2_spread_49 (by decide) (fun c_49 => ?_) (fun c_49 => ?_)
    · skip
      have c_49 := n_gtT c_49 (by omega) (by omega)
      have hit : i = t - f := by omega
      subst hit
      exact endV hx hb hr hlocks ((q, n)) (hq) (hP.sub [0, 1, 2, 3, 4, 5] rfl) (hD.sub [0, 1, 2, 3, 4, 5] (by decide) rfl) hS dX2_spread_77
    · skip
      have c_49 := n_gtF c_49 (by omega) (by omega)
      refine lv_aload_n hx hb dX2_spread_52 rfl (lv_at hl 1 rfl) ?_
      refine lv_aload_n hx hb dX2_spread_53 rfl (lv_at hl 2 rfl) ?_
      refine lv_iload hx hb dX2_spread_54 (lv_at hl 0 rfl) ?_
      refine aft_v (wr := []) (va_runV (As := [.ref (h 0), .int (nI (f + i + 1))]) (rest := []) ⟨hx, hb, hml, hown, hts⟩ (c_X2_goOverWay (g := g) (pa := q) (on := n) (wh := 10 ^ i) (h := h) (kd := kd) (tn := tn) (rk := rk) (sl := sl) (k := f + i + 1) (hok := by first | assumption | omega | exact hok.1 _ (by omega) | exact hok.2.2 _ _ (by omega) (by omega) | exact hok.2.1) (hk := by first | assumption | omega | exact hok.1 _ (by omega) | exact hok.2.2 _ _ (by omega) (by omega) | exact hok.2.1) _) (cwV 2 hts gX2_spread_X2_goOverWay rfl rfl rfl (by decide +kernel) ⟨Nat.le_of_ble_eq_true rfl, Nat.le_of_ble_eq_true rfl⟩) (preV (cq := (RX2, TX2, 3)) (q0 := 0) (ci := 2) hK hP hD [0, 1, 2, 3, 4, 5] rfl rfl rfl rfl) rfl rfl hl.1 rfl (lv_room (Nat.le_of_ble_eq_true rfl)) dX2_spread_56 ⟨Nat.le_of_ble_eq_true rfl, Nat.le_of_ble_eq_true rfl⟩) hP hD hS hA [0, 1, 2, 3, 4, 5] [] rfl rfl rfl (by decide) (fun uu9 H locs hw hP hD hS => ?_)
      obtain ⟨p1_56, o1_56⟩ := uu9
      have hP : va_P G vwCl [(g 0, .inr (2, [.ref (g 1), .ref (g 2), .long (lN (10 ^ i))])), (g 1, .inl (cJ, 5, .inr (.inl (fun i9 => lN (p1_56 i9))))), (g 2, .inl (cJ, 5, .inr (.inl (fun i9 => lN (o1_56 i9))))), (h 0, .inr (1, [.ref (h 1), .ref (h 2), .int (nI rk), .int (nI sl)])), (h 1, .inl (cI, 7, .inl (fun i9 => nI (kd i9)))), (h 2, .inl (cI, 175, .inl (fun i9 => nI (tn i9))))] _ := hP
      have hD : va_D A [(g 0, .inr (2, [.ref (g 1), .ref (g 2), .long (lN (10 ^ i))])), (g 1, .inl (cJ, 5, .inr (.inl (fun i9 => lN (p1_56 i9))))), (g 2, .inl (cJ, 5, .inr (.inl (fun i9 => lN (o1_56 i9))))), (h 0, .inr (1, [.ref (h 1), .ref (h 2), .int (nI rk), .int (nI sl)])), (h 1, .inl (cI, 7, .inl (fun i9 => nI (kd i9)))), (h 2, .inl (cI, 175, .inl (fun i9 => nI (tn i9))))] := hD
      have hw_56 : ∀ w, w < 5 → p1_56 w = nextP tn kd (f + i + 1) q w := hw
      refine lv_aload_n hx hb dX2_spread_59 rfl (lv_at hl 1 rfl) ?_
      refine lv_dup hx hb dX2_spread_60 rfl ?_
      refine va_get (D := G) (ci := 2) (v := .long (lN (10 ^ i))) (C := RX2) (T := TX2) (N := 3) hx hb hts hin2 hown hK.1 hP 0 rfl rfl 2 (by decide) k_1 (fun _ h9 => h9) rfl dX2_spread_61 ?_
      refine lv_ldc2 (v := (10 : Int64)) hx hb hown k_2 dX2_spread_64 ?_
      refine top_l (y := lN 10) (by decide) ?_
      refine lv_lmul hx hb dX2_spread_67 ?_
      refine top_l (y := lN ((10 ^ i) * 10)) (lN_mul _ _) ?_
      refine top_l (y := lN (10 ^ (i + 1))) (by rw [Nat.pow_succ]) ?_
      refine va_put (D := G) (ci := 2) (v := .long (lN (10 ^ (i + 1)))) (ty := tyX2 2) (C := RX2) (T := TX2) (N := 3) hx hb hts hin2 tyX2 tyX2_ok nmX2 hown hK.1 hP hD hS 0 rfl rfl 2 (by decide) k_1 (fun _ h9 => h9) rfl (by decide +kernel) rfl rfl (Nat.le_of_ble_eq_true rfl) dX2_spread_68 (fun H locs hP hD hS => ?_)
      have hP : va_P G vwCl [(g 0, .inr (2, [.ref (g 1), .ref (g 2), .long (lN (10 ^ (i + 1)))])), (g 1, .inl (cJ, 5, .inr (.inl (fun i9 => lN (p1_56 i9))))), (g 2, .inl (cJ, 5, .inr (.inl (fun i9 => lN (o1_56 i9))))), (h 0, .inr (1, [.ref (h 1), .ref (h 2), .int (nI rk), .int (nI sl)])), (h 1, .inl (cI, 7, .inl (fun i9 => nI (kd i9)))), (h 2, .inl (cI, 175, .inl (fun i9 => nI (tn i9))))] _ := hP
      have hD : va_D A [(g 0, .inr (2, [.ref (g 1), .ref (g 2), .long (lN (10 ^ (i + 1)))])), (g 1, .inl (cJ, 5, .inr (.inl (fun i9 => lN (p1_56 i9))))), (g 2, .inl (cJ, 5, .inr (.inl (fun i9 => lN (o1_56 i9))))), (h 0, .inr (1, [.ref (h 1), .ref (h 2), .int (nI rk), .int (nI sl)])), (h 1, .inl (cI, 7, .inl (fun i9 => nI (kd i9)))), (h 2, .inl (cI, 175, .inl (fun i9 => nI (tn i9))))] := hD
      refine lv_iinc (v := nI (f + i + 1 + 1)) (lv' := [(5, .int (nI (f + i + 1 + 1))), (0, .ref (g 0)), (1, .ref (h 0)), (2, .int (nI f)), (3, .int (nI t)), (4, .int (nI o))]) hx hb dX2_spread_71 hl (k := 0) rfl (nI_inc _ 1 1 (by decide)) (by decide) rfl (fun ls hl => ?_)
      refine lv_goto (tgt := 46) hx hb dX2_spread_74 (by decide) ?_
      exact ih_46 ((i + 1), p1_56, o1_56) _ _ _ (by first | omega | (simp only []; omega) | (show _ < _; omega)) ⟨by first | assumption | omega | (simp; done), fun w hw => by rw [hw_56 w hw]; exact nextP_congr hq, hP.sub [0, 1, 2, 3, 4, 5] rfl, hD.sub [0, 1, 2, 3, 4, 5] (by decide) rfl, hS, lv_sub hl [0, 1, 2, 3, 4, 5] rfl⟩
  · skip
    have c_6 := n_geF c_6 (by omega) (by omega)
    refine lv_aload_n hx hb dX2_spread_9 rfl (lv_at hl 1 rfl) ?_
    refine va_get (D := G) (ci := 2) (v := .ref (g 1)) (C := RX2) (T := TX2) (N := 3) hx hb hts hin2 hown hK.1 hP 0 rfl rfl 0 (by decide) k_0 (fun _ h9 => h9) rfl dX2_spread_10 ?_
    refine lv_iload hx hb dX2_spread_13 (lv_at hl 0 rfl) ?_
    refine lv_lconst (v := lN 0) hx hb dX2_spread_15 (by decide) ?_
    refine lst (f' := fun i9 => lN ((va_up q v 0) i9)) hx hb hK hP hD hS 1 1 rfl rfl (j := v) (by omega) (by omega) (updL_nat) dX2_spread_16 (fun H locs hP hD hS => ?_)
    have hP : va_P G vwCl [(g 0, .inr (2, [.ref (g 1), .ref (g 2), .long (lN wh)])), (g 1, .inl (cJ, 5, .inr (.inl (fun i9 => lN ((va_up q v 0) i9))))), (g 2, .inl (cJ, 5, .inr (.inl (fun i9 => lN (on i9))))), (h 0, .inr (1, [.ref (h 1), .ref (h 2), .int (nI rk), .int (nI sl)])), (h 1, .inl (cI, 7, .inl (fun i9 => nI (kd i9)))), (h 2, .inl (cI, 175, .inl (fun i9 => nI (tn i9))))] _ := hP
    have hD : va_D A [(g 0, .inr (2, [.ref (g 1), .ref (g 2), .long (lN wh)])), (g 1, .inl (cJ, 5, .inr (.inl (fun i9 => lN ((va_up q v 0) i9))))), (g 2, .inl (cJ, 5, .inr (.inl (fun i9 => lN (on i9))))), (h 0, .inr (1, [.ref (h 1), .ref (h 2), .int (nI rk), .int (nI sl)])), (h 1, .inl (cI, 7, .inl (fun i9 => nI (kd i9)))), (h 2, .inl (cI, 175, .inl (fun i9 => nI (tn i9))))] := hD
    refine lv_iinc (v := nI (v + 1)) (lv' := [(5, .int (nI (v + 1))), (0, .ref (g 0)), (1, .ref (h 0)), (2, .int (nI f)), (3, .int (nI t)), (4, .int (nI o))]) hx hb dX2_spread_17 hl (k := 0) rfl (nI_inc _ 1 1 (by decide)) (by decide) rfl (fun ls hl => ?_)
    refine lv_goto (tgt := 3) hx hb dX2_spread_20 (by decide) ?_
    exact ih_3 (v + 1, va_up q v 0) _ _ _ (by first | omega | (simp only []; omega) | (show _ < _; omega)) ⟨by first | assumption | omega | (simp; done), up_fill hq, hP.sub [0, 1, 2, 3, 4, 5] rfl, hD.sub [0, 1, 2, 3, 4, 5] (by decide) rfl, hS, lv_sub hl [0, 1, 2, 3, 4, 5] rfl⟩

set_option maxHeartbeats 4000000 in
set_option maxRecDepth 100000 in
theorem c_X4_arriving {l : Launch} {G : va_G} {cI cJ cZ cS : ClassId} (g : Nat → Nat) (en : Nat → Nat) (on : Nat → Nat) (h : Nat → Nat) (kd : Nat → Nat) (tn : Nat → Nat) (rk : Nat) (sl : Nat) (k : Nat) (v : Nat) (hok : ArmyOk kd tn) (hk : k < 7) (hv : v < 5) : CI l G (kT cI cJ cZ cS) (S := Unit) yX4_arriving wsX4_arriving { frames := 4, cells := 0, slots := 0, locals := 92 } [.ref (g 0), .ref (h 0), .int (nI k), .int (nI v)] [(g 0, .inr (4, [.ref (g 1), .ref (g 2)])), (g 1, .inl (cI, 5, .inl (fun i9 => nI (en i9)))), (g 2, .inl (cI, 5, .inl (fun i9 => nI (on i9)))), (h 0, .inr (1, [.ref (h 1), .ref (h 2), .int (nI rk), .int (nI sl)])), (h 1, .inl (cI, 7, .inl (fun i9 => nI (kd i9)))), (h 2, .inl (cI, 175, .inl (fun i9 => nI (tn i9))))] (fun res _ => res = nI (arrN tn k en v)) (fun _ => [(g 0, .inr (4, [.ref (g 1), .ref (g 2)])), (g 1, .inl (cI, 5, .inl (fun i9 => nI (en i9)))), (g 2, .inl (cI, 5, .inl (fun i9 => nI (on i9)))), (h 0, .inr (1, [.ref (h 1), .ref (h 2), .int (nI rk), .int (nI sl)])), (h 1, .inl (cI, 7, .inl (fun i9 => nI (kd i9)))), (h 2, .inl (cI, 175, .inl (fun i9 => nI (tn i9))))]) := by
  refine CI.of (cc := cX4_arriving) (maxL := 6) (by decide) rfl (Nat.le_of_ble_eq_true rfl) ?_
  intro p e s m below meth c A ls hB
  obtain ⟨hx, hb, hml, hr, hts, hown, hlocks, hmn, hK, hP, hD, hS, hA, hl⟩ := hB
  have hP : va_P G vwCl [(g 0, .inr (4, [.ref (g 1), .ref (g 2)])), (g 1, .inl (cI, 5, .inl (fun i9 => nI (en i9)))), (g 2, .inl (cI, 5, .inl (fun i9 => nI (on i9)))), (h 0, .inr (1, [.ref (h 1), .ref (h 2), .int (nI rk), .int (nI sl)])), (h 1, .inl (cI, 7, .inl (fun i9 => nI (kd i9)))), (h 2, .inl (cI, 175, .inl (fun i9 => nI (tn i9))))] s.heap := hP
  have hD : va_D A [(g 0, .inr (4, [.ref (g 1), .ref (g 2)])), (g 1, .inl (cI, 5, .inl (fun i9 => nI (en i9)))), (g 2, .inl (cI, 5, .inl (fun i9 => nI (on i9)))), (h 0, .inr (1, [.ref (h 1), .ref (h 2), .int (nI rk), .int (nI sl)])), (h 1, .inl (cI, 7, .inl (fun i9 => nI (kd i9)))), (h 2, .inl (cI, 175, .inl (fun i9 => nI (tn i9))))] := hD
  have hl : lv_has ls 6 [(0, .ref (g 0)), (1, .ref (h 0)), (2, .int (nI k)), (3, .int (nI v))] := hl
  have k_0 := hts (.fieldLink RX4 9 "HearsayMarch$Rows" "ending" "[I") (by decide +kernel)
  have hin4 : ∀ w ∈ wsX40, w ∈ wsX4_arriving := by decide +kernel
  refine lv_iconst (v := nI 0) hx hb dX4_arriving_0 (by decide) ?_
  refine lv_istore (lv' := [(4, .int (nI 0)), (0, .ref (g 0)), (1, .ref (h 0)), (2, .int (nI k)), (3, .int (nI v))]) hx hb dX4_arriving_1 hl (by decide) rfl (fun ls hl => ?_)
  refine lv_iconst (v := nI 0) hx hb dX4_arriving_3 (by decide) ?_
  refine lv_istore (lv' := [(5, .int (nI 0)), (4, .int (nI 0)), (0, .ref (g 0)), (1, .ref (h 0)), (2, .int (nI k)), (3, .int (nI v))]) hx hb dX4_arriving_4 hl (by decide) rfl (fun ls hl => ?_)
  refine loopW (σ := Nat) 6 (fun (u : Nat) H locs ls => (u ≤ 5) ∧ va_P G vwCl [(g 0, .inr (4, [.ref (g 1), .ref (g 2)])), (g 1, .inl (cI, 5, .inl (fun i9 => nI (en i9)))), (g 2, .inl (cI, 5, .inl (fun i9 => nI (on i9)))), (h 0, .inr (1, [.ref (h 1), .ref (h 2), .int (nI rk), .int (nI sl)])), (h 1, .inl (cI, 7, .inl (fun i9 => nI (kd i9)))), (h 2, .inl (cI, 175, .inl (fun i9 => nI (tn i9))))] H ∧ va_D A [(g 0, .inr (4, [.ref (g 1), .ref (g 2)])), (g 1, .inl (cI, 5, .inl (fun i9 => nI (en i9)))), (g 2, .inl (cI, 5, .inl (fun i9 => nI (on i9)))), (h 0, .inr (1, [.ref (h 1), .ref (h 2), .int (nI rk), .int (nI sl)])), (h 1, .inl (cI, 7, .inl (fun i9 => nI (kd i9)))), (h 2, .inl (cI, 175, .inl (fun i9 => nI (tn i9))))] ∧ va_S A s.heap H locs ∧ lv_has ls 6 [(5, .int (nI u)), (4, .int (nI (sumN (arrU tn k en v) u))), (0, .ref (g 0)), (1, .ref (h 0)), (2, .int (nI k)), (3, .int (nI v))]) (fun (u : Nat) => []) (fun (u : Nat) => 5 - u) ?_ 0 ⟨by first | assumption | omega | (simp; done), hP.sub [0, 1, 2, 3, 4, 5] rfl, hD.sub [0, 1, 2, 3, 4, 5] (by decide) rfl, hS, lv_sub hl [0, 1, 2, 3, 4, 5] rfl⟩
  intro xx9 H locs ls hI ih_6
  obtain ⟨u, rfl⟩ : ∃ z, z = xx9 := ⟨_, rfl⟩
  obtain ⟨hu, hP, hD, hS, hl⟩ := hI
  have hu : u ≤ 5 := hu
  have hP : va_P G vwCl [(g 0, .inr (4, [.ref (g 1), .ref (g 2)])), (g 1, .inl (cI, 5, .inl (fun i9 => nI (en i9)))), (g 2, .inl (cI, 5, .inl (fun i9 => nI (on i9)))), (h 0, .inr (1, [.ref (h 1), .ref (h 2), .int (nI rk), .int (nI sl)])), (h 1, .inl (cI, 7, .inl (fun i9 => nI (kd i9)))), (h 2, .inl (cI, 175, .inl (fun i9 => nI (tn i9))))] _ := hP
  have hD : va_D A [(g 0, .inr (4, [.ref (g 1), .ref (g 2)])), (g 1, .inl (cI, 5, .inl (fun i9 => nI (en i9)))), (g 2, .inl (cI, 5, .inl (fun i9 => nI (on i9)))), (h 0, .inr (1, [.ref (h 1), .ref (h 2), .int (nI rk), .int (nI sl)])), (h 1, .inl (cI, 7, .inl (fun i9 => nI (kd i9)))), (h 2, .inl (cI, 175, .inl (fun i9 => nI (tn i9))))] := hD
  have hl : lv_has ls 6 [(5, .int (nI u)), (4, .int (nI (sumN (arrU tn k en v) u))), (0, .ref (g 0)), (1, .ref (h 0)), (2, .int (nI k)), (3, .int (nI v))] := hl
  refine lv_iload hx hb dX4_arriving_6 (lv_at hl 0 rfl) ?_
  refine lv_iconst (v := nI 5) hx hb dX4_arriving_8 (by decide) ?_
  refine lv_icmp_ge (tgt := 45) hx hb dX4_arriving_9 (by decide) (fun c_9 => ?_) (fun c_9 => ?_)
  · skip
    have c_9 := n_geT c_9 (by omega) (by omega)
    refine lv_iload hx hb dX4_arriving_45 (lv_at hl 1 rfl) ?_
    exact endI hx hb hr hlocks (()) (by rw [arrN, show u = 5 by omega]) (hP.sub [0, 1, 2, 3, 4, 5] rfl) (hD.sub [0, 1, 2, 3, 4, 5] (by decide) rfl) hS dX4_arriving_47
  · skip
    have c_9 := n_geF c_9 (by omega) (by omega)
    refine lv_iload hx hb dX4_arriving_12 (lv_at hl 1 rfl) ?_
    refine lv_aload_n hx hb dX4_arriving_14 rfl (lv_at hl 3 rfl) ?_
    refine lv_iload_n hx hb dX4_arriving_15 rfl (lv_at hl 4 rfl) ?_
    refine lv_iload hx hb dX4_arriving_16 (lv_at hl 0 rfl) ?_
    refine lv_iload_n hx hb dX4_arriving_18 rfl (lv_at hl 5 rfl) ?_
    refine aft_i (wr := [(g 0, .inr (4, [.ref (g 1), .ref (g 2)])), (g 1, .inl (cI, 5, .inl (fun i9 => nI (en i9)))), (g 2, .inl (cI, 5, .inl (fun i9 => nI (on i9))))]) (va_runV (As := [.int (nI k), .int (nI u), .int (nI v)]) (rest := [.int (nI (sumN (arrU tn k en v) u))]) ⟨hx, hb, hml, hown, hts⟩ (c_X1_wayTenths (h := h) (kd := kd) (tn := tn) (rk := rk) (sl := sl) (k := k) (u := u) (v := v) (hk := by first | assumption | omega | exact hok.1 _ (by omega) | exact hok.2.2 _ _ (by omega) (by omega) | exact hok.2.1) (hu := by first | assumption | omega | exact hok.1 _ (by omega) | exact hok.2.2 _ _ (by omega) (by omega) | exact hok.2.1) (hv := by first | assumption | omega | exact hok.1 _ (by omega) | exact hok.2.2 _ _ (by omega) (by omega) | exact hok.2.1) (hs := by first | assumption | omega | exact hok.1 _ (by omega) | exact hok.2.2 _ _ (by omega) (by omega) | exact hok.2.1) _) (cwV 3 hts gX4_arriving_X1_wayTenths rfl rfl rfl (by decide +kernel) ⟨Nat.le_of_ble_eq_true rfl, Nat.le_of_ble_eq_true rfl⟩) (preV (cq := (RX1, TX1, 4)) (q0 := 3) (ci := 1) hK hP hD [3, 4, 5] rfl rfl rfl rfl) rfl rfl hl.1 rfl (lv_room (Nat.le_of_ble_eq_true rfl)) dX4_arriving_19 ⟨Nat.le_of_ble_eq_true rfl, Nat.le_of_ble_eq_true rfl⟩) hP hD hS hA [3, 4, 5] [0, 1, 2] rfl rfl rfl (by decide) (fun r_19 uu9 H locs hw hP hD hS => ?_)
    have hP : va_P G vwCl [(g 0, .inr (4, [.ref (g 1), .ref (g 2)])), (g 1, .inl (cI, 5, .inl (fun i9 => nI (en i9)))), (g 2, .inl (cI, 5, .inl (fun i9 => nI (on i9)))), (h 0, .inr (1, [.ref (h 1), .ref (h 2), .int (nI rk), .int (nI sl)])), (h 1, .inl (cI, 7, .inl (fun i9 => nI (kd i9)))), (h 2, .inl (cI, 175, .inl (fun i9 => nI (tn i9))))] _ := hP
    have hD : va_D A [(g 0, .inr (4, [.ref (g 1), .ref (g 2)])), (g 1, .inl (cI, 5, .inl (fun i9 => nI (en i9)))), (g 2, .inl (cI, 5, .inl (fun i9 => nI (on i9)))), (h 0, .inr (1, [.ref (h 1), .ref (h 2), .int (nI rk), .int (nI sl)])), (h 1, .inl (cI, 7, .inl (fun i9 => nI (kd i9)))), (h 2, .inl (cI, 175, .inl (fun i9 => nI (tn i9))))] := hD
    obtain rfl := hw
    refine top_i (y := nI (wayT tn k u v)) rfl ?_
    have hw9 := wayT_le (hok.2.2 k u (by omega) (by omega)) (v := v) (hok.2.1 _ (by omega) : slT tn k u v < 10)
    refine lv_if_le (tgt := 35) hx hb dX4_arriving_22 (by decide) (fun c_22 => ?_) (fun c_22 => ?_)
    · skip
      have c_22 := z_leT c_22 (by omega)
      refine lv_iconst (v := nI 0) hx hb dX4_arriving_35 (by decide) ?_
      refine lv_iadd hx hb dX4_arriving_36 ?_
      refine top_i (y := nI (sumN (arrU tn k en v) u)) (nI_add _ _) ?_
      refine top_i (y := nI (sumN (arrU tn k en v) (u + 1))) (by show _ = nI (sumN _ u + arrU tn k en v u); rw [arrU]; first | rw [if_pos c_22] | rw [if_neg (by omega), Nat.add_zero]) ?_
      refine lv_istore (lv' := [(4, .int (nI (sumN (arrU tn k en v) (u + 1)))), (5, .int (nI u)), (0, .ref (g 0)), (1, .ref (h 0)), (2, .int (nI k)), (3, .int (nI v))]) hx hb dX4_arriving_37 hl (by decide) rfl (fun ls hl => ?_)
      refine lv_iinc (v := nI (u + 1)) (lv' := [(5, .int (nI (u + 1))), (4, .int (nI (sumN (arrU tn k en v) (u + 1)))), (0, .ref (g 0)), (1, .ref (h 0)), (2, .int (nI k)), (3, .int (nI v))]) hx hb dX4_arriving_39 hl (k := 1) rfl (nI_inc _ 1 1 (by decide)) (by decide) rfl (fun ls hl => ?_)
      refine lv_goto (tgt := 6) hx hb dX4_arriving_42 (by decide) ?_
      exact ih_6 (u + 1) _ _ _ (by first | omega | (simp only []; omega) | (show _ < _; omega)) ⟨by first | assumption | omega | (simp; done), hP.sub [0, 1, 2, 3, 4, 5] rfl, hD.sub [0, 1, 2, 3, 4, 5] (by decide) rfl, hS, lv_sub hl [0, 1, 2, 3, 4, 5] rfl⟩
    · skip
      have c_22 := z_leF c_22 (by omega)
      refine lv_aload_n hx hb dX4_arriving_25 rfl (lv_at hl 2 rfl) ?_
      refine va_get (D := G) (ci := 4) (v := .ref (g 1)) (C := RX4) (T := TX4) (N := 2) hx hb hts hin4 hown hK.1 hP 0 rfl rfl 0 (by decide) k_0 (fun _ h9 => h9) rfl dX4_arriving_26 ?_
      refine lv_iload hx hb dX4_arriving_29 (lv_at hl 0 rfl) ?_
      refine ald hx hb hK hP 1 0 rfl rfl (j := u) (by omega) (by omega) dX4_arriving_31 ?_
      refine lv_goto (tgt := 36) hx hb dX4_arriving_32 (by decide) ?_
      refine lv_iadd hx hb dX4_arriving_36 ?_
      refine top_i (y := nI (sumN (arrU tn k en v) u + (en u))) (nI_add _ _) ?_
      refine top_i (y := nI (sumN (arrU tn k en v) (u + 1))) (by show _ = nI (sumN _ u + arrU tn k en v u); rw [arrU]; first | rw [if_pos c_22] | rw [if_neg (by omega), Nat.add_zero]) ?_
      refine lv_istore (lv' := [(4, .int (nI (sumN (arrU tn k en v) (u + 1)))), (5, .int (nI u)), (0, .ref (g 0)), (1, .ref (h 0)), (2, .int (nI k)), (3, .int (nI v))]) hx hb dX4_arriving_37 hl (by decide) rfl (fun ls hl => ?_)
      refine lv_iinc (v := nI (u + 1)) (lv' := [(5, .int (nI (u + 1))), (4, .int (nI (sumN (arrU tn k en v) (u + 1)))), (0, .ref (g 0)), (1, .ref (h 0)), (2, .int (nI k)), (3, .int (nI v))]) hx hb dX4_arriving_39 hl (k := 1) rfl (nI_inc _ 1 1 (by decide)) (by decide) rfl (fun ls hl => ?_)
      refine lv_goto (tgt := 6) hx hb dX4_arriving_42 (by decide) ?_
      exact ih_6 (u + 1) _ _ _ (by first | omega | (simp only []; omega) | (show _ < _; omega)) ⟨by first | assumption | omega | (simp; done), hP.sub [0, 1, 2, 3, 4, 5] rfl, hD.sub [0, 1, 2, 3, 4, 5] (by decide) rfl, hS, lv_sub hl [0, 1, 2, 3, 4, 5] rfl⟩

set_option maxHeartbeats 4000000 in
set_option maxRecDepth 100000 in
theorem c_X4_goOverWay {l : Launch} {G : va_G} {cI cJ cZ cS : ClassId} (g : Nat → Nat) (en : Nat → Nat) (on : Nat → Nat) (h : Nat → Nat) (kd : Nat → Nat) (tn : Nat → Nat) (rk : Nat) (sl : Nat) (b : Nat → Nat) (tr : Nat → Nat) (tq : Nat → Nat) (td : Nat → Nat) (tc : Nat) (k : Nat) (hok : ArmyOk kd tn) (htr : TrOk tr tq td tc) (hk : k < 7) (htc : tc < 7) : CV l G (kT cI cJ cZ cS) (S := (Nat → Nat) × (Nat → Nat)) yX4_goOverWay wsX4_goOverWay { frames := 5, cells := 0, slots := 0, locals := 117 } [.ref (g 0), .ref (h 0), .ref (b 0), .int (nI k)] [(g 0, .inr (4, [.ref (g 1), .ref (g 2)])), (g 1, .inl (cI, 5, .inl (fun i9 => nI (en i9)))), (g 2, .inl (cI, 5, .inl (fun i9 => nI (on i9)))), (h 0, .inr (1, [.ref (h 1), .ref (h 2), .int (nI rk), .int (nI sl)])), (h 1, .inl (cI, 7, .inl (fun i9 => nI (kd i9)))), (h 2, .inl (cI, 175, .inl (fun i9 => nI (tn i9)))), (b 0, .inr (8, [.ref (b 1), .ref (b 2), .ref (b 3), .int (nI tc)])), (b 1, .inl (cI, 6, .inl (fun i9 => nI (tr i9)))), (b 2, .inl (cI, 6, .inl (fun i9 => nI (tq i9)))), (b 3, .inl (cZ, 6, .inl (fun i9 => nI (td i9))))] (fun uu9 => match uu9 with | (e1, o1) => ∀ w, w < 5 → e1 w = nextR tn kd tr tq td tc k en w) (fun uu9 => match uu9 with | (e1, o1) => [(g 0, .inr (4, [.ref (g 1), .ref (g 2)])), (g 1, .inl (cI, 5, .inl (fun i9 => nI (e1 i9)))), (g 2, .inl (cI, 5, .inl (fun i9 => nI (o1 i9)))), (h 0, .inr (1, [.ref (h 1), .ref (h 2), .int (nI rk), .int (nI sl)])), (h 1, .inl (cI, 7, .inl (fun i9 => nI (kd i9)))), (h 2, .inl (cI, 175, .inl (fun i9 => nI (tn i9)))), (b 0, .inr (8, [.ref (b 1), .ref (b 2), .ref (b 3), .int (nI tc)])), (b 1, .inl (cI, 6, .inl (fun i9 => nI (tr i9)))), (b 2, .inl (cI, 6, .inl (fun i9 => nI (tq i9)))), (b 3, .inl (cZ, 6, .inl (fun i9 => nI (td i9))))]) := by
  refine CV.of (cc := cX4_goOverWay) (maxL := 6) (by decide) rfl (Nat.le_of_ble_eq_true rfl) ?_
  intro p e s m below meth c A ls hB
  obtain ⟨hx, hb, hml, hr, hts, hown, hlocks, hmn, hK, hP, hD, hS, hA, hl⟩ := hB
  have hP : va_P G vwCl [(g 0, .inr (4, [.ref (g 1), .ref (g 2)])), (g 1, .inl (cI, 5, .inl (fun i9 => nI (en i9)))), (g 2, .inl (cI, 5, .inl (fun i9 => nI (on i9)))), (h 0, .inr (1, [.ref (h 1), .ref (h 2), .int (nI rk), .int (nI sl)])), (h 1, .inl (cI, 7, .inl (fun i9 => nI (kd i9)))), (h 2, .inl (cI, 175, .inl (fun i9 => nI (tn i9)))), (b 0, .inr (8, [.ref (b 1), .ref (b 2), .ref (b 3), .int (nI tc)])), (b 1, .inl (cI, 6, .inl (fun i9 => nI (tr i9)))), (b 2, .inl (cI, 6, .inl (fun i9 => nI (tq i9)))), (b 3, .inl (cZ, 6, .inl (fun i9 => nI (td i9))))] s.heap := hP
  have hD : va_D A [(g 0, .inr (4, [.ref (g 1), .ref (g 2)])), (g 1, .inl (cI, 5, .inl (fun i9 => nI (en i9)))), (g 2, .inl (cI, 5, .inl (fun i9 => nI (on i9)))), (h 0, .inr (1, [.ref (h 1), .ref (h 2), .int (nI rk), .int (nI sl)])), (h 1, .inl (cI, 7, .inl (fun i9 => nI (kd i9)))), (h 2, .inl (cI, 175, .inl (fun i9 => nI (tn i9)))), (b 0, .inr (8, [.ref (b 1), .ref (b 2), .ref (b 3), .int (nI tc)])), (b 1, .inl (cI, 6, .inl (fun i9 => nI (tr i9)))), (b 2, .inl (cI, 6, .inl (fun i9 => nI (tq i9)))), (b 3, .inl (cZ, 6, .inl (fun i9 => nI (td i9))))] := hD
  have hl : lv_has ls 6 [(0, .ref (g 0)), (1, .ref (h 0)), (2, .ref (b 0)), (3, .int (nI k))] := hl
  have k_0 := hts (.fieldLink RX4 15 "HearsayMarch$Rows" "onward" "[I") (by decide +kernel)
  have k_1 := hts (.fieldLink RX4 9 "HearsayMarch$Rows" "ending" "[I") (by decide +kernel)
  have k_2 := hts (.methodLink RX4 42 arraycopyName) (by decide +kernel)
  have k_3 := hts (.native arraycopyName) (by decide +kernel)
  have k_4 := hts (.static arraycopyName) (by decide +kernel)
  have k_5 := hts (.initialized "java/lang/System") (by decide +kernel)
  have hin4 : ∀ w ∈ wsX40, w ∈ wsX4_goOverWay := by decide +kernel
  refine lv_iconst (v := nI 0) hx hb dX4_goOverWay_0 (by decide) ?_
  refine lv_istore (lv' := [(4, .int (nI 0)), (0, .ref (g 0)), (1, .ref (h 0)), (2, .ref (b 0)), (3, .int (nI k))]) hx hb dX4_goOverWay_1 hl (by decide) rfl (fun ls hl => ?_)
  refine loopW (σ := Nat × (Nat → Nat)) 3 (fun xx9 H locs ls => match xx9 with | (v, o) => (v ≤ 5) ∧ (∀ w, w < 5 → turnN (kd k) w < v → o w = nextR tn kd tr tq td tc k en w) ∧ va_P G vwCl [(g 0, .inr (4, [.ref (g 1), .ref (g 2)])), (g 1, .inl (cI, 5, .inl (fun i9 => nI (en i9)))), (g 2, .inl (cI, 5, .inl (fun i9 => nI (o i9)))), (h 0, .inr (1, [.ref (h 1), .ref (h 2), .int (nI rk), .int (nI sl)])), (h 1, .inl (cI, 7, .inl (fun i9 => nI (kd i9)))), (h 2, .inl (cI, 175, .inl (fun i9 => nI (tn i9)))), (b 0, .inr (8, [.ref (b 1), .ref (b 2), .ref (b 3), .int (nI tc)])), (b 1, .inl (cI, 6, .inl (fun i9 => nI (tr i9)))), (b 2, .inl (cI, 6, .inl (fun i9 => nI (tq i9)))), (b 3, .inl (cZ, 6, .inl (fun i9 => nI (td i9))))] H ∧ va_D A [(g 0, .inr (4, [.ref (g 1), .ref (g 2)])), (g 1, .inl (cI, 5, .inl (fun i9 => nI (en i9)))), (g 2, .inl (cI, 5, .inl (fun i9 => nI (o i9)))), (h 0, .inr (1, [.ref (h 1), .ref (h 2), .int (nI rk), .int (nI sl)])), (h 1, .inl (cI, 7, .inl (fun i9 => nI (kd i9)))), (h 2, .inl (cI, 175, .inl (fun i9 => nI (tn i9)))), (b 0, .inr (8, [.ref (b 1), .ref (b 2), .ref (b 3), .int (nI tc)])), (b 1, .inl (cI, 6, .inl (fun i9 => nI (tr i9)))), (b 2, .inl (cI, 6, .inl (fun i9 => nI (tq i9)))), (b 3, .inl (cZ, 6, .inl (fun i9 => nI (td i9))))] ∧ va_S A s.heap H locs ∧ lv_has ls 6 [(4, .int (nI v)), (0, .ref (g 0)), (1, .ref (h 0)), (2, .ref (b 0)), (3, .int (nI k))]) (fun xx9 => match xx9 with | (v, o) => []) (fun xx9 => match xx9 with | (v, o) => 5 - v) ?_ (0, on) ⟨by first | assumption | omega | (simp; done), by first | assumption | omega | (simp; done), hP.sub [0, 1, 2, 3, 4, 5, 6, 7, 8, 9] rfl, hD.sub [0, 1, 2, 3, 4, 5, 6, 7, 8, 9] (by decide) rfl, hS, lv_sub hl [0, 1, 2, 3, 4] rfl⟩
  intro xx9 H locs ls hI ih_3
  obtain ⟨v, o⟩ := xx9
  obtain ⟨hv, ho, hP, hD, hS, hl⟩ := hI
  have hv : v ≤ 5 := hv
  have ho : ∀ w, w < 5 → turnN (kd k) w < v → o w = nextR tn kd tr tq td tc k en w := ho
  have hP : va_P G vwCl [(g 0, .inr (4, [.ref (g 1), .ref (g 2)])), (g 1, .inl (cI, 5, .inl (fun i9 => nI (en i9)))), (g 2, .inl (cI, 5, .inl (fun i9 => nI (o i9)))), (h 0, .inr (1, [.ref (h 1), .ref (h 2), .int (nI rk), .int (nI sl)])), (h 1, .inl (cI, 7, .inl (fun i9 => nI (kd i9)))), (h 2, .inl (cI, 175, .inl (fun i9 => nI (tn i9)))), (b 0, .inr (8, [.ref (b 1), .ref (b 2), .ref (b 3), .int (nI tc)])), (b 1, .inl (cI, 6, .inl (fun i9 => nI (tr i9)))), (b 2, .inl (cI, 6, .inl (fun i9 => nI (tq i9)))), (b 3, .inl (cZ, 6, .inl (fun i9 => nI (td i9))))] _ := hP
  have hD : va_D A [(g 0, .inr (4, [.ref (g 1), .ref (g 2)])), (g 1, .inl (cI, 5, .inl (fun i9 => nI (en i9)))), (g 2, .inl (cI, 5, .inl (fun i9 => nI (o i9)))), (h 0, .inr (1, [.ref (h 1), .ref (h 2), .int (nI rk), .int (nI sl)])), (h 1, .inl (cI, 7, .inl (fun i9 => nI (kd i9)))), (h 2, .inl (cI, 175, .inl (fun i9 => nI (tn i9)))), (b 0, .inr (8, [.ref (b 1), .ref (b 2), .ref (b 3), .int (nI tc)])), (b 1, .inl (cI, 6, .inl (fun i9 => nI (tr i9)))), (b 2, .inl (cI, 6, .inl (fun i9 => nI (tq i9)))), (b 3, .inl (cZ, 6, .inl (fun i9 => nI (td i9))))] := hD
  have hl : lv_has ls 6 [(4, .int (nI v)), (0, .ref (g 0)), (1, .ref (h 0)), (2, .ref (b 0)), (3, .int (nI k))] := hl
  refine lv_iload hx hb dX4_goOverWay_3 (lv_at hl 0 rfl) ?_
  refine lv_iconst (v := nI 5) hx hb dX4_goOverWay_5 (by decide) ?_
  refine lv_icmp_ge (tgt := 53) hx hb dX4_goOverWay_6 (by decide) (fun c_6 => ?_) (fun c_6 => ?_)
  · skip
    have c_6 := n_geT c_6 (by omega) (by omega)
    refine lv_aload_n hx hb dX4_goOverWay_53 rfl (lv_at hl 1 rfl) ?_
    refine va_get (D := G) (ci := 4) (v := .ref (g 2)) (C := RX4) (T := TX4) (N := 2) hx hb hts hin4 hown hK.1 hP 0 rfl rfl 1 (by decide) k_0 (fun _ h9 => h9) rfl dX4_goOverWay_54 ?_
    refine lv_iconst (v := nI 0) hx hb dX4_goOverWay_57 (by decide) ?_
    refine lv_aload_n hx hb dX4_goOverWay_58 rfl (lv_at hl 1 rfl) ?_
    refine va_get (D := G) (ci := 4) (v := .ref (g 1)) (C := RX4) (T := TX4) (N := 2) hx hb hts hin4 hown hK.1 hP 0 rfl rfl 0 (by decide) k_1 (fun _ h9 => h9) rfl dX4_goOverWay_59 ?_
    refine lv_iconst (v := nI 0) hx hb dX4_goOverWay_62 (by decide) ?_
    refine lv_iconst (v := nI 5) hx hb dX4_goOverWay_63 (by decide) ?_
    refine va_copyi hx hb (by rw [hml]; exact hl.1.symm) hown k_2 k_3 k_4 k_5 hK.1 hP hD hS 2 1 0 0 rfl rfl rfl rfl rfl (by decide) (by decide) (by decide) (by decide) (by decide) (fun i hi => rfl) (Nat.le_of_ble_eq_true rfl) (Nat.le_of_ble_eq_true rfl) dX4_goOverWay_64 (fun H locs hP hD hS => ?_)
    have hP : va_P G vwCl [(g 0, .inr (4, [.ref (g 1), .ref (g 2)])), (g 1, .inl (cI, 5, .inl (va_cpy (fun i9 => nI (o i9)) (fun i9 => nI (en i9)) 0 0 5))), (g 2, .inl (cI, 5, .inl (fun i9 => nI (o i9)))), (h 0, .inr (1, [.ref (h 1), .ref (h 2), .int (nI rk), .int (nI sl)])), (h 1, .inl (cI, 7, .inl (fun i9 => nI (kd i9)))), (h 2, .inl (cI, 175, .inl (fun i9 => nI (tn i9)))), (b 0, .inr (8, [.ref (b 1), .ref (b 2), .ref (b 3), .int (nI tc)])), (b 1, .inl (cI, 6, .inl (fun i9 => nI (tr i9)))), (b 2, .inl (cI, 6, .inl (fun i9 => nI (tq i9)))), (b 3, .inl (cZ, 6, .inl (fun i9 => nI (td i9))))] _ := hP
    have hD : va_D A [(g 0, .inr (4, [.ref (g 1), .ref (g 2)])), (g 1, .inl (cI, 5, .inl (va_cpy (fun i9 => nI (o i9)) (fun i9 => nI (en i9)) 0 0 5))), (g 2, .inl (cI, 5, .inl (fun i9 => nI (o i9)))), (h 0, .inr (1, [.ref (h 1), .ref (h 2), .int (nI rk), .int (nI sl)])), (h 1, .inl (cI, 7, .inl (fun i9 => nI (kd i9)))), (h 2, .inl (cI, 175, .inl (fun i9 => nI (tn i9)))), (b 0, .inr (8, [.ref (b 1), .ref (b 2), .ref (b 3), .int (nI tc)])), (b 1, .inl (cI, 6, .inl (fun i9 => nI (tr i9)))), (b 2, .inl (cI, 6, .inl (fun i9 => nI (tq i9)))), (b 3, .inl (cZ, 6, .inl (fun i9 => nI (td i9))))] := hD
    rw [cpy_nat] at hP hD
    have hP : va_P G vwCl [(g 0, .inr (4, [.ref (g 1), .ref (g 2)])), (g 1, .inl (cI, 5, .inl (fun i9 => nI ((va_cpy o en 0 0 5) i9)))), (g 2, .inl (cI, 5, .inl (fun i9 => nI (o i9)))), (h 0, .inr (1, [.ref (h 1), .ref (h 2), .int (nI rk), .int (nI sl)])), (h 1, .inl (cI, 7, .inl (fun i9 => nI (kd i9)))), (h 2, .inl (cI, 175, .inl (fun i9 => nI (tn i9)))), (b 0, .inr (8, [.ref (b 1), .ref (b 2), .ref (b 3), .int (nI tc)])), (b 1, .inl (cI, 6, .inl (fun i9 => nI (tr i9)))), (b 2, .inl (cI, 6, .inl (fun i9 => nI (tq i9)))), (b 3, .inl (cZ, 6, .inl (fun i9 => nI (td i9))))] _ := hP
    have hD : va_D A [(g 0, .inr (4, [.ref (g 1), .ref (g 2)])), (g 1, .inl (cI, 5, .inl (fun i9 => nI ((va_cpy o en 0 0 5) i9)))), (g 2, .inl (cI, 5, .inl (fun i9 => nI (o i9)))), (h 0, .inr (1, [.ref (h 1), .ref (h 2), .int (nI rk), .int (nI sl)])), (h 1, .inl (cI, 7, .inl (fun i9 => nI (kd i9)))), (h 2, .inl (cI, 175, .inl (fun i9 => nI (tn i9)))), (b 0, .inr (8, [.ref (b 1), .ref (b 2), .ref (b 3), .int (nI tc)])), (b 1, .inl (cI, 6, .inl (fun i9 => nI (tr i9)))), (b 2, .inl (cI, 6, .inl (fun i9 => nI (tq i9)))), (b 3, .inl (cZ, 6, .inl (fun i9 => nI (td i9))))] := hD
    exact endV hx hb hr hlocks ((va_cpy o en 0 0 5, o)) (fun w hw => by rw [pk_cpy_in (by omega) (by omega), Nat.sub_zero, Nat.zero_add]; exact ho w hw (by have := turnN_lt (kk := kd k) (o := w) hw; omega)) (hP.sub [0, 1, 2, 3, 4, 5, 6, 7, 8, 9] rfl) (hD.sub [0, 1, 2, 3, 4, 5, 6, 7, 8, 9] (by decide) rfl) hS dX4_goOverWay_67
  · skip
    have c_6 := n_geF c_6 (by omega) (by omega)
    refine lv_aload_n hx hb dX4_goOverWay_9 rfl (lv_at hl 2 rfl) ?_
    refine lv_iload_n hx hb dX4_goOverWay_10 rfl (lv_at hl 4 rfl) ?_
    refine lv_iload hx hb dX4_goOverWay_11 (lv_at hl 0 rfl) ?_
    have hkk := hok.1 k (by omega)
    refine aft_i (wr := [(g 0, .inr (4, [.ref (g 1), .ref (g 2)])), (g 1, .inl (cI, 5, .inl (fun i9 => nI (en i9)))), (g 2, .inl (cI, 5, .inl (fun i9 => nI (o i9)))), (b 0, .inr (8, [.ref (b 1), .ref (b 2), .ref (b 3), .int (nI tc)])), (b 1, .inl (cI, 6, .inl (fun i9 => nI (tr i9)))), (b 2, .inl (cI, 6, .inl (fun i9 => nI (tq i9)))), (b 3, .inl (cZ, 6, .inl (fun i9 => nI (td i9))))]) (va_runV (As := [.int (nI k), .int (nI v)]) (rest := []) ⟨hx, hb, hml, hown, hts⟩ (c_X1_hears (h := h) (kd := kd) (tn := tn) (rk := rk) (sl := sl) (k := k) (o := v) (hk := by first | assumption | omega | exact hok.1 _ (by omega) | exact hok.2.2 _ _ (by omega) (by omega) | exact hok.2.1) (ho := by first | assumption | omega | exact hok.1 _ (by omega) | exact hok.2.2 _ _ (by omega) (by omega) | exact hok.2.1) (hd := by first | assumption | omega | exact hok.1 _ (by omega) | exact hok.2.2 _ _ (by omega) (by omega) | exact hok.2.1) _) (cwV 2 hts gX4_goOverWay_X1_hears rfl rfl rfl (by decide +kernel) ⟨Nat.le_of_ble_eq_true rfl, Nat.le_of_ble_eq_true rfl⟩) (preV (cq := (RX1, TX1, 4)) (q0 := 3) (ci := 1) hK hP hD [3, 4, 5] rfl rfl rfl rfl) rfl rfl hl.1 rfl (lv_room (Nat.le_of_ble_eq_true rfl)) dX4_goOverWay_13 ⟨Nat.le_of_ble_eq_true rfl, Nat.le_of_ble_eq_true rfl⟩) hP hD hS hA [3, 4, 5] [0, 1, 2, 6, 7, 8, 9] rfl rfl rfl (by decide) (fun r_13 uu9 H locs hw hP hD hS => ?_)
    have hP : va_P G vwCl [(g 0, .inr (4, [.ref (g 1), .ref (g 2)])), (g 1, .inl (cI, 5, .inl (fun i9 => nI (en i9)))), (g 2, .inl (cI, 5, .inl (fun i9 => nI (o i9)))), (b 0, .inr (8, [.ref (b 1), .ref (b 2), .ref (b 3), .int (nI tc)])), (b 1, .inl (cI, 6, .inl (fun i9 => nI (tr i9)))), (b 2, .inl (cI, 6, .inl (fun i9 => nI (tq i9)))), (b 3, .inl (cZ, 6, .inl (fun i9 => nI (td i9)))), (h 0, .inr (1, [.ref (h 1), .ref (h 2), .int (nI rk), .int (nI sl)])), (h 1, .inl (cI, 7, .inl (fun i9 => nI (kd i9)))), (h 2, .inl (cI, 175, .inl (fun i9 => nI (tn i9))))] _ := hP
    have hD : va_D A [(g 0, .inr (4, [.ref (g 1), .ref (g 2)])), (g 1, .inl (cI, 5, .inl (fun i9 => nI (en i9)))), (g 2, .inl (cI, 5, .inl (fun i9 => nI (o i9)))), (b 0, .inr (8, [.ref (b 1), .ref (b 2), .ref (b 3), .int (nI tc)])), (b 1, .inl (cI, 6, .inl (fun i9 => nI (tr i9)))), (b 2, .inl (cI, 6, .inl (fun i9 => nI (tq i9)))), (b 3, .inl (cZ, 6, .inl (fun i9 => nI (td i9)))), (h 0, .inr (1, [.ref (h 1), .ref (h 2), .int (nI rk), .int (nI sl)])), (h 1, .inl (cI, 7, .inl (fun i9 => nI (kd i9)))), (h 2, .inl (cI, 175, .inl (fun i9 => nI (tn i9))))] := hD
    obtain rfl := hw
    refine top_i (y := nI (turnN (kd k) v)) rfl ?_
    have ht9 := turnN_lt (kk := kd k) (o := v) (by omega)
    refine lv_istore (lv' := [(5, .int (nI (turnN (kd k) v))), (4, .int (nI v)), (0, .ref (g 0)), (1, .ref (h 0)), (2, .ref (b 0)), (3, .int (nI k))]) hx hb dX4_goOverWay_16 hl (by decide) rfl (fun ls hl => ?_)
    refine lv_aload_n hx hb dX4_goOverWay_18 rfl (lv_at hl 2 rfl) ?_
    refine va_get (D := G) (ci := 4) (v := .ref (g 2)) (C := RX4) (T := TX4) (N := 2) hx hb hts hin4 hown hK.1 hP 0 rfl rfl 1 (by decide) k_0 (fun _ h9 => h9) rfl dX4_goOverWay_19 ?_
    refine lv_iload hx hb dX4_goOverWay_22 (lv_at hl 0 rfl) ?_
    refine lv_aload_n hx hb dX4_goOverWay_24 rfl (lv_at hl 4 rfl) ?_
    refine lv_iload_n hx hb dX4_goOverWay_25 rfl (lv_at hl 5 rfl) ?_
    refine lv_iload hx hb dX4_goOverWay_26 (lv_at hl 0 rfl) ?_
    refine aft_i (wr := [(g 0, .inr (4, [.ref (g 1), .ref (g 2)])), (g 1, .inl (cI, 5, .inl (fun i9 => nI (en i9)))), (g 2, .inl (cI, 5, .inl (fun i9 => nI (o i9)))), (h 0, .inr (1, [.ref (h 1), .ref (h 2), .int (nI rk), .int (nI sl)])), (h 1, .inl (cI, 7, .inl (fun i9 => nI (kd i9)))), (h 2, .inl (cI, 175, .inl (fun i9 => nI (tn i9))))]) (va_runV (As := [.int (nI k), .int (nI (turnN (kd k) v))]) (rest := [.int (nI (turnN (kd k) v)), .ref (g 2)]) ⟨hx, hb, hml, hown, hts⟩ (c_X8_allow (h := b) (tr := tr) (tq := tq) (td := td) (tc := tc) (k := k) (o := turnN (kd k) v) (htc := by first | assumption | omega | exact hok.1 _ (by omega) | exact hok.2.2 _ _ (by omega) (by omega) | exact hok.2.1) (hk := by first | assumption | omega | exact hok.1 _ (by omega) | exact hok.2.2 _ _ (by omega) (by omega) | exact hok.2.1) (ho := by first | assumption | omega | exact hok.1 _ (by omega) | exact hok.2.2 _ _ (by omega) (by omega) | exact hok.2.1) (hr9 := by first | assumption | omega | exact hok.1 _ (by omega) | exact hok.2.2 _ _ (by omega) (by omega) | exact hok.2.1) _) (cwV 2 hts gX4_goOverWay_X8_allow rfl rfl rfl (by decide +kernel) ⟨Nat.le_of_ble_eq_true rfl, Nat.le_of_ble_eq_true rfl⟩) (preV (cq := (RX8, TX8, 4)) (q0 := 3) (ci := 8) hK hP hD [3, 4, 5, 6] rfl rfl rfl rfl) rfl rfl hl.1 rfl (lv_room (Nat.le_of_ble_eq_true rfl)) dX4_goOverWay_28 ⟨Nat.le_of_ble_eq_true rfl, Nat.le_of_ble_eq_true rfl⟩) hP hD hS hA [3, 4, 5, 6] [0, 1, 2, 7, 8, 9] rfl rfl rfl (by decide) (fun r_28 uu9 H locs hw hP hD hS => ?_)
    have hP : va_P G vwCl [(g 0, .inr (4, [.ref (g 1), .ref (g 2)])), (g 1, .inl (cI, 5, .inl (fun i9 => nI (en i9)))), (g 2, .inl (cI, 5, .inl (fun i9 => nI (o i9)))), (h 0, .inr (1, [.ref (h 1), .ref (h 2), .int (nI rk), .int (nI sl)])), (h 1, .inl (cI, 7, .inl (fun i9 => nI (kd i9)))), (h 2, .inl (cI, 175, .inl (fun i9 => nI (tn i9)))), (b 0, .inr (8, [.ref (b 1), .ref (b 2), .ref (b 3), .int (nI tc)])), (b 1, .inl (cI, 6, .inl (fun i9 => nI (tr i9)))), (b 2, .inl (cI, 6, .inl (fun i9 => nI (tq i9)))), (b 3, .inl (cZ, 6, .inl (fun i9 => nI (td i9))))] _ := hP
    have hD : va_D A [(g 0, .inr (4, [.ref (g 1), .ref (g 2)])), (g 1, .inl (cI, 5, .inl (fun i9 => nI (en i9)))), (g 2, .inl (cI, 5, .inl (fun i9 => nI (o i9)))), (h 0, .inr (1, [.ref (h 1), .ref (h 2), .int (nI rk), .int (nI sl)])), (h 1, .inl (cI, 7, .inl (fun i9 => nI (kd i9)))), (h 2, .inl (cI, 175, .inl (fun i9 => nI (tn i9)))), (b 0, .inr (8, [.ref (b 1), .ref (b 2), .ref (b 3), .int (nI tc)])), (b 1, .inl (cI, 6, .inl (fun i9 => nI (tr i9)))), (b 2, .inl (cI, 6, .inl (fun i9 => nI (tq i9)))), (b 3, .inl (cZ, 6, .inl (fun i9 => nI (td i9))))] := hD
    obtain rfl := hw
    refine top_i (y := bI (alw tr tq td tc k (turnN (kd k) v))) rfl ?_
    refine lv_if_eq (tgt := 45) hx hb dX4_goOverWay_31 (by decide) (fun c_31 => ?_) (fun c_31 => ?_)
    · skip
      have c_31 := bI_f c_31
      refine lv_iconst (v := nI 0) hx hb dX4_goOverWay_45 (by decide) ?_
      refine ast (f' := fun i9 => nI ((va_up o (turnN (kd k) v) 0) i9)) hx hb hK hP hD hS 2 0 rfl rfl (j := turnN (kd k) v) (by omega) (by omega) (upd_nat) dX4_goOverWay_46 (fun H locs hP hD hS => ?_)
      have hP : va_P G vwCl [(g 0, .inr (4, [.ref (g 1), .ref (g 2)])), (g 1, .inl (cI, 5, .inl (fun i9 => nI (en i9)))), (g 2, .inl (cI, 5, .inl (fun i9 => nI ((va_up o (turnN (kd k) v) 0) i9)))), (h 0, .inr (1, [.ref (h 1), .ref (h 2), .int (nI rk), .int (nI sl)])), (h 1, .inl (cI, 7, .inl (fun i9 => nI (kd i9)))), (h 2, .inl (cI, 175, .inl (fun i9 => nI (tn i9)))), (b 0, .inr (8, [.ref (b 1), .ref (b 2), .ref (b 3), .int (nI tc)])), (b 1, .inl (cI, 6, .inl (fun i9 => nI (tr i9)))), (b 2, .inl (cI, 6, .inl (fun i9 => nI (tq i9)))), (b 3, .inl (cZ, 6, .inl (fun i9 => nI (td i9))))] _ := hP
      have hD : va_D A [(g 0, .inr (4, [.ref (g 1), .ref (g 2)])), (g 1, .inl (cI, 5, .inl (fun i9 => nI (en i9)))), (g 2, .inl (cI, 5, .inl (fun i9 => nI ((va_up o (turnN (kd k) v) 0) i9)))), (h 0, .inr (1, [.ref (h 1), .ref (h 2), .int (nI rk), .int (nI sl)])), (h 1, .inl (cI, 7, .inl (fun i9 => nI (kd i9)))), (h 2, .inl (cI, 175, .inl (fun i9 => nI (tn i9)))), (b 0, .inr (8, [.ref (b 1), .ref (b 2), .ref (b 3), .int (nI tc)])), (b 1, .inl (cI, 6, .inl (fun i9 => nI (tr i9)))), (b 2, .inl (cI, 6, .inl (fun i9 => nI (tq i9)))), (b 3, .inl (cZ, 6, .inl (fun i9 => nI (td i9))))] := hD
      refine lv_iinc (v := nI (v + 1)) (lv' := [(4, .int (nI (v + 1))), (5, .int (nI (turnN (kd k) v))), (0, .ref (g 0)), (1, .ref (h 0)), (2, .ref (b 0)), (3, .int (nI k))]) hx hb dX4_goOverWay_47 hl (k := 1) rfl (nI_inc _ 1 1 (by decide)) (by decide) rfl (fun ls hl => ?_)
      refine lv_goto (tgt := 3) hx hb dX4_goOverWay_50 (by decide) ?_
      exact ih_3 (v + 1, va_up o (turnN (kd k) v) 0) _ _ _ (by first | omega | (simp only []; omega) | (show _ < _; omega)) ⟨by first | assumption | omega | (simp; done), by first | exact nextR_upT (by omega) c_31 ho | exact nextR_upF (by omega) c_31 ho, hP.sub [0, 1, 2, 3, 4, 5, 6, 7, 8, 9] rfl, hD.sub [0, 1, 2, 3, 4, 5, 6, 7, 8, 9] (by decide) rfl, hS, lv_sub hl [0, 2, 3, 4, 5] rfl⟩
    · skip
      have c_31 := bI_t c_31
      refine lv_aload_n hx hb dX4_goOverWay_34 rfl (lv_at hl 2 rfl) ?_
      refine lv_aload_n hx hb dX4_goOverWay_35 rfl (lv_at hl 3 rfl) ?_
      refine lv_iload_n hx hb dX4_goOverWay_36 rfl (lv_at hl 5 rfl) ?_
      refine lv_iload hx hb dX4_goOverWay_37 (lv_at hl 1 rfl) ?_
      refine aft_i (wr := [(b 0, .inr (8, [.ref (b 1), .ref (b 2), .ref (b 3), .int (nI tc)])), (b 1, .inl (cI, 6, .inl (fun i9 => nI (tr i9)))), (b 2, .inl (cI, 6, .inl (fun i9 => nI (tq i9)))), (b 3, .inl (cZ, 6, .inl (fun i9 => nI (td i9))))]) (va_runV (As := [.ref (h 0), .int (nI k), .int (nI v)]) (rest := [.int (nI (turnN (kd k) v)), .ref (g 2)]) ⟨hx, hb, hml, hown, hts⟩ (c_X4_arriving (g := g) (en := en) (on := o) (h := h) (kd := kd) (tn := tn) (rk := rk) (sl := sl) (k := k) (v := v) (hok := by first | assumption | omega | exact hok.1 _ (by omega) | exact hok.2.2 _ _ (by omega) (by omega) | exact hok.2.1) (hk := by first | assumption | omega | exact hok.1 _ (by omega) | exact hok.2.2 _ _ (by omega) (by omega) | exact hok.2.1) (hv := by first | assumption | omega | exact hok.1 _ (by omega) | exact hok.2.2 _ _ (by omega) (by omega) | exact hok.2.1) _) (cwV 3 hts gX4_goOverWay_X4_arriving rfl rfl rfl (by decide +kernel) ⟨Nat.le_of_ble_eq_true rfl, Nat.le_of_ble_eq_true rfl⟩) (preV (cq := (RX4, TX4, 2)) (q0 := 0) (ci := 4) hK hP hD [0, 1, 2, 3, 4, 5] rfl rfl rfl rfl) rfl rfl hl.1 rfl (lv_room (Nat.le_of_ble_eq_true rfl)) dX4_goOverWay_39 ⟨Nat.le_of_ble_eq_true rfl, Nat.le_of_ble_eq_true rfl⟩) hP hD hS hA [0, 1, 2, 3, 4, 5] [6, 7, 8, 9] rfl rfl rfl (by decide) (fun r_39 uu9 H locs hw hP hD hS => ?_)
      have hP : va_P G vwCl [(b 0, .inr (8, [.ref (b 1), .ref (b 2), .ref (b 3), .int (nI tc)])), (b 1, .inl (cI, 6, .inl (fun i9 => nI (tr i9)))), (b 2, .inl (cI, 6, .inl (fun i9 => nI (tq i9)))), (b 3, .inl (cZ, 6, .inl (fun i9 => nI (td i9)))), (g 0, .inr (4, [.ref (g 1), .ref (g 2)])), (g 1, .inl (cI, 5, .inl (fun i9 => nI (en i9)))), (g 2, .inl (cI, 5, .inl (fun i9 => nI (o i9)))), (h 0, .inr (1, [.ref (h 1), .ref (h 2), .int (nI rk), .int (nI sl)])), (h 1, .inl (cI, 7, .inl (fun i9 => nI (kd i9)))), (h 2, .inl (cI, 175, .inl (fun i9 => nI (tn i9))))] _ := hP
      have hD : va_D A [(b 0, .inr (8, [.ref (b 1), .ref (b 2), .ref (b 3), .int (nI tc)])), (b 1, .inl (cI, 6, .inl (fun i9 => nI (tr i9)))), (b 2, .inl (cI, 6, .inl (fun i9 => nI (tq i9)))), (b 3, .inl (cZ, 6, .inl (fun i9 => nI (td i9)))), (g 0, .inr (4, [.ref (g 1), .ref (g 2)])), (g 1, .inl (cI, 5, .inl (fun i9 => nI (en i9)))), (g 2, .inl (cI, 5, .inl (fun i9 => nI (o i9)))), (h 0, .inr (1, [.ref (h 1), .ref (h 2), .int (nI rk), .int (nI sl)])), (h 1, .inl (cI, 7, .inl (fun i9 => nI (kd i9)))), (h 2, .inl (cI, 175, .inl (fun i9 => nI (tn i9))))] := hD
      obtain rfl := hw
      refine top_i (y := nI (arrN tn k en v)) rfl ?_
      refine lv_goto (tgt := 46) hx hb dX4_goOverWay_42 (by decide) ?_
      refine ast (f' := fun i9 => nI ((va_up o (turnN (kd k) v) (arrN tn k en v)) i9)) hx hb hK hP hD hS 6 0 rfl rfl (j := turnN (kd k) v) (by omega) (by omega) (upd_nat) dX4_goOverWay_46 (fun H locs hP hD hS => ?_)
      have hP : va_P G vwCl [(b 0, .inr (8, [.ref (b 1), .ref (b 2), .ref (b 3), .int (nI tc)])), (b 1, .inl (cI, 6, .inl (fun i9 => nI (tr i9)))), (b 2, .inl (cI, 6, .inl (fun i9 => nI (tq i9)))), (b 3, .inl (cZ, 6, .inl (fun i9 => nI (td i9)))), (g 0, .inr (4, [.ref (g 1), .ref (g 2)])), (g 1, .inl (cI, 5, .inl (fun i9 => nI (en i9)))), (g 2, .inl (cI, 5, .inl (fun i9 => nI ((va_up o (turnN (kd k) v) (arrN tn k en v)) i9)))), (h 0, .inr (1, [.ref (h 1), .ref (h 2), .int (nI rk), .int (nI sl)])), (h 1, .inl (cI, 7, .inl (fun i9 => nI (kd i9)))), (h 2, .inl (cI, 175, .inl (fun i9 => nI (tn i9))))] _ := hP
      have hD : va_D A [(b 0, .inr (8, [.ref (b 1), .ref (b 2), .ref (b 3), .int (nI tc)])), (b 1, .inl (cI, 6, .inl (fun i9 => nI (tr i9)))), (b 2, .inl (cI, 6, .inl (fun i9 => nI (tq i9)))), (b 3, .inl (cZ, 6, .inl (fun i9 => nI (td i9)))), (g 0, .inr (4, [.ref (g 1), .ref (g 2)])), (g 1, .inl (cI, 5, .inl (fun i9 => nI (en i9)))), (g 2, .inl (cI, 5, .inl (fun i9 => nI ((va_up o (turnN (kd k) v) (arrN tn k en v)) i9)))), (h 0, .inr (1, [.ref (h 1), .ref (h 2), .int (nI rk), .int (nI sl)])), (h 1, .inl (cI, 7, .inl (fun i9 => nI (kd i9)))), (h 2, .inl (cI, 175, .inl (fun i9 => nI (tn i9))))] := hD
      refine lv_iinc (v := nI (v + 1)) (lv' := [(4, .int (nI (v + 1))), (5, .int (nI (turnN (kd k) v))), (0, .ref (g 0)), (1, .ref (h 0)), (2, .ref (b 0)), (3, .int (nI k))]) hx hb dX4_goOverWay_47 hl (k := 1) rfl (nI_inc _ 1 1 (by decide)) (by decide) rfl (fun ls hl => ?_)
      refine lv_goto (tgt := 3) hx hb dX4_goOverWay_50 (by decide) ?_
      exact ih_3 (v + 1, va_up o (turnN (kd k) v) (arrN tn k en v)) _ _ _ (by first | omega | (simp only []; omega) | (show _ < _; omega)) ⟨by first | assumption | omega | (simp; done), by first | exact nextR_upT (by omega) c_31 ho | exact nextR_upF (by omega) c_31 ho, hP.sub [4, 5, 6, 7, 8, 9, 0, 1, 2, 3] rfl, hD.sub [4, 5, 6, 7, 8, 9, 0, 1, 2, 3] (by decide) rfl, hS, lv_sub hl [0, 2, 3, 4, 5] rfl⟩

set_option maxHeartbeats 4000000 in
set_option maxRecDepth 100000 in
theorem c_X4_countFrom {l : Launch} {G : va_G} {cI cJ cZ cS : ClassId} (g : Nat → Nat) (en : Nat → Nat) (on : Nat → Nat) (h : Nat → Nat) (kd : Nat → Nat) (tn : Nat → Nat) (rk : Nat) (sl : Nat) (b : Nat → Nat) (tr : Nat → Nat) (tq : Nat → Nat) (td : Nat → Nat) (tc : Nat) (o : Nat) (hok : ArmyOk kd tn) (htr : TrOk tr tq td tc) (hrk : rk < 8) (htc : tc < 7) (ho : o < 5) : CI l G (kT cI cJ cZ cS) (S := (Nat → Nat) × (Nat → Nat)) yX4_countFrom wsX4_countFrom { frames := 6, cells := 0, slots := 0, locals := 142 } [.ref (g 0), .ref (h 0), .ref (b 0), .int (nI o)] [(g 0, .inr (4, [.ref (g 1), .ref (g 2)])), (g 1, .inl (cI, 5, .inl (fun i9 => nI (en i9)))), (g 2, .inl (cI, 5, .inl (fun i9 => nI (on i9)))), (h 0, .inr (1, [.ref (h 1), .ref (h 2), .int (nI rk), .int (nI sl)])), (h 1, .inl (cI, 7, .inl (fun i9 => nI (kd i9)))), (h 2, .inl (cI, 175, .inl (fun i9 => nI (tn i9)))), (b 0, .inr (8, [.ref (b 1), .ref (b 2), .ref (b 3), .int (nI tc)])), (b 1, .inl (cI, 6, .inl (fun i9 => nI (tr i9)))), (b 2, .inl (cI, 6, .inl (fun i9 => nI (tq i9)))), (b 3, .inl (cZ, 6, .inl (fun i9 => nI (td i9))))] (fun res uu9 => match uu9 with | (e1, o1) => res = nI (cntN tn kd tr tq td tc rk o)) (fun uu9 => match uu9 with | (e1, o1) => [(g 0, .inr (4, [.ref (g 1), .ref (g 2)])), (g 1, .inl (cI, 5, .inl (fun i9 => nI (e1 i9)))), (g 2, .inl (cI, 5, .inl (fun i9 => nI (o1 i9)))), (h 0, .inr (1, [.ref (h 1), .ref (h 2), .int (nI rk), .int (nI sl)])), (h 1, .inl (cI, 7, .inl (fun i9 => nI (kd i9)))), (h 2, .inl (cI, 175, .inl (fun i9 => nI (tn i9)))), (b 0, .inr (8, [.ref (b 1), .ref (b 2), .ref (b 3), .int (nI tc)])), (b 1, .inl (cI, 6, .inl (fun i9 => nI (tr i9)))), (b 2, .inl (cI, 6, .inl (fun i9 => nI (tq i9)))), (b 3, .inl (cZ, 6, .inl (fun i9 => nI (td i9))))]) := by
  refine CI.of (cc := cX4_countFrom) (maxL := 7) (by decide) rfl (Nat.le_of_ble_eq_true rfl) ?_
  intro p e s m below meth c A ls hB
  obtain ⟨hx, hb, hml, hr, hts, hown, hlocks, hmn, hK, hP, hD, hS, hA, hl⟩ := hB
  have hP : va_P G vwCl [(g 0, .inr (4, [.ref (g 1), .ref (g 2)])), (g 1, .inl (cI, 5, .inl (fun i9 => nI (en i9)))), (g 2, .inl (cI, 5, .inl (fun i9 => nI (on i9)))), (h 0, .inr (1, [.ref (h 1), .ref (h 2), .int (nI rk), .int (nI sl)])), (h 1, .inl (cI, 7, .inl (fun i9 => nI (kd i9)))), (h 2, .inl (cI, 175, .inl (fun i9 => nI (tn i9)))), (b 0, .inr (8, [.ref (b 1), .ref (b 2), .ref (b 3), .int (nI tc)])), (b 1, .inl (cI, 6, .inl (fun i9 => nI (tr i9)))), (b 2, .inl (cI, 6, .inl (fun i9 => nI (tq i9)))), (b 3, .inl (cZ, 6, .inl (fun i9 => nI (td i9))))] s.heap := hP
  have hD : va_D A [(g 0, .inr (4, [.ref (g 1), .ref (g 2)])), (g 1, .inl (cI, 5, .inl (fun i9 => nI (en i9)))), (g 2, .inl (cI, 5, .inl (fun i9 => nI (on i9)))), (h 0, .inr (1, [.ref (h 1), .ref (h 2), .int (nI rk), .int (nI sl)])), (h 1, .inl (cI, 7, .inl (fun i9 => nI (kd i9)))), (h 2, .inl (cI, 175, .inl (fun i9 => nI (tn i9)))), (b 0, .inr (8, [.ref (b 1), .ref (b 2), .ref (b 3), .int (nI tc)])), (b 1, .inl (cI, 6, .inl (fun i9 => nI (tr i9)))), (b 2, .inl (cI, 6, .inl (fun i9 => nI (tq i9)))), (b 3, .inl (cZ, 6, .inl (fun i9 => nI (td i9))))] := hD
  have hl : lv_has ls 7 [(0, .ref (g 0)), (1, .ref (h 0)), (2, .ref (b 0)), (3, .int (nI o))] := hl
  have k_0 := hts (.fieldLink RX4 18 "HearsayMarch$Army" "ranks" "I") (by decide +kernel)
  have k_1 := hts (.fieldLink RX4 9 "HearsayMarch$Rows" "ending" "[I") (by decide +kernel)
  have hin1 : ∀ w ∈ wsX10, w ∈ wsX4_countFrom := by decide +kernel
  have hin4 : ∀ w ∈ wsX40, w ∈ wsX4_countFrom := by decide +kernel
  refine lv_aload_n hx hb dX4_countFrom_0 rfl (lv_at hl 1 rfl) ?_
  refine va_get (D := G) (ci := 1) (v := .int (nI rk)) (C := RX1) (T := TX1) (N := 4) hx hb hts hin1 hown hK.1 hP 3 rfl rfl 2 (by decide) k_0 (fun _ h9 => h9) rfl dX4_countFrom_1 ?_
  refine lv_if_ne (tgt := 9) hx hb dX4_countFrom_4 (by decide) (fun c_4 => ?_) (fun c_4 => ?_)
  · skip
    have c_4 := z_neT c_4 (by omega)
    have hkk := hok.1 0 (by omega)
    refine lv_iconst (v := nI 0) hx hb dX4_countFrom_9 (by decide) ?_
    refine lv_istore (lv' := [(4, .int (nI 0)), (0, .ref (g 0)), (1, .ref (h 0)), (2, .ref (b 0)), (3, .int (nI o))]) hx hb dX4_countFrom_10 hl (by decide) rfl (fun ls hl => ?_)
    refine loopW (σ := Nat × (Nat → Nat)) 12 (fun xx9 H locs ls => match xx9 with | (v, q) => (v ≤ 5) ∧ (∀ j, j < v → q j = 0) ∧ va_P G vwCl [(g 0, .inr (4, [.ref (g 1), .ref (g 2)])), (g 1, .inl (cI, 5, .inl (fun i9 => nI (q i9)))), (g 2, .inl (cI, 5, .inl (fun i9 => nI (on i9)))), (h 0, .inr (1, [.ref (h 1), .ref (h 2), .int (nI rk), .int (nI sl)])), (h 1, .inl (cI, 7, .inl (fun i9 => nI (kd i9)))), (h 2, .inl (cI, 175, .inl (fun i9 => nI (tn i9)))), (b 0, .inr (8, [.ref (b 1), .ref (b 2), .ref (b 3), .int (nI tc)])), (b 1, .inl (cI, 6, .inl (fun i9 => nI (tr i9)))), (b 2, .inl (cI, 6, .inl (fun i9 => nI (tq i9)))), (b 3, .inl (cZ, 6, .inl (fun i9 => nI (td i9))))] H ∧ va_D A [(g 0, .inr (4, [.ref (g 1), .ref (g 2)])), (g 1, .inl (cI, 5, .inl (fun i9 => nI (q i9)))), (g 2, .inl (cI, 5, .inl (fun i9 => nI (on i9)))), (h 0, .inr (1, [.ref (h 1), .ref (h 2), .int (nI rk), .int (nI sl)])), (h 1, .inl (cI, 7, .inl (fun i9 => nI (kd i9)))), (h 2, .inl (cI, 175, .inl (fun i9 => nI (tn i9)))), (b 0, .inr (8, [.ref (b 1), .ref (b 2), .ref (b 3), .int (nI tc)])), (b 1, .inl (cI, 6, .inl (fun i9 => nI (tr i9)))), (b 2, .inl (cI, 6, .inl (fun i9 => nI (tq i9)))), (b 3, .inl (cZ, 6, .inl (fun i9 => nI (td i9))))] ∧ va_S A s.heap H locs ∧ lv_has ls 7 [(4, .int (nI v)), (0, .ref (g 0)), (1, .ref (h 0)), (2, .ref (b 0)), (3, .int (nI o))]) (fun xx9 => match xx9 with | (v, q) => []) (fun xx9 => match xx9 with | (v, q) => 5 - v) ?_ (0, en) ⟨by first | assumption | omega | (simp; done), by first | assumption | omega | (simp; done), hP.sub [0, 1, 2, 3, 4, 5, 6, 7, 8, 9] rfl, hD.sub [0, 1, 2, 3, 4, 5, 6, 7, 8, 9] (by decide) rfl, hS, lv_sub hl [0, 1, 2, 3, 4] rfl⟩
    intro xx9 H locs ls hI ih_12
    obtain ⟨v, q⟩ := xx9
    obtain ⟨hv, hq, hP, hD, hS, hl⟩ := hI
    have hv : v ≤ 5 := hv
    have hq : ∀ j, j < v → q j = 0 := hq
    have hP : va_P G vwCl [(g 0, .inr (4, [.ref (g 1), .ref (g 2)])), (g 1, .inl (cI, 5, .inl (fun i9 => nI (q i9)))), (g 2, .inl (cI, 5, .inl (fun i9 => nI (on i9)))), (h 0, .inr (1, [.ref (h 1), .ref (h 2), .int (nI rk), .int (nI sl)])), (h 1, .inl (cI, 7, .inl (fun i9 => nI (kd i9)))), (h 2, .inl (cI, 175, .inl (fun i9 => nI (tn i9)))), (b 0, .inr (8, [.ref (b 1), .ref (b 2), .ref (b 3), .int (nI tc)])), (b 1, .inl (cI, 6, .inl (fun i9 => nI (tr i9)))), (b 2, .inl (cI, 6, .inl (fun i9 => nI (tq i9)))), (b 3, .inl (cZ, 6, .inl (fun i9 => nI (td i9))))] _ := hP
    have hD : va_D A [(g 0, .inr (4, [.ref (g 1), .ref (g 2)])), (g 1, .inl (cI, 5, .inl (fun i9 => nI (q i9)))), (g 2, .inl (cI, 5, .inl (fun i9 => nI (on i9)))), (h 0, .inr (1, [.ref (h 1), .ref (h 2), .int (nI rk), .int (nI sl)])), (h 1, .inl (cI, 7, .inl (fun i9 => nI (kd i9)))), (h 2, .inl (cI, 175, .inl (fun i9 => nI (tn i9)))), (b 0, .inr (8, [.ref (b 1), .ref (b 2), .ref (b 3), .int (nI tc)])), (b 1, .inl (cI, 6, .inl (fun i9 => nI (tr i9)))), (b 2, .inl (cI, 6, .inl (fun i9 => nI (tq i9)))), (b 3, .inl (cZ, 6, .inl (fun i9 => nI (td i9))))] := hD
    have hl : lv_has ls 7 [(4, .int (nI v)), (0, .ref (g 0)), (1, .ref (h 0)), (2, .ref (b 0)), (3, .int (nI o))] := hl
    refine lv_iload hx hb dX4_countFrom_12 (lv_at hl 0 rfl) ?_
    refine lv_iconst (v := nI 5) hx hb dX4_countFrom_14 (by decide) ?_
    refine lv_icmp_ge (tgt := 32) hx hb dX4_countFrom_15 (by decide) (fun c_15 => ?_) (fun c_15 => ?_)
    · skip
      have c_15 := n_geT c_15 (by omega) (by omega)
      have hv5 : v = 5 := by omega
      subst hv5
      refine lv_aload_n hx hb dX4_countFrom_32 rfl (lv_at hl 2 rfl) ?_
      refine lv_iconst (v := nI 0) hx hb dX4_countFrom_33 (by decide) ?_
      refine lv_iload_n hx hb dX4_countFrom_34 rfl (lv_at hl 4 rfl) ?_
      refine aft_i (wr := [(g 0, .inr (4, [.ref (g 1), .ref (g 2)])), (g 1, .inl (cI, 5, .inl (fun i9 => nI (q i9)))), (g 2, .inl (cI, 5, .inl (fun i9 => nI (on i9)))), (b 0, .inr (8, [.ref (b 1), .ref (b 2), .ref (b 3), .int (nI tc)])), (b 1, .inl (cI, 6, .inl (fun i9 => nI (tr i9)))), (b 2, .inl (cI, 6, .inl (fun i9 => nI (tq i9)))), (b 3, .inl (cZ, 6, .inl (fun i9 => nI (td i9))))]) (va_runV (As := [.int (nI 0), .int (nI o)]) (rest := []) ⟨hx, hb, hml, hown, hts⟩ (c_X1_hears (h := h) (kd := kd) (tn := tn) (rk := rk) (sl := sl) (k := 0) (o := o) (hk := by first | assumption | omega | exact hok.1 _ (by omega) | exact hok.2.2 _ _ (by omega) (by omega) | exact hok.2.1) (ho := by first | assumption | omega | exact hok.1 _ (by omega) | exact hok.2.2 _ _ (by omega) (by omega) | exact hok.2.1) (hd := by first | assumption | omega | exact hok.1 _ (by omega) | exact hok.2.2 _ _ (by omega) (by omega) | exact hok.2.1) _) (cwV 2 hts gX4_countFrom_X1_hears rfl rfl rfl (by decide +kernel) ⟨Nat.le_of_ble_eq_true rfl, Nat.le_of_ble_eq_true rfl⟩) (preV (cq := (RX1, TX1, 4)) (q0 := 3) (ci := 1) hK hP hD [3, 4, 5] rfl rfl rfl rfl) rfl rfl hl.1 rfl (lv_room (Nat.le_of_ble_eq_true rfl)) dX4_countFrom_35 ⟨Nat.le_of_ble_eq_true rfl, Nat.le_of_ble_eq_true rfl⟩) hP hD hS hA [3, 4, 5] [0, 1, 2, 6, 7, 8, 9] rfl rfl rfl (by decide) (fun r_35 uu9 H locs hw hP hD hS => ?_)
      have hP : va_P G vwCl [(g 0, .inr (4, [.ref (g 1), .ref (g 2)])), (g 1, .inl (cI, 5, .inl (fun i9 => nI (q i9)))), (g 2, .inl (cI, 5, .inl (fun i9 => nI (on i9)))), (b 0, .inr (8, [.ref (b 1), .ref (b 2), .ref (b 3), .int (nI tc)])), (b 1, .inl (cI, 6, .inl (fun i9 => nI (tr i9)))), (b 2, .inl (cI, 6, .inl (fun i9 => nI (tq i9)))), (b 3, .inl (cZ, 6, .inl (fun i9 => nI (td i9)))), (h 0, .inr (1, [.ref (h 1), .ref (h 2), .int (nI rk), .int (nI sl)])), (h 1, .inl (cI, 7, .inl (fun i9 => nI (kd i9)))), (h 2, .inl (cI, 175, .inl (fun i9 => nI (tn i9))))] _ := hP
      have hD : va_D A [(g 0, .inr (4, [.ref (g 1), .ref (g 2)])), (g 1, .inl (cI, 5, .inl (fun i9 => nI (q i9)))), (g 2, .inl (cI, 5, .inl (fun i9 => nI (on i9)))), (b 0, .inr (8, [.ref (b 1), .ref (b 2), .ref (b 3), .int (nI tc)])), (b 1, .inl (cI, 6, .inl (fun i9 => nI (tr i9)))), (b 2, .inl (cI, 6, .inl (fun i9 => nI (tq i9)))), (b 3, .inl (cZ, 6, .inl (fun i9 => nI (td i9)))), (h 0, .inr (1, [.ref (h 1), .ref (h 2), .int (nI rk), .int (nI sl)])), (h 1, .inl (cI, 7, .inl (fun i9 => nI (kd i9)))), (h 2, .inl (cI, 175, .inl (fun i9 => nI (tn i9))))] := hD
      obtain rfl := hw
      refine top_i (y := nI (turnN (kd 0) o)) rfl ?_
      refine lv_istore (lv' := [(4, .int (nI (turnN (kd 0) o))), (0, .ref (g 0)), (1, .ref (h 0)), (2, .ref (b 0)), (3, .int (nI o))]) hx hb dX4_countFrom_38 hl (by decide) rfl (fun ls hl => ?_)
      refine lv_aload_n hx hb dX4_countFrom_40 rfl (lv_at hl 1 rfl) ?_
      refine va_get (D := G) (ci := 4) (v := .ref (g 1)) (C := RX4) (T := TX4) (N := 2) hx hb hts hin4 hown hK.1 hP 0 rfl rfl 0 (by decide) k_1 (fun _ h9 => h9) rfl dX4_countFrom_41 ?_
      have ht9 := turnN_lt (kk := kd 0) (o := o) (by omega)
      refine lv_iload hx hb dX4_countFrom_44 (lv_at hl 0 rfl) ?_
      refine joinW (σ := Nat) 61 (fun (z : Nat) H locs ls => (z = pI (alw tr tq td tc 0 (turnN (kd 0) o)) 1 0) ∧ va_P G vwCl [(g 0, .inr (4, [.ref (g 1), .ref (g 2)])), (g 1, .inl (cI, 5, .inl (fun i9 => nI (q i9)))), (g 2, .inl (cI, 5, .inl (fun i9 => nI (on i9)))), (b 0, .inr (8, [.ref (b 1), .ref (b 2), .ref (b 3), .int (nI tc)])), (b 1, .inl (cI, 6, .inl (fun i9 => nI (tr i9)))), (b 2, .inl (cI, 6, .inl (fun i9 => nI (tq i9)))), (b 3, .inl (cZ, 6, .inl (fun i9 => nI (td i9)))), (h 0, .inr (1, [.ref (h 1), .ref (h 2), .int (nI rk), .int (nI sl)])), (h 1, .inl (cI, 7, .inl (fun i9 => nI (kd i9)))), (h 2, .inl (cI, 175, .inl (fun i9 => nI (tn i9))))] H ∧ va_D A [(g 0, .inr (4, [.ref (g 1), .ref (g 2)])), (g 1, .inl (cI, 5, .inl (fun i9 => nI (q i9)))), (g 2, .inl (cI, 5, .inl (fun i9 => nI (on i9)))), (b 0, .inr (8, [.ref (b 1), .ref (b 2), .ref (b 3), .int (nI tc)])), (b 1, .inl (cI, 6, .inl (fun i9 => nI (tr i9)))), (b 2, .inl (cI, 6, .inl (fun i9 => nI (tq i9)))), (b 3, .inl (cZ, 6, .inl (fun i9 => nI (td i9)))), (h 0, .inr (1, [.ref (h 1), .ref (h 2), .int (nI rk), .int (nI sl)])), (h 1, .inl (cI, 7, .inl (fun i9 => nI (kd i9)))), (h 2, .inl (cI, 175, .inl (fun i9 => nI (tn i9))))] ∧ va_S A s.heap H locs ∧ lv_has ls 7 [(4, .int (nI (turnN (kd 0) o))), (0, .ref (g 0)), (1, .ref (h 0)), (2, .ref (b 0)), (3, .int (nI o))]) (fun (z : Nat) => [.int (nI z), .int (nI (turnN (kd 0) o)), .ref (g 1)]) ?_ (fun j_61 => ?_)
      · intro xx9 H locs ls hI
        obtain ⟨z, rfl⟩ : ∃ z, z = xx9 := ⟨_, rfl⟩
        obtain ⟨hz, hP, hD, hS, hl⟩ := hI
        have hz : z = pI (alw tr tq td tc 0 (turnN (kd 0) o)) 1 0 := hz
        have hP : va_P G vwCl [(g 0, .inr (4, [.ref (g 1), .ref (g 2)])), (g 1, .inl (cI, 5, .inl (fun i9 => nI (q i9)))), (g 2, .inl (cI, 5, .inl (fun i9 => nI (on i9)))), (b 0, .inr (8, [.ref (b 1), .ref (b 2), .ref (b 3), .int (nI tc)])), (b 1, .inl (cI, 6, .inl (fun i9 => nI (tr i9)))), (b 2, .inl (cI, 6, .inl (fun i9 => nI (tq i9)))), (b 3, .inl (cZ, 6, .inl (fun i9 => nI (td i9)))), (h 0, .inr (1, [.ref (h 1), .ref (h 2), .int (nI rk), .int (nI sl)])), (h 1, .inl (cI, 7, .inl (fun i9 => nI (kd i9)))), (h 2, .inl (cI, 175, .inl (fun i9 => nI (tn i9))))] _ := hP
        have hD : va_D A [(g 0, .inr (4, [.ref (g 1), .ref (g 2)])), (g 1, .inl (cI, 5, .inl (fun i9 => nI (q i9)))), (g 2, .inl (cI, 5, .inl (fun i9 => nI (on i9)))), (b 0, .inr (8, [.ref (b 1), .ref (b 2), .ref (b 3), .int (nI tc)])), (b 1, .inl (cI, 6, .inl (fun i9 => nI (tr i9)))), (b 2, .inl (cI, 6, .inl (fun i9 => nI (tq i9)))), (b 3, .inl (cZ, 6, .inl (fun i9 => nI (td i9)))), (h 0, .inr (1, [.ref (h 1), .ref (h 2), .int (nI rk), .int (nI sl)])), (h 1, .inl (cI, 7, .inl (fun i9 => nI (kd i9)))), (h 2, .inl (cI, 175, .inl (fun i9 => nI (tn i9))))] := hD
        have hl : lv_has ls 7 [(4, .int (nI (turnN (kd 0) o))), (0, .ref (g 0)), (1, .ref (h 0)), (2, .ref (b 0)), (3, .int (nI o))] := hl
        refine ast (f' := fun i9 => nI ((va_up q (turnN (kd 0) o) z) i9)) hx hb hK hP hD hS 1 0 rfl rfl (j := turnN (kd 0) o) (by omega) (by omega) (upd_nat) dX4_countFrom_61 (fun H locs hP hD hS => ?_)
        have hP : va_P G vwCl [(g 0, .inr (4, [.ref (g 1), .ref (g 2)])), (g 1, .inl (cI, 5, .inl (fun i9 => nI ((va_up q (turnN (kd 0) o) z) i9)))), (g 2, .inl (cI, 5, .inl (fun i9 => nI (on i9)))), (b 0, .inr (8, [.ref (b 1), .ref (b 2), .ref (b 3), .int (nI tc)])), (b 1, .inl (cI, 6, .inl (fun i9 => nI (tr i9)))), (b 2, .inl (cI, 6, .inl (fun i9 => nI (tq i9)))), (b 3, .inl (cZ, 6, .inl (fun i9 => nI (td i9)))), (h 0, .inr (1, [.ref (h 1), .ref (h 2), .int (nI rk), .int (nI sl)])), (h 1, .inl (cI, 7, .inl (fun i9 => nI (kd i9)))), (h 2, .inl (cI, 175, .inl (fun i9 => nI (tn i9))))] _ := hP
        have hD : va_D A [(g 0, .inr (4, [.ref (g 1), .ref (g 2)])), (g 1, .inl (cI, 5, .inl (fun i9 => nI ((va_up q (turnN (kd 0) o) z) i9)))), (g 2, .inl (cI, 5, .inl (fun i9 => nI (on i9)))), (b 0, .inr (8, [.ref (b 1), .ref (b 2), .ref (b 3), .int (nI tc)])), (b 1, .inl (cI, 6, .inl (fun i9 => nI (tr i9)))), (b 2, .inl (cI, 6, .inl (fun i9 => nI (tq i9)))), (b 3, .inl (cZ, 6, .inl (fun i9 => nI (td i9)))), (h 0, .inr (1, [.ref (h 1), .ref (h 2), .int (nI rk), .int (nI sl)])), (h 1, .inl (cI, 7, .inl (fun i9 => nI (kd i9)))), (h 2, .inl (cI, 175, .inl (fun i9 => nI (tn i9))))] := hD
        refine lv_iconst (v := nI 1) hx hb dX4_countFrom_62 (by decide) ?_
        refine lv_istore (lv' := [(5, .int (nI 1)), (4, .int (nI (turnN (kd 0) o))), (0, .ref (g 0)), (1, .ref (h 0)), (2, .ref (b 0)), (3, .int (nI o))]) hx hb dX4_countFrom_63 hl (by decide) rfl (fun ls hl => ?_)
        refine loopW (σ := Nat × (Nat → Nat) × (Nat → Nat)) 65 (fun xx9 H locs ls => match xx9 with | (i, q1, n1) => (i + 1 ≤ rk) ∧ (∀ w, w < 5 → q1 w = rowsP tn kd tr tq td tc o i w) ∧ va_P G vwCl [(g 0, .inr (4, [.ref (g 1), .ref (g 2)])), (g 1, .inl (cI, 5, .inl (fun i9 => nI (q1 i9)))), (g 2, .inl (cI, 5, .inl (fun i9 => nI (n1 i9)))), (b 0, .inr (8, [.ref (b 1), .ref (b 2), .ref (b 3), .int (nI tc)])), (b 1, .inl (cI, 6, .inl (fun i9 => nI (tr i9)))), (b 2, .inl (cI, 6, .inl (fun i9 => nI (tq i9)))), (b 3, .inl (cZ, 6, .inl (fun i9 => nI (td i9)))), (h 0, .inr (1, [.ref (h 1), .ref (h 2), .int (nI rk), .int (nI sl)])), (h 1, .inl (cI, 7, .inl (fun i9 => nI (kd i9)))), (h 2, .inl (cI, 175, .inl (fun i9 => nI (tn i9))))] H ∧ va_D A [(g 0, .inr (4, [.ref (g 1), .ref (g 2)])), (g 1, .inl (cI, 5, .inl (fun i9 => nI (q1 i9)))), (g 2, .inl (cI, 5, .inl (fun i9 => nI (n1 i9)))), (b 0, .inr (8, [.ref (b 1), .ref (b 2), .ref (b 3), .int (nI tc)])), (b 1, .inl (cI, 6, .inl (fun i9 => nI (tr i9)))), (b 2, .inl (cI, 6, .inl (fun i9 => nI (tq i9)))), (b 3, .inl (cZ, 6, .inl (fun i9 => nI (td i9)))), (h 0, .inr (1, [.ref (h 1), .ref (h 2), .int (nI rk), .int (nI sl)])), (h 1, .inl (cI, 7, .inl (fun i9 => nI (kd i9)))), (h 2, .inl (cI, 175, .inl (fun i9 => nI (tn i9))))] ∧ va_S A s.heap H locs ∧ lv_has ls 7 [(5, .int (nI (i + 1))), (4, .int (nI (turnN (kd 0) o))), (0, .ref (g 0)), (1, .ref (h 0)), (2, .ref (b 0)), (3, .int (nI o))]) (fun xx9 => match xx9 with | (i, q1, n1) => []) (fun xx9 => match xx9 with | (i, q1, n1) => rk - i) ?_ (0, va_up q (turnN (kd 0) o) z, on) ⟨by first | assumption | omega | (simp; done), rowsP_0 hq hz, hP.sub [0, 1, 2, 3, 4, 5, 6, 7, 8, 9] rfl, hD.sub [0, 1, 2, 3, 4, 5, 6, 7, 8, 9] (by decide) rfl, hS, lv_sub hl [0, 1, 2, 3, 4, 5] rfl⟩
        intro xx9 H locs ls hI ih_65
        obtain ⟨i, q1, n1⟩ := xx9
        obtain ⟨hi, hq1, hP, hD, hS, hl⟩ := hI
        have hi : i + 1 ≤ rk := hi
        have hq1 : ∀ w, w < 5 → q1 w = rowsP tn kd tr tq td tc o i w := hq1
        have hP : va_P G vwCl [(g 0, .inr (4, [.ref (g 1), .ref (g 2)])), (g 1, .inl (cI, 5, .inl (fun i9 => nI (q1 i9)))), (g 2, .inl (cI, 5, .inl (fun i9 => nI (n1 i9)))), (b 0, .inr (8, [.ref (b 1), .ref (b 2), .ref (b 3), .int (nI tc)])), (b 1, .inl (cI, 6, .inl (fun i9 => nI (tr i9)))), (b 2, .inl (cI, 6, .inl (fun i9 => nI (tq i9)))), (b 3, .inl (cZ, 6, .inl (fun i9 => nI (td i9)))), (h 0, .inr (1, [.ref (h 1), .ref (h 2), .int (nI rk), .int (nI sl)])), (h 1, .inl (cI, 7, .inl (fun i9 => nI (kd i9)))), (h 2, .inl (cI, 175, .inl (fun i9 => nI (tn i9))))] _ := hP
        have hD : va_D A [(g 0, .inr (4, [.ref (g 1), .ref (g 2)])), (g 1, .inl (cI, 5, .inl (fun i9 => nI (q1 i9)))), (g 2, .inl (cI, 5, .inl (fun i9 => nI (n1 i9)))), (b 0, .inr (8, [.ref (b 1), .ref (b 2), .ref (b 3), .int (nI tc)])), (b 1, .inl (cI, 6, .inl (fun i9 => nI (tr i9)))), (b 2, .inl (cI, 6, .inl (fun i9 => nI (tq i9)))), (b 3, .inl (cZ, 6, .inl (fun i9 => nI (td i9)))), (h 0, .inr (1, [.ref (h 1), .ref (h 2), .int (nI rk), .int (nI sl)])), (h 1, .inl (cI, 7, .inl (fun i9 => nI (kd i9)))), (h 2, .inl (cI, 175, .inl (fun i9 => nI (tn i9))))] := hD
        have hl : lv_has ls 7 [(5, .int (nI (i + 1))), (4, .int (nI (turnN (kd 0) o))), (0, .ref (g 0)), (1, .ref (h 0)), (2, .ref (b 0)), (3, .int (nI o))] := hl
        refine lv_iload hx hb dX4_countFrom_65 (lv_at hl 0 rfl) ?_
        refine lv_aload_n hx hb dX4_countFrom_67 rfl (lv_at hl 3 rfl) ?_
        refine va_get (D := G) (ci := 1) (v := .int (nI rk)) (C := RX1) (T := TX1) (N := 4) hx hb hts hin1 hown hK.1 hP 7 rfl rfl 2 (by decide) k_0 (fun _ h9 => h9) rfl dX4_countFrom_68 ?_
        refine lv_icmp_ge (tgt := 88) hx hb dX4_countFrom_71 (by decide) (fun c_71 => ?_) (fun c_71 => ?_)
        · skip
          have c_71 := n_geT c_71 (by omega) (by omega)
          have hir : i + 1 = rk := by omega
          refine lv_iconst (v := nI 0) hx hb dX4_countFrom_88 (by decide) ?_
          refine lv_istore (lv' := [(5, .int (nI 0)), (4, .int (nI (turnN (kd 0) o))), (0, .ref (g 0)), (1, .ref (h 0)), (2, .ref (b 0)), (3, .int (nI o))]) hx hb dX4_countFrom_89 hl (by decide) rfl (fun ls hl => ?_)
          refine lv_iconst (v := nI 0) hx hb dX4_countFrom_91 (by decide) ?_
          refine lv_istore (lv' := [(6, .int (nI 0)), (5, .int (nI 0)), (4, .int (nI (turnN (kd 0) o))), (0, .ref (g 0)), (1, .ref (h 0)), (2, .ref (b 0)), (3, .int (nI o))]) hx hb dX4_countFrom_92 hl (by decide) rfl (fun ls hl => ?_)
          refine loopW (σ := Nat) 94 (fun (y : Nat) H locs ls => (y ≤ 5) ∧ va_P G vwCl [(g 0, .inr (4, [.ref (g 1), .ref (g 2)])), (g 1, .inl (cI, 5, .inl (fun i9 => nI (q1 i9)))), (g 2, .inl (cI, 5, .inl (fun i9 => nI (n1 i9)))), (b 0, .inr (8, [.ref (b 1), .ref (b 2), .ref (b 3), .int (nI tc)])), (b 1, .inl (cI, 6, .inl (fun i9 => nI (tr i9)))), (b 2, .inl (cI, 6, .inl (fun i9 => nI (tq i9)))), (b 3, .inl (cZ, 6, .inl (fun i9 => nI (td i9)))), (h 0, .inr (1, [.ref (h 1), .ref (h 2), .int (nI rk), .int (nI sl)])), (h 1, .inl (cI, 7, .inl (fun i9 => nI (kd i9)))), (h 2, .inl (cI, 175, .inl (fun i9 => nI (tn i9))))] H ∧ va_D A [(g 0, .inr (4, [.ref (g 1), .ref (g 2)])), (g 1, .inl (cI, 5, .inl (fun i9 => nI (q1 i9)))), (g 2, .inl (cI, 5, .inl (fun i9 => nI (n1 i9)))), (b 0, .inr (8, [.ref (b 1), .ref (b 2), .ref (b 3), .int (nI tc)])), (b 1, .inl (cI, 6, .inl (fun i9 => nI (tr i9)))), (b 2, .inl (cI, 6, .inl (fun i9 => nI (tq i9)))), (b 3, .inl (cZ, 6, .inl (fun i9 => nI (td i9)))), (h 0, .inr (1, [.ref (h 1), .ref (h 2), .int (nI rk), .int (nI sl)])), (h 1, .inl (cI, 7, .inl (fun i9 => nI (kd i9)))), (h 2, .inl (cI, 175, .inl (fun i9 => nI (tn i9))))] ∧ va_S A s.heap H locs ∧ lv_has ls 7 [(6, .int (nI y)), (5, .int (nI (sumN q1 y))), (4, .int (nI (turnN (kd 0) o))), (0, .ref (g 0)), (1, .ref (h 0)), (2, .ref (b 0)), (3, .int (nI o))]) (fun (y : Nat) => []) (fun (y : Nat) => 5 - y) ?_ 0 ⟨by first | assumption | omega | (simp; done), hP.sub [0, 1, 2, 3, 4, 5, 6, 7, 8, 9] rfl, hD.sub [0, 1, 2, 3, 4, 5, 6, 7, 8, 9] (by decide) rfl, hS, lv_sub hl [0, 1, 2, 3, 4, 5, 6] rfl⟩
          intro xx9 H locs ls hI ih_94
          obtain ⟨y, rfl⟩ : ∃ z, z = xx9 := ⟨_, rfl⟩
          obtain ⟨hy, hP, hD, hS, hl⟩ := hI
          have hy : y ≤ 5 := hy
          have hP : va_P G vwCl [(g 0, .inr (4, [.ref (g 1), .ref (g 2)])), (g 1, .inl (cI, 5, .inl (fun i9 => nI (q1 i9)))), (g 2, .inl (cI, 5, .inl (fun i9 => nI (n1 i9)))), (b 0, .inr (8, [.ref (b 1), .ref (b 2), .ref (b 3), .int (nI tc)])), (b 1, .inl (cI, 6, .inl (fun i9 => nI (tr i9)))), (b 2, .inl (cI, 6, .inl (fun i9 => nI (tq i9)))), (b 3, .inl (cZ, 6, .inl (fun i9 => nI (td i9)))), (h 0, .inr (1, [.ref (h 1), .ref (h 2), .int (nI rk), .int (nI sl)])), (h 1, .inl (cI, 7, .inl (fun i9 => nI (kd i9)))), (h 2, .inl (cI, 175, .inl (fun i9 => nI (tn i9))))] _ := hP
          have hD : va_D A [(g 0, .inr (4, [.ref (g 1), .ref (g 2)])), (g 1, .inl (cI, 5, .inl (fun i9 => nI (q1 i9)))), (g 2, .inl (cI, 5, .inl (fun i9 => nI (n1 i9)))), (b 0, .inr (8, [.ref (b 1), .ref (b 2), .ref (b 3), .int (nI tc)])), (b 1, .inl (cI, 6, .inl (fun i9 => nI (tr i9)))), (b 2, .inl (cI, 6, .inl (fun i9 => nI (tq i9)))), (b 3, .inl (cZ, 6, .inl (fun i9 => nI (td i9)))), (h 0, .inr (1, [.ref (h 1), .ref (h 2), .int (nI rk), .int (nI sl)])), (h 1, .inl (cI, 7, .inl (fun i9 => nI (kd i9)))), (h 2, .inl (cI, 175, .inl (fun i9 => nI (tn i9))))] := hD
          have hl : lv_has ls 7 [(6, .int (nI y)), (5, .int (nI (sumN q1 y))), (4, .int (nI (turnN (kd 0) o))), (0, .ref (g 0)), (1, .ref (h 0)), (2, .ref (b 0)), (3, .int (nI o))] := hl
          refine lv_iload hx hb dX4_countFrom_94 (lv_at hl 0 rfl) ?_
          refine lv_iconst (v := nI 5) hx hb dX4_countFrom_96 (by decide) ?_
          refine lv_icmp_ge (tgt := 118) hx hb dX4_countFrom_97 (by decide) (fun c_97 => ?_) (fun c_97 => ?_)
          · skip
            have c_97 := n_geT c_97 (by omega) (by omega)
            refine lv_iload hx hb dX4_countFrom_118 (lv_at hl 1 rfl) ?_
            exact endI hx hb hr hlocks ((q1, n1)) (by rw [cntN, if_neg c_4, show y = 5 by omega, show rk - 1 = i by omega]; exact congrArg nI (sumN_congr hq1)) (hP.sub [0, 1, 2, 7, 8, 9, 3, 4, 5, 6] rfl) (hD.sub [0, 1, 2, 7, 8, 9, 3, 4, 5, 6] (by decide) rfl) hS dX4_countFrom_120
          · skip
            have c_97 := n_geF c_97 (by omega) (by omega)
            refine lv_iload hx hb dX4_countFrom_100 (lv_at hl 1 rfl) ?_
            refine lv_aload_n hx hb dX4_countFrom_102 rfl (lv_at hl 3 rfl) ?_
            refine va_get (D := G) (ci := 4) (v := .ref (g 1)) (C := RX4) (T := TX4) (N := 2) hx hb hts hin4 hown hK.1 hP 0 rfl rfl 0 (by decide) k_1 (fun _ h9 => h9) rfl dX4_countFrom_103 ?_
            refine lv_iload hx hb dX4_countFrom_106 (lv_at hl 0 rfl) ?_
            refine ald hx hb hK hP 1 0 rfl rfl (j := y) (by omega) (by omega) dX4_countFrom_108 ?_
            refine lv_iadd hx hb dX4_countFrom_109 ?_
            refine top_i (y := nI (sumN q1 y + (q1 y))) (nI_add _ _) ?_
            refine lv_istore (lv' := [(5, .int (nI (sumN q1 y + (q1 y)))), (6, .int (nI y)), (4, .int (nI (turnN (kd 0) o))), (0, .ref (g 0)), (1, .ref (h 0)), (2, .ref (b 0)), (3, .int (nI o))]) hx hb dX4_countFrom_110 hl (by decide) rfl (fun ls hl => ?_)
            refine lv_iinc (v := nI (y + 1)) (lv' := [(6, .int (nI (y + 1))), (5, .int (nI (sumN q1 y + (q1 y)))), (4, .int (nI (turnN (kd 0) o))), (0, .ref (g 0)), (1, .ref (h 0)), (2, .ref (b 0)), (3, .int (nI o))]) hx hb dX4_countFrom_112 hl (k := 1) rfl (nI_inc _ 1 1 (by decide)) (by decide) rfl (fun ls hl => ?_)
            refine lv_goto (tgt := 94) hx hb dX4_countFrom_115 (by decide) ?_
            exact ih_94 (y + 1) _ _ _ (by first | omega | (simp only []; omega) | (show _ < _; omega)) ⟨by first | assumption | omega | (simp; done), hP.sub [0, 1, 2, 3, 4, 5, 6, 7, 8, 9] rfl, hD.sub [0, 1, 2, 3, 4, 5, 6, 7, 8, 9] (by decide) rfl, hS, lv_sub hl [0, 1, 2, 3, 4, 5, 6] rfl⟩
        · skip
          have c_71 := n_geF c_71 (by omega) (by omega)
          refine lv_aload_n hx hb dX4_countFrom_74 rfl (lv_at hl 2 rfl) ?_
          refine lv_aload_n hx hb dX4_countFrom_75 rfl (lv_at hl 3 rfl) ?_
          refine lv_aload_n hx hb dX4_countFrom_76 rfl (lv_at hl 4 rfl) ?_
          refine lv_iload hx hb dX4_countFrom_77 (lv_at hl 0 rfl) ?_
          refine aft_v (wr := []) (va_runV (As := [.ref (h 0), .ref (b 0), .int (nI (i + 1))]) (rest := []) ⟨hx, hb, hml, hown, hts⟩ (c_X4_goOverWay (g := g) (en := q1) (on := n1) (h := h) (kd := kd) (tn := tn) (rk := rk) (sl := sl) (b := b) (tr := tr) (tq := tq) (td := td) (tc := tc) (k := i + 1) (hok := by first | assumption | omega | exact hok.1 _ (by omega) | exact hok.2.2 _ _ (by omega) (by omega) | exact hok.2.1) (htr := by first | assumption | omega | exact hok.1 _ (by omega) | exact hok.2.2 _ _ (by omega) (by omega) | exact hok.2.1) (hk := by first | assumption | omega | exact hok.1 _ (by omega) | exact hok.2.2 _ _ (by omega) (by omega) | exact hok.2.1) (htc := by first | assumption | omega | exact hok.1 _ (by omega) | exact hok.2.2 _ _ (by omega) (by omega) | exact hok.2.1) _) (cwV 3 hts gX4_countFrom_X4_goOverWay rfl rfl rfl (by decide +kernel) ⟨Nat.le_of_ble_eq_true rfl, Nat.le_of_ble_eq_true rfl⟩) (preV (cq := (RX4, TX4, 2)) (q0 := 0) (ci := 4) hK hP hD [0, 1, 2, 7, 8, 9, 3, 4, 5, 6] rfl rfl rfl rfl) rfl rfl hl.1 rfl (lv_room (Nat.le_of_ble_eq_true rfl)) dX4_countFrom_79 ⟨Nat.le_of_ble_eq_true rfl, Nat.le_of_ble_eq_true rfl⟩) hP hD hS hA [0, 1, 2, 7, 8, 9, 3, 4, 5, 6] [] rfl rfl rfl (by decide) (fun uu9 H locs hw hP hD hS => ?_)
          obtain ⟨e1_79, o1_79⟩ := uu9
          have hP : va_P G vwCl [(g 0, .inr (4, [.ref (g 1), .ref (g 2)])), (g 1, .inl (cI, 5, .inl (fun i9 => nI (e1_79 i9)))), (g 2, .inl (cI, 5, .inl (fun i9 => nI (o1_79 i9)))), (h 0, .inr (1, [.ref (h 1), .ref (h 2), .int (nI rk), .int (nI sl)])), (h 1, .inl (cI, 7, .inl (fun i9 => nI (kd i9)))), (h 2, .inl (cI, 175, .inl (fun i9 => nI (tn i9)))), (b 0, .inr (8, [.ref (b 1), .ref (b 2), .ref (b 3), .int (nI tc)])), (b 1, .inl (cI, 6, .inl (fun i9 => nI (tr i9)))), (b 2, .inl (cI, 6, .inl (fun i9 => nI (tq i9)))), (b 3, .inl (cZ, 6, .inl (fun i9 => nI (td i9))))] _ := hP
          have hD : va_D A [(g 0, .inr (4, [.ref (g 1), .ref (g 2)])), (g 1, .inl (cI, 5, .inl (fun i9 => nI (e1_79 i9)))), (g 2, .inl (cI, 5, .inl (fun i9 => nI (o1_79 i9)))), (h 0, .inr (1, [.ref (h 1), .ref (h 2), .int (nI rk), .int (nI sl)])), (h 1, .inl (cI, 7, .inl (fun i9 => nI (kd i9)))), (h 2, .inl (cI, 175, .inl (fun i9 => nI (tn i9)))), (b 0, .inr (8, [.ref (b 1), .ref (b 2), .ref (b 3), .int (nI tc)])), (b 1, .inl (cI, 6, .inl (fun i9 => nI (tr i9)))), (b 2, .inl (cI, 6, .inl (fun i9 => nI (tq i9)))), (b 3, .inl (cZ, 6, .inl (fun i9 => nI (td i9))))] := hD
          have hw_79 : ∀ w, w < 5 → e1_79 w = nextR tn kd tr tq td tc (i + 1) q1 w := hw
          refine lv_iinc (v := nI (i + 1 + 1)) (lv' := [(5, .int (nI (i + 1 + 1))), (4, .int (nI (turnN (kd 0) o))), (0, .ref (g 0)), (1, .ref (h 0)), (2, .ref (b 0)), (3, .int (nI o))]) hx hb dX4_countFrom_82 hl (k := 0) rfl (nI_inc _ 1 1 (by decide)) (by decide) rfl (fun ls hl => ?_)
          refine lv_goto (tgt := 65) hx hb dX4_countFrom_85 (by decide) ?_
          exact ih_65 ((i + 1), e1_79, o1_79) _ _ _ (by first | omega | (simp only []; omega) | (show _ < _; omega)) ⟨by first | assumption | omega | (simp; done), fun w hw => by rw [hw_79 w hw]; exact nextR_congr (by omega) hq1, hP.sub [0, 1, 2, 6, 7, 8, 9, 3, 4, 5] rfl, hD.sub [0, 1, 2, 6, 7, 8, 9, 3, 4, 5] (by decide) rfl, hS, lv_sub hl [0, 1, 2, 3, 4, 5] rfl⟩
      · skip
        refine lv_aload_n hx hb dX4_countFrom_46 rfl (lv_at hl 3 rfl) ?_
        refine lv_iconst (v := nI 0) hx hb dX4_countFrom_47 (by decide) ?_
        refine lv_iload hx hb dX4_countFrom_48 (lv_at hl 0 rfl) ?_
        refine aft_i (wr := [(g 0, .inr (4, [.ref (g 1), .ref (g 2)])), (g 1, .inl (cI, 5, .inl (fun i9 => nI (q i9)))), (g 2, .inl (cI, 5, .inl (fun i9 => nI (on i9)))), (h 0, .inr (1, [.ref (h 1), .ref (h 2), .int (nI rk), .int (nI sl)])), (h 1, .inl (cI, 7, .inl (fun i9 => nI (kd i9)))), (h 2, .inl (cI, 175, .inl (fun i9 => nI (tn i9))))]) (va_runV (As := [.int (nI 0), .int (nI (turnN (kd 0) o))]) (rest := [.int (nI (turnN (kd 0) o)), .ref (g 1)]) ⟨hx, hb, hml, hown, hts⟩ (c_X8_allow (h := b) (tr := tr) (tq := tq) (td := td) (tc := tc) (k := 0) (o := turnN (kd 0) o) (htc := by first | assumption | omega | exact hok.1 _ (by omega) | exact hok.2.2 _ _ (by omega) (by omega) | exact hok.2.1) (hk := by first | assumption | omega | exact hok.1 _ (by omega) | exact hok.2.2 _ _ (by omega) (by omega) | exact hok.2.1) (ho := by first | assumption | omega | exact hok.1 _ (by omega) | exact hok.2.2 _ _ (by omega) (by omega) | exact hok.2.1) (hr9 := by first | assumption | omega | exact hok.1 _ (by omega) | exact hok.2.2 _ _ (by omega) (by omega) | exact hok.2.1) _) (cwV 2 hts gX4_countFrom_X8_allow rfl rfl rfl (by decide +kernel) ⟨Nat.le_of_ble_eq_true rfl, Nat.le_of_ble_eq_true rfl⟩) (preV (cq := (RX8, TX8, 4)) (q0 := 3) (ci := 8) hK hP hD [3, 4, 5, 6] rfl rfl rfl rfl) rfl rfl hl.1 rfl (lv_room (Nat.le_of_ble_eq_true rfl)) dX4_countFrom_50 ⟨Nat.le_of_ble_eq_true rfl, Nat.le_of_ble_eq_true rfl⟩) hP hD hS hA [3, 4, 5, 6] [0, 1, 2, 7, 8, 9] rfl rfl rfl (by decide) (fun r_50 uu9 H locs hw hP hD hS => ?_)
        have hP : va_P G vwCl [(g 0, .inr (4, [.ref (g 1), .ref (g 2)])), (g 1, .inl (cI, 5, .inl (fun i9 => nI (q i9)))), (g 2, .inl (cI, 5, .inl (fun i9 => nI (on i9)))), (h 0, .inr (1, [.ref (h 1), .ref (h 2), .int (nI rk), .int (nI sl)])), (h 1, .inl (cI, 7, .inl (fun i9 => nI (kd i9)))), (h 2, .inl (cI, 175, .inl (fun i9 => nI (tn i9)))), (b 0, .inr (8, [.ref (b 1), .ref (b 2), .ref (b 3), .int (nI tc)])), (b 1, .inl (cI, 6, .inl (fun i9 => nI (tr i9)))), (b 2, .inl (cI, 6, .inl (fun i9 => nI (tq i9)))), (b 3, .inl (cZ, 6, .inl (fun i9 => nI (td i9))))] _ := hP
        have hD : va_D A [(g 0, .inr (4, [.ref (g 1), .ref (g 2)])), (g 1, .inl (cI, 5, .inl (fun i9 => nI (q i9)))), (g 2, .inl (cI, 5, .inl (fun i9 => nI (on i9)))), (h 0, .inr (1, [.ref (h 1), .ref (h 2), .int (nI rk), .int (nI sl)])), (h 1, .inl (cI, 7, .inl (fun i9 => nI (kd i9)))), (h 2, .inl (cI, 175, .inl (fun i9 => nI (tn i9)))), (b 0, .inr (8, [.ref (b 1), .ref (b 2), .ref (b 3), .int (nI tc)])), (b 1, .inl (cI, 6, .inl (fun i9 => nI (tr i9)))), (b 2, .inl (cI, 6, .inl (fun i9 => nI (tq i9)))), (b 3, .inl (cZ, 6, .inl (fun i9 => nI (td i9))))] := hD
        obtain rfl := hw
        refine top_i (y := bI (alw tr tq td tc 0 (turnN (kd 0) o))) rfl ?_
        refine lv_if_eq (tgt := 60) hx hb dX4_countFrom_53 (by decide) (fun c_53 => ?_) (fun c_53 => ?_)
        · skip
          have c_53 := bI_f c_53
          refine lv_iconst (v := nI 0) hx hb dX4_countFrom_60 (by decide) ?_
          exact j_61 0 _ _ _ ⟨by first | exact (pI_t c_53).symm | exact (pI_f c_53).symm, hP.sub [0, 1, 2, 6, 7, 8, 9, 3, 4, 5] rfl, hD.sub [0, 1, 2, 6, 7, 8, 9, 3, 4, 5] (by decide) rfl, hS, lv_sub hl [0, 1, 2, 3, 4] rfl⟩
        · skip
          have c_53 := bI_t c_53
          refine lv_iconst (v := nI 1) hx hb dX4_countFrom_56 (by decide) ?_
          refine lv_goto (tgt := 61) hx hb dX4_countFrom_57 (by decide) ?_
          exact j_61 1 _ _ _ ⟨by first | exact (pI_t c_53).symm | exact (pI_f c_53).symm, hP.sub [0, 1, 2, 6, 7, 8, 9, 3, 4, 5] rfl, hD.sub [0, 1, 2, 6, 7, 8, 9, 3, 4, 5] (by decide) rfl, hS, lv_sub hl [0, 1, 2, 3, 4] rfl⟩
    · skip
      have c_15 := n_geF c_15 (by omega) (by omega)
      refine lv_aload_n hx hb dX4_countFrom_18 rfl (lv_at hl 1 rfl) ?_
      refine va_get (D := G) (ci := 4) (v := .ref (g 1)) (C := RX4) (T := TX4) (N := 2) hx hb hts hin4 hown hK.1 hP 0 rfl rfl 0 (by decide) k_1 (fun _ h9 => h9) rfl dX4_countFrom_19 ?_
      refine lv_iload hx hb dX4_countFrom_22 (lv_at hl 0 rfl) ?_
      refine lv_iconst (v := nI 0) hx hb dX4_countFrom_24 (by decide) ?_
      refine ast (f' := fun i9 => nI ((va_up q v 0) i9)) hx hb hK hP hD hS 1 0 rfl rfl (j := v) (by omega) (by omega) (upd_nat) dX4_countFrom_25 (fun H locs hP hD hS => ?_)
      have hP : va_P G vwCl [(g 0, .inr (4, [.ref (g 1), .ref (g 2)])), (g 1, .inl (cI, 5, .inl (fun i9 => nI ((va_up q v 0) i9)))), (g 2, .inl (cI, 5, .inl (fun i9 => nI (on i9)))), (h 0, .inr (1, [.ref (h 1), .ref (h 2), .int (nI rk), .int (nI sl)])), (h 1, .inl (cI, 7, .inl (fun i9 => nI (kd i9)))), (h 2, .inl (cI, 175, .inl (fun i9 => nI (tn i9)))), (b 0, .inr (8, [.ref (b 1), .ref (b 2), .ref (b 3), .int (nI tc)])), (b 1, .inl (cI, 6, .inl (fun i9 => nI (tr i9)))), (b 2, .inl (cI, 6, .inl (fun i9 => nI (tq i9)))), (b 3, .inl (cZ, 6, .inl (fun i9 => nI (td i9))))] _ := hP
      have hD : va_D A [(g 0, .inr (4, [.ref (g 1), .ref (g 2)])), (g 1, .inl (cI, 5, .inl (fun i9 => nI ((va_up q v 0) i9)))), (g 2, .inl (cI, 5, .inl (fun i9 => nI (on i9)))), (h 0, .inr (1, [.ref (h 1), .ref (h 2), .int (nI rk), .int (nI sl)])), (h 1, .inl (cI, 7, .inl (fun i9 => nI (kd i9)))), (h 2, .inl (cI, 175, .inl (fun i9 => nI (tn i9)))), (b 0, .inr (8, [.ref (b 1), .ref (b 2), .ref (b 3), .int (nI tc)])), (b 1, .inl (cI, 6, .inl (fun i9 => nI (tr i9)))), (b 2, .inl (cI, 6, .inl (fun i9 => nI (tq i9)))), (b 3, .inl (cZ, 6, .inl (fun i9 => nI (td i9))))] := hD
      refine lv_iinc (v := nI (v + 1)) (lv' := [(4, .int (nI (v + 1))), (0, .ref (g 0)), (1, .ref (h 0)), (2, .ref (b 0)), (3, .int (nI o))]) hx hb dX4_countFrom_26 hl (k := 0) rfl (nI_inc _ 1 1 (by decide)) (by decide) rfl (fun ls hl => ?_)
      refine lv_goto (tgt := 12) hx hb dX4_countFrom_29 (by decide) ?_
      exact ih_12 (v + 1, va_up q v 0) _ _ _ (by first | omega | (simp only []; omega) | (show _ < _; omega)) ⟨by first | assumption | omega | (simp; done), up_fill hq, hP.sub [0, 1, 2, 3, 4, 5, 6, 7, 8, 9] rfl, hD.sub [0, 1, 2, 3, 4, 5, 6, 7, 8, 9] (by decide) rfl, hS, lv_sub hl [0, 1, 2, 3, 4] rfl⟩
  · skip
    have c_4 := z_neF c_4 (by omega)
    refine lv_iconst (v := nI 0) hx hb dX4_countFrom_7 (by decide) ?_
    exact endI hx hb hr hlocks ((en, on)) (by rw [cntN, if_pos c_4]) (hP.sub [0, 1, 2, 3, 4, 5, 6, 7, 8, 9] rfl) (hD.sub [0, 1, 2, 3, 4, 5, 6, 7, 8, 9] (by decide) rfl) hS dX4_countFrom_8
