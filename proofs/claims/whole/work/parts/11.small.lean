/-! classes Text, Traces; numbers -/
def byN (v : Int64) (i : Nat) : Nat := v.toBitVec.toNat / 256 ^ i % 256
def appT (tx : Nat → Nat) (tn n m : Nat) (v : Int64) (j : Nat) : Nat := if tn ≤ j ∧ j < tn + m then byN v (n - 1 - (j - tn)) else tx j
theorem m1_lt {i : Nat} (h : nI i + Int32.ofInt (-1) < 0) (hi : i < 2147483648) : i = 0 := by
  rcases Nat.eq_zero_or_pos i with k | k
  · exact k
  · rw [nI_dec k] at h
    exact absurd h (nI_pos (by omega))
theorem m1_eq {j : Nat} : nI (j + 1) + Int32.ofInt (-1) = nI j := nI_dec (Nat.succ_pos j)
theorem m1_ge {i : Nat} (h : ¬ nI i + Int32.ofInt (-1) < 0) : ∃ j, i = j + 1 := by
  rcases Nat.eq_zero_or_pos i with k | k
  · rw [k] at h
    exact absurd (by decide) h
  · exact ⟨i - 1, by omega⟩
theorem appT_up {tx t : Nat → Nat} {tn n j : Nat} {v : Int64} (h : ∀ i, t i = appT tx tn n (n - (j + 1)) v i) (hj : j < n) : ∀ i, va_up t (tn + (n - (j + 1))) (byN v j) i = appT tx tn n (n - j) v i := by
  intro i
  by_cases e : i = tn + (n - (j + 1))
  · rw [e, va_up_self, appT, if_pos ⟨by omega, by omega⟩]
    congr 1
    omega
  · rw [va_up_ne _ _ e, h i]
    unfold appT
    by_cases q : tn ≤ i ∧ i < tn + (n - (j + 1))
    · rw [if_pos q, if_pos ⟨q.1, by omega⟩]
    · rw [if_neg q, if_neg (by omega)]
theorem and255 (x : Int32) : x &&& nI 255 = nI (x.toBitVec.toNat % 256) := pk_and x (m := nI 255) 8 (by decide)
theorem toI32_nat (x : Int64) : x.toInt32.toBitVec.toNat = x.toBitVec.toNat % 4294967296 := by
  rw [Int64.toBitVec_toInt32, BitVec.signExtend_eq_setWidth_of_le _ (by decide), BitVec.toNat_setWidth]
theorem byX (v : Int64) {i : Nat} (hi : i < 8) : (((v).toUInt64 >>> ((nI (8 * i)).toInt64.toUInt64 &&& Int64.toUInt64 63)).toInt64).toInt32 &&& nI 255 = nI (byN v i) := by
  obtain ⟨n, hn, rfl⟩ := wb_of v
  rw [wb_shr hn (by omega), lN_i, show nI 255 = nI (2 ^ 8 - 1) from rfl, fa_mask]
  unfold byN
  rw [wb_tn hn, Nat.pow_mul]
theorem byM (v : Int64) {i : Nat} (hi : i < 8) : (v >>> ((nI (8 * i)).toInt64 &&& 63)).toInt32 &&& nI 255 = nI (byN v i) := by
  rw [← byX v hi, wb_c _ (show 8 * i < 64 by omega), wb_cu _ (show 8 * i < 64 by omega)]
  apply Int32.toBitVec_inj.mp
  apply BitVec.eq_of_getLsbD_eq
  intro j hj
  have e0 : (nI 255).toBitVec = BitVec.ofNat 32 (2 ^ 8 - 1) := rfl
  rw [Int32.toBitVec_and, Int32.toBitVec_and, Int64.toBitVec_toInt32, Int64.toBitVec_toInt32, BitVec.signExtend_eq_setWidth_of_le _ (by decide), BitVec.signExtend_eq_setWidth_of_le _ (by decide), BitVec.getLsbD_and, BitVec.getLsbD_and, BitVec.getLsbD_setWidth, BitVec.getLsbD_setWidth]
  by_cases h8 : j < 8
  · have e1 : (v >>> lN (8 * i)).toBitVec = v.toBitVec.sshiftRight (8 * i) := by
      rw [Int64.toBitVec_shiftRight, wb_tb, wb_sm _ (by omega), BitVec.sshiftRight_eq', BitVec.toNat_ofNat, Nat.mod_eq_of_lt (by omega)]
    have e2 : ((v.toUInt64 >>> UInt64.ofNat (8 * i)).toInt64).toBitVec = v.toBitVec >>> (8 * i) := by
      apply BitVec.eq_of_toNat_eq
      show (v.toUInt64 >>> UInt64.ofNat (8 * i)).toNat = _
      rw [UInt64.toNat_shiftRight, show (UInt64.ofNat (8 * i)).toNat = 8 * i from wb_tn (by omega), Nat.mod_eq_of_lt (by omega), BitVec.toNat_ushiftRight]
      rfl
    rw [e1, e2, BitVec.getLsbD_sshiftRight, BitVec.getLsbD_ushiftRight]
    have h64 : ¬ 64 ≤ j := by omega
    have h65 : 8 * i + j < 64 := by omega
    simp [h64, h65]
  · have : (nI 255).toBitVec.getLsbD j = false := by
      rw [e0, BitVec.getLsbD_ofNat, Nat.testBit_two_pow_sub_one]
      simp [h8]
    rw [this, Bool.and_false, Bool.and_false]
theorem m1_sub (n : Nat) : nI n - nI 1 = nI n + Int32.ofInt (-1) := by
  rw [Int32.sub_eq_add_neg]
  rfl
theorem vnar01 {d : Nat} (h : d < 2) : vp_nar .boolean (nI d) = nI d := by
  rcases (show d = 0 ∨ d = 1 by omega) with rfl | rfl <;> rfl
def alw (tr tq td : Nat → Nat) (tc k o : Nat) : Prop := ∀ i, i < tc → tr i = k → (tq i = o ↔ td i = 1)
def rowOk (n : Nat) (r : Int32) : Prop := ∃ w : Nat, w < 2147483648 ∧ r = nI w ∧ w < 10 ^ n ∧ ∀ j, j < n → w / 10 ^ j % 10 < 5
theorem div_zero_lt {w d : Nat} (h : w / 10 ^ d = 0) : w < 10 ^ d := by
  rcases Nat.lt_or_ge w (10 ^ d) with q | q
  · exact q
  · have := Nat.div_pos q (Nat.pow_pos (by decide))
    omega
/-- Euclid's walk from a, b comes to 0 within n steps -/
def En : Nat → Nat → Nat → Prop
  | 0, _, b => b = 0
  | n + 1, a, b => b = 0 ∨ En n b (a % b)
def Fb : Nat → Nat × Nat
  | 0 => (0, 1)
  | n + 1 => ((Fb n).2, (Fb n).1 + (Fb n).2)
theorem En_not : ∀ (n a b : Nat), ¬ En n a b → b < a → (Fb (n + 1)).1 ≤ b ∧ (Fb (n + 2)).1 ≤ a := by
  intro n
  induction n with
  | zero =>
    intro a b h hab
    have h0 : ¬ b = 0 := h
    exact ⟨show 1 ≤ b by omega, show 1 ≤ a by omega⟩
  | succ n ih =>
    intro a b h hab
    have h0 : ¬ (b = 0 ∨ En n b (a % b)) := h
    have hb : ¬ b = 0 := fun z => h0 (Or.inl z)
    obtain ⟨i1, i2⟩ := ih b (a % b) (fun z => h0 (Or.inr z)) (Nat.mod_lt _ (by omega))
    refine ⟨i2, ?_⟩
    have e : (Fb (n + 1 + 2)).1 = (Fb (n + 1)).1 + (Fb (n + 2)).1 := rfl
    have hm : b + a % b ≤ a := by
      have h1 := Nat.div_add_mod a b
      have h2 : 1 ≤ a / b := Nat.div_pos (by omega) (by omega)
      have h3 : b * 1 ≤ b * (a / b) := Nat.mul_le_mul_left b h2
      omega
    omega
theorem En_100 {x y : Nat} (hy : y < 9223372036854775808) : En 100 x y := by
  refine Classical.byContradiction (fun h => ?_)
  have h0 : ¬ (y = 0 ∨ En 99 y (x % y)) := h
  have hb : ¬ y = 0 := fun z => h0 (Or.inl z)
  obtain ⟨-, i2⟩ := En_not 99 y (x % y) (fun z => h0 (Or.inr z)) (Nat.mod_lt _ (by omega))
  have e : (Fb 101).1 = 573147844013817084101 := by decide +kernel
  have i2 : (Fb 101).1 ≤ y := i2
  omega
theorem En_step {n a b : Nat} (h : En (n + 1) a b) (hb : ¬ b = 0) : En n b (a % b) := by
  rcases h with h | h
  · exact absurd h hb
  · exact h
theorem gcd_step (a b : Nat) : Nat.gcd b (a % b) = Nat.gcd a b := by
  rw [Nat.gcd_comm a b, Nat.gcd_rec b a, Nat.gcd_comm]
theorem lN_ne0 {n : Nat} (h : ¬ n = 0) (hn : n < 9223372036854775808) : ¬ lN n = 0 := fun z => h ((pk_lEQ (b := 0) (by omega) (by omega)).mp z)
def ltT (x y : Nat) (z : Int32) : Nat := if z = 0 then y / Nat.gcd x y else x / Nat.gcd x y
set_option maxHeartbeats 4000000 in
set_option maxRecDepth 100000 in
theorem c_X7_hasRoomFor {l : Launch} {G : va_G} {cI cJ cZ cS : ClassId} (h : Nat → Nat) (tx : Nat → Nat) (tn : Nat) (n : Nat) (hn : n < 9) (ht : tn ≤ 64) : CI l G (kT cI cJ cZ cS) (S := Unit) yX7_hasRoomFor wsX7_hasRoomFor { frames := 0, cells := 0, slots := 0, locals := 0 } [.ref (h 0), .int (nI n)] [(h 0, .inr (7, [.ref (h 1), .int (nI tn)])), (h 1, .inl (cI, 64, .inl (fun i9 => nI (tx i9))))] (fun res _ => res = bI (tn + n ≤ 64)) (fun _ => [(h 0, .inr (7, [.ref (h 1), .int (nI tn)])), (h 1, .inl (cI, 64, .inl (fun i9 => nI (tx i9))))]) := by
  refine CI.of (cc := cX7_hasRoomFor) (maxL := 2) (by decide) rfl (Nat.le_of_ble_eq_true rfl) ?_
  intro p e s m below meth c A ls hB
  obtain ⟨hx, hb, hml, hr, hts, hown, hlocks, hmn, hK, hP, hD, hS, hA, hl⟩ := hB
  have hP : va_P G vwCl [(h 0, .inr (7, [.ref (h 1), .int (nI tn)])), (h 1, .inl (cI, 64, .inl (fun i9 => nI (tx i9))))] s.heap := hP
  have hD : va_D A [(h 0, .inr (7, [.ref (h 1), .int (nI tn)])), (h 1, .inl (cI, 64, .inl (fun i9 => nI (tx i9))))] := hD
  have hl : lv_has ls 2 [(0, .ref (h 0)), (1, .int (nI n))] := hl
  have k_0 := hts (.fieldLink RX7 15 "HearsayMarch$Text" "length" "I") (by decide +kernel)
  have hin7 : ∀ w ∈ wsX70, w ∈ wsX7_hasRoomFor := by decide +kernel
  refine lv_iload_n hx hb dX7_hasRoomFor_0 rfl (lv_at hl 1 rfl) ?_
  refine lv_bipush (v := nI 64) hx hb dX7_hasRoomFor_1 (by decide) ?_
  refine lv_aload_n hx hb dX7_hasRoomFor_3 rfl (lv_at hl 0 rfl) ?_
  refine va_get (D := G) (ci := 7) (v := .int (nI tn)) (C := RX7) (T := TX7) (N := 2) hx hb hts hin7 hown hK.1 hP 0 rfl rfl 1 (by decide) k_0 (fun _ h9 => h9) rfl dX7_hasRoomFor_4 ?_
  refine lv_isub hx hb dX7_hasRoomFor_7 ?_
  refine top_i (y := nI (64 - tn)) (pk_sub (by omega)) ?_
  refine lv_icmp_gt (tgt := 15) hx hb dX7_hasRoomFor_8 (by decide) (fun c_8 => ?_) (fun c_8 => ?_)
  · skip
    have c_8 := n_gtT c_8 (by omega) (by omega)
    refine lv_iconst (v := nI 0) hx hb dX7_hasRoomFor_15 (by decide) ?_
    exact endZ hx hb hr hlocks (rfl) (()) (bI_n (fun z => by omega)) (hP.sub [0, 1] rfl) (hD.sub [0, 1] (by decide) rfl) hS dX7_hasRoomFor_16
  · skip
    have c_8 := n_gtF c_8 (by omega) (by omega)
    refine lv_iconst (v := nI 1) hx hb dX7_hasRoomFor_11 (by decide) ?_
    refine lv_goto (tgt := 16) hx hb dX7_hasRoomFor_12 (by decide) ?_
    exact endZ hx hb hr hlocks (rfl) (()) (bI_y (by omega)) (hP.sub [0, 1] rfl) (hD.sub [0, 1] (by decide) rfl) hS dX7_hasRoomFor_16

set_option maxHeartbeats 4000000 in
set_option maxRecDepth 100000 in
theorem c_X7_clear {l : Launch} {G : va_G} {cI cJ cZ cS : ClassId} (h : Nat → Nat) (tx : Nat → Nat) (tn : Nat) : CV l G (kT cI cJ cZ cS) (S := Unit) yX7_clear wsX7_clear { frames := 0, cells := 0, slots := 0, locals := 0 } [.ref (h 0)] [(h 0, .inr (7, [.ref (h 1), .int (nI tn)])), (h 1, .inl (cI, 64, .inl (fun i9 => nI (tx i9))))] (fun _ => True) (fun _ => [(h 0, .inr (7, [.ref (h 1), .int (nI 0)])), (h 1, .inl (cI, 64, .inl (fun i9 => nI (tx i9))))]) := by
  refine CV.of (cc := cX7_clear) (maxL := 1) (by decide) rfl (Nat.le_of_ble_eq_true rfl) ?_
  intro p e s m below meth c A ls hB
  obtain ⟨hx, hb, hml, hr, hts, hown, hlocks, hmn, hK, hP, hD, hS, hA, hl⟩ := hB
  have hP : va_P G vwCl [(h 0, .inr (7, [.ref (h 1), .int (nI tn)])), (h 1, .inl (cI, 64, .inl (fun i9 => nI (tx i9))))] s.heap := hP
  have hD : va_D A [(h 0, .inr (7, [.ref (h 1), .int (nI tn)])), (h 1, .inl (cI, 64, .inl (fun i9 => nI (tx i9))))] := hD
  have hl : lv_has ls 1 [(0, .ref (h 0))] := hl
  have k_0 := hts (.fieldLink RX7 15 "HearsayMarch$Text" "length" "I") (by decide +kernel)
  have hin7 : ∀ w ∈ wsX70, w ∈ wsX7_clear := by decide +kernel
  refine lv_aload_n hx hb dX7_clear_0 rfl (lv_at hl 0 rfl) ?_
  refine lv_iconst (v := nI 0) hx hb dX7_clear_1 (by decide) ?_
  refine va_put (D := G) (ci := 7) (v := .int (nI 0)) (ty := tyX7 1) (C := RX7) (T := TX7) (N := 2) hx hb hts hin7 tyX7 tyX7_ok nmX7 hown hK.1 hP hD hS 0 rfl rfl 1 (by decide) k_0 (fun _ h9 => h9) rfl (by decide +kernel) rfl rfl (Nat.le_of_ble_eq_true rfl) dX7_clear_2 (fun H locs hP hD hS => ?_)
  have hP : va_P G vwCl [(h 0, .inr (7, [.ref (h 1), .int (nI 0)])), (h 1, .inl (cI, 64, .inl (fun i9 => nI (tx i9))))] _ := hP
  have hD : va_D A [(h 0, .inr (7, [.ref (h 1), .int (nI 0)])), (h 1, .inl (cI, 64, .inl (fun i9 => nI (tx i9))))] := hD
  exact endV hx hb hr hlocks (()) (trivial) (hP.sub [0, 1] rfl) (hD.sub [0, 1] (by decide) rfl) hS dX7_clear_5

set_option maxHeartbeats 4000000 in
set_option maxRecDepth 100000 in
theorem c_X7_append {l : Launch} {G : va_G} {cI cJ cZ cS : ClassId} (h : Nat → Nat) (tx : Nat → Nat) (tn : Nat) (n : Nat) (v : Int64) (hn : 0 < n) (hn8 : n < 9) (ht : tn + n ≤ 64) : CV l G (kT cI cJ cZ cS) (S := Nat → Nat) yX7_append wsX7_append { frames := 0, cells := 0, slots := 0, locals := 0 } [.ref (h 0), .int (nI n), .long v] [(h 0, .inr (7, [.ref (h 1), .int (nI tn)])), (h 1, .inl (cI, 64, .inl (fun i9 => nI (tx i9))))] (fun t1 => ∀ j, t1 j = appT tx tn n n v j) (fun t1 => [(h 0, .inr (7, [.ref (h 1), .int (nI (tn + n))])), (h 1, .inl (cI, 64, .inl (fun i9 => nI (t1 i9))))]) := by
  refine CV.of (cc := cX7_append) (maxL := 5) (by decide) rfl (Nat.le_of_ble_eq_true rfl) ?_
  intro p e s m below meth c A ls hB
  obtain ⟨hx, hb, hml, hr, hts, hown, hlocks, hmn, hK, hP, hD, hS, hA, hl⟩ := hB
  have hP : va_P G vwCl [(h 0, .inr (7, [.ref (h 1), .int (nI tn)])), (h 1, .inl (cI, 64, .inl (fun i9 => nI (tx i9))))] s.heap := hP
  have hD : va_D A [(h 0, .inr (7, [.ref (h 1), .int (nI tn)])), (h 1, .inl (cI, 64, .inl (fun i9 => nI (tx i9))))] := hD
  have hl : lv_has ls 5 [(0, .ref (h 0)), (1, .int (nI n)), (2, .long v)] := hl
  have k_0 := hts (.fieldLink RX7 15 "HearsayMarch$Text" "length" "I") (by decide +kernel)
  have k_1 := hts (.fieldLink RX7 9 "HearsayMarch$Text" "signs" "[I") (by decide +kernel)
  have hin7 : ∀ w ∈ wsX70, w ∈ wsX7_append := by decide +kernel
  refine lv_iload_n hx hb dX7_append_0 rfl (lv_at hl 1 rfl) ?_
  refine lv_iconst (v := nI 1) hx hb dX7_append_1 (by decide) ?_
  refine lv_isub hx hb dX7_append_2 ?_
  refine top_i (y := nI n + Int32.ofInt (-1)) (m1_sub n) ?_
  refine lv_istore (lv' := [(4, .int (nI n + Int32.ofInt (-1))), (0, .ref (h 0)), (1, .int (nI n)), (2, .long v)]) hx hb dX7_append_3 hl (by decide) rfl (fun ls hl => ?_)
  rw [show nI tn = nI (tn + (n - n)) by rw [Nat.sub_self, Nat.add_zero]] at hP hD
  have hP : va_P G vwCl [(h 0, .inr (7, [.ref (h 1), .int (nI (tn + (n - n)))])), (h 1, .inl (cI, 64, .inl (fun i9 => nI (tx i9))))] _ := hP
  have hD : va_D A [(h 0, .inr (7, [.ref (h 1), .int (nI (tn + (n - n)))])), (h 1, .inl (cI, 64, .inl (fun i9 => nI (tx i9))))] := hD
  refine loopW (σ := Nat × (Nat → Nat)) 5 (fun xx9 H locs ls => match xx9 with | (i1, t) => (i1 ≤ n) ∧ (∀ j, t j = appT tx tn n (n - i1) v j) ∧ va_P G vwCl [(h 0, .inr (7, [.ref (h 1), .int (nI (tn + (n - i1)))])), (h 1, .inl (cI, 64, .inl (fun i9 => nI (t i9))))] H ∧ va_D A [(h 0, .inr (7, [.ref (h 1), .int (nI (tn + (n - i1)))])), (h 1, .inl (cI, 64, .inl (fun i9 => nI (t i9))))] ∧ va_S A s.heap H locs ∧ lv_has ls 5 [(4, .int (nI i1 + Int32.ofInt (-1))), (0, .ref (h 0)), (1, .int (nI n)), (2, .long v)]) (fun xx9 => match xx9 with | (i1, t) => []) (fun xx9 => match xx9 with | (i1, t) => i1) ?_ (n, tx) ⟨by first | assumption | omega | (simp; done), fun j => by unfold appT; rw [if_neg (by omega)], hP.sub [0, 1] rfl, hD.sub [0, 1] (by decide) rfl, hS, lv_sub hl [0, 1, 2, 3] rfl⟩
  intro xx9 H locs ls hI ih_5
  obtain ⟨i1, t⟩ := xx9
  obtain ⟨hi, ht1, hP, hD, hS, hl⟩ := hI
  have hi : i1 ≤ n := hi
  have ht1 : ∀ j, t j = appT tx tn n (n - i1) v j := ht1
  have hP : va_P G vwCl [(h 0, .inr (7, [.ref (h 1), .int (nI (tn + (n - i1)))])), (h 1, .inl (cI, 64, .inl (fun i9 => nI (t i9))))] _ := hP
  have hD : va_D A [(h 0, .inr (7, [.ref (h 1), .int (nI (tn + (n - i1)))])), (h 1, .inl (cI, 64, .inl (fun i9 => nI (t i9))))] := hD
  have hl : lv_has ls 5 [(4, .int (nI i1 + Int32.ofInt (-1))), (0, .ref (h 0)), (1, .int (nI n)), (2, .long v)] := hl
  refine lv_iload hx hb dX7_append_5 (lv_at hl 0 rfl) ?_
  refine lv_if_lt (tgt := 56) hx hb dX7_append_7 (by decide) (fun c_7 => ?_) (fun c_7 => ?_)
  · skip
    have h0 := m1_lt c_7 (by omega)
    subst h0
    rw [Nat.sub_zero] at hP hD ht1
    exact endV hx hb hr hlocks (t) (ht1) (hP.sub [0, 1] rfl) (hD.sub [0, 1] (by decide) rfl) hS dX7_append_56
  · skip
    obtain ⟨j, rfl⟩ := m1_ge c_7
    rw [m1_eq] at hl
    refine lv_aload_n hx hb dX7_append_10 rfl (lv_at hl 1 rfl) ?_
    refine va_get (D := G) (ci := 7) (v := .int (nI (tn + (n - (j + 1))))) (C := RX7) (T := TX7) (N := 2) hx hb hts hin7 hown hK.1 hP 0 rfl rfl 1 (by decide) k_0 (fun _ h9 => h9) rfl dX7_append_11 ?_
    refine lv_bipush (v := nI 64) hx hb dX7_append_14 (by decide) ?_
    refine lv_icmp_ge (tgt := 56) hx hb dX7_append_16 (by decide) (fun c_16 => by have c_16 := n_geT c_16 (by omega) (by omega); exfalso; omega) (fun c_16 => ?_)
    have c_16 := n_geF c_16 (by omega) (by omega)
    refine lv_aload_n hx hb dX7_append_19 rfl (lv_at hl 1 rfl) ?_
    refine va_get (D := G) (ci := 7) (v := .ref (h 1)) (C := RX7) (T := TX7) (N := 2) hx hb hts hin7 hown hK.1 hP 0 rfl rfl 0 (by decide) k_1 (fun _ h9 => h9) rfl dX7_append_20 ?_
    refine lv_aload_n hx hb dX7_append_23 rfl (lv_at hl 1 rfl) ?_
    refine va_get (D := G) (ci := 7) (v := .int (nI (tn + (n - (j + 1))))) (C := RX7) (T := TX7) (N := 2) hx hb hts hin7 hown hK.1 hP 0 rfl rfl 1 (by decide) k_0 (fun _ h9 => h9) rfl dX7_append_24 ?_
    refine lv_lload_n hx hb dX7_append_27 rfl (lv_at hl 3 rfl) ?_
    refine lv_bipush (v := nI 8) hx hb dX7_append_28 (by decide) ?_
    refine lv_iload hx hb dX7_append_30 (lv_at hl 0 rfl) ?_
    refine lv_imul hx hb dX7_append_32 ?_
    refine top_i (y := nI (8 * j)) (pk_mul _ _) ?_
    refine lv_lushr (v := ((v).toUInt64 >>> ((nI (8 * j)).toInt64.toUInt64 &&& Int64.toUInt64 63)).toInt64) hx hb dX7_append_33 rfl ?_
    refine lv_l2i (v := (((v).toUInt64 >>> ((nI (8 * j)).toInt64.toUInt64 &&& Int64.toUInt64 63)).toInt64).toInt32) hx hb dX7_append_34 rfl ?_
    refine lv_sipush (v := nI 255) hx hb dX7_append_35 (by decide) ?_
    refine lv_iand hx hb dX7_append_38 ?_
    refine top_i (y := nI (byN v j)) (byX v (by omega)) ?_
    refine ast (f' := fun i9 => nI ((va_up t (tn + (n - (j + 1))) (byN v j)) i9)) hx hb hK hP hD hS 1 0 rfl rfl (j := tn + (n - (j + 1))) (by omega) (by omega) (upd_nat) dX7_append_39 (fun H locs hP hD hS => ?_)
    have hP : va_P G vwCl [(h 0, .inr (7, [.ref (h 1), .int (nI (tn + (n - (j + 1))))])), (h 1, .inl (cI, 64, .inl (fun i9 => nI ((va_up t (tn + (n - (j + 1))) (byN v j)) i9))))] _ := hP
    have hD : va_D A [(h 0, .inr (7, [.ref (h 1), .int (nI (tn + (n - (j + 1))))])), (h 1, .inl (cI, 64, .inl (fun i9 => nI ((va_up t (tn + (n - (j + 1))) (byN v j)) i9))))] := hD
    refine lv_aload_n hx hb dX7_append_40 rfl (lv_at hl 1 rfl) ?_
    refine lv_dup hx hb dX7_append_41 rfl ?_
    refine va_get (D := G) (ci := 7) (v := .int (nI (tn + (n - (j + 1))))) (C := RX7) (T := TX7) (N := 2) hx hb hts hin7 hown hK.1 hP 0 rfl rfl 1 (by decide) k_0 (fun _ h9 => h9) rfl dX7_append_42 ?_
    refine lv_iconst (v := nI 1) hx hb dX7_append_45 (by decide) ?_
    refine lv_iadd hx hb dX7_append_46 ?_
    refine top_i (y := nI ((tn + (n - (j + 1))) + 1)) (nI_add _ _) ?_
    refine top_i (y := nI (tn + (n - j))) (by congr 1; omega) ?_
    refine va_put (D := G) (ci := 7) (v := .int (nI (tn + (n - j)))) (ty := tyX7 1) (C := RX7) (T := TX7) (N := 2) hx hb hts hin7 tyX7 tyX7_ok nmX7 hown hK.1 hP hD hS 0 rfl rfl 1 (by decide) k_0 (fun _ h9 => h9) rfl (by decide +kernel) rfl rfl (Nat.le_of_ble_eq_true rfl) dX7_append_47 (fun H locs hP hD hS => ?_)
    have hP : va_P G vwCl [(h 0, .inr (7, [.ref (h 1), .int (nI (tn + (n - j)))])), (h 1, .inl (cI, 64, .inl (fun i9 => nI ((va_up t (tn + (n - (j + 1))) (byN v j)) i9))))] _ := hP
    have hD : va_D A [(h 0, .inr (7, [.ref (h 1), .int (nI (tn + (n - j)))])), (h 1, .inl (cI, 64, .inl (fun i9 => nI ((va_up t (tn + (n - (j + 1))) (byN v j)) i9))))] := hD
    refine lv_iinc (v := (nI j) + Int32.ofInt (-1)) (lv' := [(4, .int ((nI j) + Int32.ofInt (-1))), (0, .ref (h 0)), (1, .int (nI n)), (2, .long v)]) hx hb dX7_append_50 hl (k := 0) rfl (rfl) (by decide) rfl (fun ls hl => ?_)
    refine lv_goto (tgt := 5) hx hb dX7_append_53 (by decide) ?_
    exact ih_5 (j, va_up t (tn + (n - (j + 1))) (byN v j)) _ _ _ (by first | omega | (simp only []; omega) | (show _ < _; omega)) ⟨by first | assumption | omega | (simp; done), appT_up ht1 (by omega), hP.sub [0, 1] rfl, hD.sub [0, 1] (by decide) rfl, hS, lv_sub hl [0, 1, 2, 3] rfl⟩

set_option maxHeartbeats 4000000 in
set_option maxRecDepth 100000 in
theorem c_X8_clear {l : Launch} {G : va_G} {cI cJ cZ cS : ClassId} (h : Nat → Nat) (tr : Nat → Nat) (tq : Nat → Nat) (td : Nat → Nat) (tc : Nat) : CV l G (kT cI cJ cZ cS) (S := Unit) yX8_clear wsX8_clear { frames := 0, cells := 0, slots := 0, locals := 0 } [.ref (h 0)] [(h 0, .inr (8, [.ref (h 1), .ref (h 2), .ref (h 3), .int (nI tc)])), (h 1, .inl (cI, 6, .inl (fun i9 => nI (tr i9)))), (h 2, .inl (cI, 6, .inl (fun i9 => nI (tq i9)))), (h 3, .inl (cZ, 6, .inl (fun i9 => nI (td i9))))] (fun _ => True) (fun _ => [(h 0, .inr (8, [.ref (h 1), .ref (h 2), .ref (h 3), .int (nI 0)])), (h 1, .inl (cI, 6, .inl (fun i9 => nI (tr i9)))), (h 2, .inl (cI, 6, .inl (fun i9 => nI (tq i9)))), (h 3, .inl (cZ, 6, .inl (fun i9 => nI (td i9))))]) := by
  refine CV.of (cc := cX8_clear) (maxL := 1) (by decide) rfl (Nat.le_of_ble_eq_true rfl) ?_
  intro p e s m below meth c A ls hB
  obtain ⟨hx, hb, hml, hr, hts, hown, hlocks, hmn, hK, hP, hD, hS, hA, hl⟩ := hB
  have hP : va_P G vwCl [(h 0, .inr (8, [.ref (h 1), .ref (h 2), .ref (h 3), .int (nI tc)])), (h 1, .inl (cI, 6, .inl (fun i9 => nI (tr i9)))), (h 2, .inl (cI, 6, .inl (fun i9 => nI (tq i9)))), (h 3, .inl (cZ, 6, .inl (fun i9 => nI (td i9))))] s.heap := hP
  have hD : va_D A [(h 0, .inr (8, [.ref (h 1), .ref (h 2), .ref (h 3), .int (nI tc)])), (h 1, .inl (cI, 6, .inl (fun i9 => nI (tr i9)))), (h 2, .inl (cI, 6, .inl (fun i9 => nI (tq i9)))), (h 3, .inl (cZ, 6, .inl (fun i9 => nI (td i9))))] := hD
  have hl : lv_has ls 1 [(0, .ref (h 0))] := hl
  have k_0 := hts (.fieldLink RX8 22 "HearsayMarch$Traces" "count" "I") (by decide +kernel)
  have hin8 : ∀ w ∈ wsX80, w ∈ wsX8_clear := by decide +kernel
  refine lv_aload_n hx hb dX8_clear_0 rfl (lv_at hl 0 rfl) ?_
  refine lv_iconst (v := nI 0) hx hb dX8_clear_1 (by decide) ?_
  refine va_put (D := G) (ci := 8) (v := .int (nI 0)) (ty := tyX8 3) (C := RX8) (T := TX8) (N := 4) hx hb hts hin8 tyX8 tyX8_ok nmX8 hown hK.1 hP hD hS 0 rfl rfl 3 (by decide) k_0 (fun _ h9 => h9) rfl (by decide +kernel) rfl rfl (Nat.le_of_ble_eq_true rfl) dX8_clear_2 (fun H locs hP hD hS => ?_)
  have hP : va_P G vwCl [(h 0, .inr (8, [.ref (h 1), .ref (h 2), .ref (h 3), .int (nI 0)])), (h 1, .inl (cI, 6, .inl (fun i9 => nI (tr i9)))), (h 2, .inl (cI, 6, .inl (fun i9 => nI (tq i9)))), (h 3, .inl (cZ, 6, .inl (fun i9 => nI (td i9))))] _ := hP
  have hD : va_D A [(h 0, .inr (8, [.ref (h 1), .ref (h 2), .ref (h 3), .int (nI 0)])), (h 1, .inl (cI, 6, .inl (fun i9 => nI (tr i9)))), (h 2, .inl (cI, 6, .inl (fun i9 => nI (tq i9)))), (h 3, .inl (cZ, 6, .inl (fun i9 => nI (td i9))))] := hD
  exact endV hx hb hr hlocks (()) (trivial) (hP.sub [0, 1, 2, 3] rfl) (hD.sub [0, 1, 2, 3] (by decide) rfl) hS dX8_clear_5

set_option maxHeartbeats 4000000 in
set_option maxRecDepth 100000 in
theorem c_X8_add {l : Launch} {G : va_G} {cI cJ cZ cS : ClassId} (h : Nat → Nat) (tr : Nat → Nat) (tq : Nat → Nat) (td : Nat → Nat) (tc : Nat) (k : Nat) (o : Nat) (d : Nat) (htc : tc < 6) (hd : d < 2) : CV l G (kT cI cJ cZ cS) (S := Unit) yX8_add wsX8_add { frames := 0, cells := 0, slots := 0, locals := 0 } [.ref (h 0), .int (nI k), .int (nI o), .int (nI d)] [(h 0, .inr (8, [.ref (h 1), .ref (h 2), .ref (h 3), .int (nI tc)])), (h 1, .inl (cI, 6, .inl (fun i9 => nI (tr i9)))), (h 2, .inl (cI, 6, .inl (fun i9 => nI (tq i9)))), (h 3, .inl (cZ, 6, .inl (fun i9 => nI (td i9))))] (fun _ => True) (fun _ => [(h 0, .inr (8, [.ref (h 1), .ref (h 2), .ref (h 3), .int (nI (tc + 1))])), (h 1, .inl (cI, 6, .inl (fun i9 => nI ((va_up tr tc k) i9)))), (h 2, .inl (cI, 6, .inl (fun i9 => nI ((va_up tq tc o) i9)))), (h 3, .inl (cZ, 6, .inl (fun i9 => nI ((va_up td tc d) i9))))]) := by
  refine CV.of (cc := cX8_add) (maxL := 4) (by decide) rfl (Nat.le_of_ble_eq_true rfl) ?_
  intro p e s m below meth c A ls hB
  obtain ⟨hx, hb, hml, hr, hts, hown, hlocks, hmn, hK, hP, hD, hS, hA, hl⟩ := hB
  have hP : va_P G vwCl [(h 0, .inr (8, [.ref (h 1), .ref (h 2), .ref (h 3), .int (nI tc)])), (h 1, .inl (cI, 6, .inl (fun i9 => nI (tr i9)))), (h 2, .inl (cI, 6, .inl (fun i9 => nI (tq i9)))), (h 3, .inl (cZ, 6, .inl (fun i9 => nI (td i9))))] s.heap := hP
  have hD : va_D A [(h 0, .inr (8, [.ref (h 1), .ref (h 2), .ref (h 3), .int (nI tc)])), (h 1, .inl (cI, 6, .inl (fun i9 => nI (tr i9)))), (h 2, .inl (cI, 6, .inl (fun i9 => nI (tq i9)))), (h 3, .inl (cZ, 6, .inl (fun i9 => nI (td i9))))] := hD
  have hl : lv_has ls 4 [(0, .ref (h 0)), (1, .int (nI k)), (2, .int (nI o)), (3, .int (nI d))] := hl
  have k_0 := hts (.fieldLink RX8 22 "HearsayMarch$Traces" "count" "I") (by decide +kernel)
  have k_1 := hts (.fieldLink RX8 9 "HearsayMarch$Traces" "ranks" "[I") (by decide +kernel)
  have k_2 := hts (.fieldLink RX8 15 "HearsayMarch$Traces" "orders" "[I") (by decide +kernel)
  have k_3 := hts (.fieldLink RX8 18 "HearsayMarch$Traces" "dids" "[Z") (by decide +kernel)
  have hin8 : ∀ w ∈ wsX80, w ∈ wsX8_add := by decide +kernel
  refine lv_aload_n hx hb dX8_add_0 rfl (lv_at hl 0 rfl) ?_
  refine va_get (D := G) (ci := 8) (v := .int (nI tc)) (C := RX8) (T := TX8) (N := 4) hx hb hts hin8 hown hK.1 hP 0 rfl rfl 3 (by decide) k_0 (fun _ h9 => h9) rfl dX8_add_1 ?_
  refine lv_bipush (v := nI 6) hx hb dX8_add_4 (by decide) ?_
  refine lv_icmp_ge (tgt := 49) hx hb dX8_add_6 (by decide) (fun c_6 => by have c_6 := n_geT c_6 (by omega) (by omega); exfalso; omega) (fun c_6 => ?_)
  have c_6 := n_geF c_6 (by omega) (by omega)
  refine lv_aload_n hx hb dX8_add_9 rfl (lv_at hl 0 rfl) ?_
  refine va_get (D := G) (ci := 8) (v := .ref (h 1)) (C := RX8) (T := TX8) (N := 4) hx hb hts hin8 hown hK.1 hP 0 rfl rfl 0 (by decide) k_1 (fun _ h9 => h9) rfl dX8_add_10 ?_
  refine lv_aload_n hx hb dX8_add_13 rfl (lv_at hl 0 rfl) ?_
  refine va_get (D := G) (ci := 8) (v := .int (nI tc)) (C := RX8) (T := TX8) (N := 4) hx hb hts hin8 hown hK.1 hP 0 rfl rfl 3 (by decide) k_0 (fun _ h9 => h9) rfl dX8_add_14 ?_
  refine lv_iload_n hx hb dX8_add_17 rfl (lv_at hl 1 rfl) ?_
  refine ast (f' := fun i9 => nI ((va_up tr tc k) i9)) hx hb hK hP hD hS 1 0 rfl rfl (j := tc) (by omega) (by omega) (upd_nat) dX8_add_18 (fun H locs hP hD hS => ?_)
  have hP : va_P G vwCl [(h 0, .inr (8, [.ref (h 1), .ref (h 2), .ref (h 3), .int (nI tc)])), (h 1, .inl (cI, 6, .inl (fun i9 => nI ((va_up tr tc k) i9)))), (h 2, .inl (cI, 6, .inl (fun i9 => nI (tq i9)))), (h 3, .inl (cZ, 6, .inl (fun i9 => nI (td i9))))] _ := hP
  have hD : va_D A [(h 0, .inr (8, [.ref (h 1), .ref (h 2), .ref (h 3), .int (nI tc)])), (h 1, .inl (cI, 6, .inl (fun i9 => nI ((va_up tr tc k) i9)))), (h 2, .inl (cI, 6, .inl (fun i9 => nI (tq i9)))), (h 3, .inl (cZ, 6, .inl (fun i9 => nI (td i9))))] := hD
  refine lv_aload_n hx hb dX8_add_19 rfl (lv_at hl 0 rfl) ?_
  refine va_get (D := G) (ci := 8) (v := .ref (h 2)) (C := RX8) (T := TX8) (N := 4) hx hb hts hin8 hown hK.1 hP 0 rfl rfl 1 (by decide) k_2 (fun _ h9 => h9) rfl dX8_add_20 ?_
  refine lv_aload_n hx hb dX8_add_23 rfl (lv_at hl 0 rfl) ?_
  refine va_get (D := G) (ci := 8) (v := .int (nI tc)) (C := RX8) (T := TX8) (N := 4) hx hb hts hin8 hown hK.1 hP 0 rfl rfl 3 (by decide) k_0 (fun _ h9 => h9) rfl dX8_add_24 ?_
  refine lv_iload_n hx hb dX8_add_27 rfl (lv_at hl 2 rfl) ?_
  refine ast (f' := fun i9 => nI ((va_up tq tc o) i9)) hx hb hK hP hD hS 2 0 rfl rfl (j := tc) (by omega) (by omega) (upd_nat) dX8_add_28 (fun H locs hP hD hS => ?_)
  have hP : va_P G vwCl [(h 0, .inr (8, [.ref (h 1), .ref (h 2), .ref (h 3), .int (nI tc)])), (h 1, .inl (cI, 6, .inl (fun i9 => nI ((va_up tr tc k) i9)))), (h 2, .inl (cI, 6, .inl (fun i9 => nI ((va_up tq tc o) i9)))), (h 3, .inl (cZ, 6, .inl (fun i9 => nI (td i9))))] _ := hP
  have hD : va_D A [(h 0, .inr (8, [.ref (h 1), .ref (h 2), .ref (h 3), .int (nI tc)])), (h 1, .inl (cI, 6, .inl (fun i9 => nI ((va_up tr tc k) i9)))), (h 2, .inl (cI, 6, .inl (fun i9 => nI ((va_up tq tc o) i9)))), (h 3, .inl (cZ, 6, .inl (fun i9 => nI (td i9))))] := hD
  refine lv_aload_n hx hb dX8_add_29 rfl (lv_at hl 0 rfl) ?_
  refine va_get (D := G) (ci := 8) (v := .ref (h 3)) (C := RX8) (T := TX8) (N := 4) hx hb hts hin8 hown hK.1 hP 0 rfl rfl 2 (by decide) k_3 (fun _ h9 => h9) rfl dX8_add_30 ?_
  refine lv_aload_n hx hb dX8_add_33 rfl (lv_at hl 0 rfl) ?_
  refine va_get (D := G) (ci := 8) (v := .int (nI tc)) (C := RX8) (T := TX8) (N := 4) hx hb hts hin8 hown hK.1 hP 0 rfl rfl 3 (by decide) k_0 (fun _ h9 => h9) rfl dX8_add_34 ?_
  refine lv_iload_n hx hb dX8_add_37 rfl (lv_at hl 3 rfl) ?_
  refine zst (f' := fun i9 => nI ((va_up td tc d) i9)) hx hb hK hP hD hS 3 2 rfl rfl (j := tc) (by omega) (by omega) (vnar01 hd) (upd_nat) dX8_add_38 (fun H locs hP hD hS => ?_)
  have hP : va_P G vwCl [(h 0, .inr (8, [.ref (h 1), .ref (h 2), .ref (h 3), .int (nI tc)])), (h 1, .inl (cI, 6, .inl (fun i9 => nI ((va_up tr tc k) i9)))), (h 2, .inl (cI, 6, .inl (fun i9 => nI ((va_up tq tc o) i9)))), (h 3, .inl (cZ, 6, .inl (fun i9 => nI ((va_up td tc d) i9))))] _ := hP
  have hD : va_D A [(h 0, .inr (8, [.ref (h 1), .ref (h 2), .ref (h 3), .int (nI tc)])), (h 1, .inl (cI, 6, .inl (fun i9 => nI ((va_up tr tc k) i9)))), (h 2, .inl (cI, 6, .inl (fun i9 => nI ((va_up tq tc o) i9)))), (h 3, .inl (cZ, 6, .inl (fun i9 => nI ((va_up td tc d) i9))))] := hD
  refine lv_aload_n hx hb dX8_add_39 rfl (lv_at hl 0 rfl) ?_
  refine lv_dup hx hb dX8_add_40 rfl ?_
  refine va_get (D := G) (ci := 8) (v := .int (nI tc)) (C := RX8) (T := TX8) (N := 4) hx hb hts hin8 hown hK.1 hP 0 rfl rfl 3 (by decide) k_0 (fun _ h9 => h9) rfl dX8_add_41 ?_
  refine lv_iconst (v := nI 1) hx hb dX8_add_44 (by decide) ?_
  refine lv_iadd hx hb dX8_add_45 ?_
  refine top_i (y := nI (tc + 1)) (nI_add _ _) ?_
  refine va_put (D := G) (ci := 8) (v := .int (nI (tc + 1))) (ty := tyX8 3) (C := RX8) (T := TX8) (N := 4) hx hb hts hin8 tyX8 tyX8_ok nmX8 hown hK.1 hP hD hS 0 rfl rfl 3 (by decide) k_0 (fun _ h9 => h9) rfl (by decide +kernel) rfl rfl (Nat.le_of_ble_eq_true rfl) dX8_add_46 (fun H locs hP hD hS => ?_)
  have hP : va_P G vwCl [(h 0, .inr (8, [.ref (h 1), .ref (h 2), .ref (h 3), .int (nI (tc + 1))])), (h 1, .inl (cI, 6, .inl (fun i9 => nI ((va_up tr tc k) i9)))), (h 2, .inl (cI, 6, .inl (fun i9 => nI ((va_up tq tc o) i9)))), (h 3, .inl (cZ, 6, .inl (fun i9 => nI ((va_up td tc d) i9))))] _ := hP
  have hD : va_D A [(h 0, .inr (8, [.ref (h 1), .ref (h 2), .ref (h 3), .int (nI (tc + 1))])), (h 1, .inl (cI, 6, .inl (fun i9 => nI ((va_up tr tc k) i9)))), (h 2, .inl (cI, 6, .inl (fun i9 => nI ((va_up tq tc o) i9)))), (h 3, .inl (cZ, 6, .inl (fun i9 => nI ((va_up td tc d) i9))))] := hD
  exact endV hx hb hr hlocks (()) (trivial) (hP.sub [0, 1, 2, 3] rfl) (hD.sub [0, 1, 2, 3] (by decide) rfl) hS dX8_add_49

set_option maxHeartbeats 4000000 in
set_option maxRecDepth 100000 in
theorem c_X8_allow {l : Launch} {G : va_G} {cI cJ cZ cS : ClassId} (h : Nat → Nat) (tr : Nat → Nat) (tq : Nat → Nat) (td : Nat → Nat) (tc : Nat) (k : Nat) (o : Nat) (htc : tc < 7) (hk : k < 7) (ho : o < 5) (hr9 : ∀ i, i < tc → tr i < 7 ∧ tq i < 5 ∧ td i < 2) : CI l G (kT cI cJ cZ cS) (S := Unit) yX8_allow wsX8_allow { frames := 0, cells := 0, slots := 0, locals := 0 } [.ref (h 0), .int (nI k), .int (nI o)] [(h 0, .inr (8, [.ref (h 1), .ref (h 2), .ref (h 3), .int (nI tc)])), (h 1, .inl (cI, 6, .inl (fun i9 => nI (tr i9)))), (h 2, .inl (cI, 6, .inl (fun i9 => nI (tq i9)))), (h 3, .inl (cZ, 6, .inl (fun i9 => nI (td i9))))] (fun res _ => res = bI (alw tr tq td tc k o)) (fun _ => [(h 0, .inr (8, [.ref (h 1), .ref (h 2), .ref (h 3), .int (nI tc)])), (h 1, .inl (cI, 6, .inl (fun i9 => nI (tr i9)))), (h 2, .inl (cI, 6, .inl (fun i9 => nI (tq i9)))), (h 3, .inl (cZ, 6, .inl (fun i9 => nI (td i9))))]) := by
  refine CI.of (cc := cX8_allow) (maxL := 4) (by decide) rfl (Nat.le_of_ble_eq_true rfl) ?_
  intro p e s m below meth c A ls hB
  obtain ⟨hx, hb, hml, hr, hts, hown, hlocks, hmn, hK, hP, hD, hS, hA, hl⟩ := hB
  have hP : va_P G vwCl [(h 0, .inr (8, [.ref (h 1), .ref (h 2), .ref (h 3), .int (nI tc)])), (h 1, .inl (cI, 6, .inl (fun i9 => nI (tr i9)))), (h 2, .inl (cI, 6, .inl (fun i9 => nI (tq i9)))), (h 3, .inl (cZ, 6, .inl (fun i9 => nI (td i9))))] s.heap := hP
  have hD : va_D A [(h 0, .inr (8, [.ref (h 1), .ref (h 2), .ref (h 3), .int (nI tc)])), (h 1, .inl (cI, 6, .inl (fun i9 => nI (tr i9)))), (h 2, .inl (cI, 6, .inl (fun i9 => nI (tq i9)))), (h 3, .inl (cZ, 6, .inl (fun i9 => nI (td i9))))] := hD
  have hl : lv_has ls 4 [(0, .ref (h 0)), (1, .int (nI k)), (2, .int (nI o))] := hl
  have k_0 := hts (.fieldLink RX8 22 "HearsayMarch$Traces" "count" "I") (by decide +kernel)
  have k_1 := hts (.fieldLink RX8 9 "HearsayMarch$Traces" "ranks" "[I") (by decide +kernel)
  have k_2 := hts (.fieldLink RX8 15 "HearsayMarch$Traces" "orders" "[I") (by decide +kernel)
  have k_3 := hts (.fieldLink RX8 18 "HearsayMarch$Traces" "dids" "[Z") (by decide +kernel)
  have hin8 : ∀ w ∈ wsX80, w ∈ wsX8_allow := by decide +kernel
  refine lv_iconst (v := nI 0) hx hb dX8_allow_0 (by decide) ?_
  refine lv_istore_n (lv' := [(3, .int (nI 0)), (0, .ref (h 0)), (1, .int (nI k)), (2, .int (nI o))]) hx hb dX8_allow_1 rfl hl (by decide) rfl (fun ls hl => ?_)
  refine loopW (σ := Nat) 2 (fun (i : Nat) H locs ls => (i ≤ tc) ∧ (∀ j, j < i → tr j = k → (tq j = o ↔ td j = 1)) ∧ va_P G vwCl [(h 0, .inr (8, [.ref (h 1), .ref (h 2), .ref (h 3), .int (nI tc)])), (h 1, .inl (cI, 6, .inl (fun i9 => nI (tr i9)))), (h 2, .inl (cI, 6, .inl (fun i9 => nI (tq i9)))), (h 3, .inl (cZ, 6, .inl (fun i9 => nI (td i9))))] H ∧ va_D A [(h 0, .inr (8, [.ref (h 1), .ref (h 2), .ref (h 3), .int (nI tc)])), (h 1, .inl (cI, 6, .inl (fun i9 => nI (tr i9)))), (h 2, .inl (cI, 6, .inl (fun i9 => nI (tq i9)))), (h 3, .inl (cZ, 6, .inl (fun i9 => nI (td i9))))] ∧ va_S A s.heap H locs ∧ lv_has ls 4 [(3, .int (nI i)), (0, .ref (h 0)), (1, .int (nI k)), (2, .int (nI o))]) (fun (i : Nat) => []) (fun (i : Nat) => tc - i) ?_ 0 ⟨by first | assumption | omega | (simp; done), by first | assumption | omega | (simp; done), hP.sub [0, 1, 2, 3] rfl, hD.sub [0, 1, 2, 3] (by decide) rfl, hS, lv_sub hl [0, 1, 2, 3] rfl⟩
  intro xx9 H locs ls hI ih_2
  obtain ⟨i, rfl⟩ : ∃ z, z = xx9 := ⟨_, rfl⟩
  obtain ⟨hi, hal, hP, hD, hS, hl⟩ := hI
  have hi : i ≤ tc := hi
  have hal : ∀ j, j < i → tr j = k → (tq j = o ↔ td j = 1) := hal
  have hP : va_P G vwCl [(h 0, .inr (8, [.ref (h 1), .ref (h 2), .ref (h 3), .int (nI tc)])), (h 1, .inl (cI, 6, .inl (fun i9 => nI (tr i9)))), (h 2, .inl (cI, 6, .inl (fun i9 => nI (tq i9)))), (h 3, .inl (cZ, 6, .inl (fun i9 => nI (td i9))))] _ := hP
  have hD : va_D A [(h 0, .inr (8, [.ref (h 1), .ref (h 2), .ref (h 3), .int (nI tc)])), (h 1, .inl (cI, 6, .inl (fun i9 => nI (tr i9)))), (h 2, .inl (cI, 6, .inl (fun i9 => nI (tq i9)))), (h 3, .inl (cZ, 6, .inl (fun i9 => nI (td i9))))] := hD
  have hl : lv_has ls 4 [(3, .int (nI i)), (0, .ref (h 0)), (1, .int (nI k)), (2, .int (nI o))] := hl
  refine lv_iload_n hx hb dX8_allow_2 rfl (lv_at hl 0 rfl) ?_
  refine lv_aload_n hx hb dX8_allow_3 rfl (lv_at hl 1 rfl) ?_
  refine va_get (D := G) (ci := 8) (v := .int (nI tc)) (C := RX8) (T := TX8) (N := 4) hx hb hts hin8 hown hK.1 hP 0 rfl rfl 3 (by decide) k_0 (fun _ h9 => h9) rfl dX8_allow_4 ?_
  refine lv_icmp_ge (tgt := 52) hx hb dX8_allow_7 (by decide) (fun c_7 => ?_) (fun c_7 => ?_)
  · skip
    have c_7 := n_geT c_7 (by omega) (by omega)
    refine lv_iconst (v := nI 1) hx hb dX8_allow_52 (by decide) ?_
    exact endZ hx hb hr hlocks (rfl) (()) (bI_y (fun j hj => hal j (by omega))) (hP.sub [0, 1, 2, 3] rfl) (hD.sub [0, 1, 2, 3] (by decide) rfl) hS dX8_allow_53
  · skip
    have c_7 := n_geF c_7 (by omega) (by omega)
    have hq := hr9 i (by omega)
    refine lv_aload_n hx hb dX8_allow_10 rfl (lv_at hl 1 rfl) ?_
    refine va_get (D := G) (ci := 8) (v := .ref (h 1)) (C := RX8) (T := TX8) (N := 4) hx hb hts hin8 hown hK.1 hP 0 rfl rfl 0 (by decide) k_1 (fun _ h9 => h9) rfl dX8_allow_11 ?_
    refine lv_iload_n hx hb dX8_allow_14 rfl (lv_at hl 0 rfl) ?_
    refine ald hx hb hK hP 1 0 rfl rfl (j := i) (by omega) (by omega) dX8_allow_15 ?_
    refine lv_iload_n hx hb dX8_allow_16 rfl (lv_at hl 2 rfl) ?_
    refine lv_icmp_ne (tgt := 46) hx hb dX8_allow_17 (by decide) (fun c_17 => ?_) (fun c_17 => ?_)
    · skip
      have c_17 := n_neT c_17 (by omega) (by omega)
      refine lv_iinc (v := nI (i + 1)) (lv' := [(3, .int (nI (i + 1))), (0, .ref (h 0)), (1, .int (nI k)), (2, .int (nI o))]) hx hb dX8_allow_46 hl (k := 0) rfl (nI_inc _ 1 1 (by decide)) (by decide) rfl (fun ls hl => ?_)
      refine lv_goto (tgt := 2) hx hb dX8_allow_49 (by decide) ?_
      exact ih_2 (i + 1) _ _ _ (by first | omega | (simp only []; omega) | (show _ < _; omega)) ⟨by first | assumption | omega | (simp; done), lt_s hal (fun z => absurd z c_17), hP.sub [0, 1, 2, 3] rfl, hD.sub [0, 1, 2, 3] (by decide) rfl, hS, lv_sub hl [0, 1, 2, 3] rfl⟩
    · skip
      have c_17 := n_neF c_17 (by omega) (by omega)
      refine lv_aload_n hx hb dX8_allow_20 rfl (lv_at hl 1 rfl) ?_
      refine va_get (D := G) (ci := 8) (v := .ref (h 2)) (C := RX8) (T := TX8) (N := 4) hx hb hts hin8 hown hK.1 hP 0 rfl rfl 1 (by decide) k_2 (fun _ h9 => h9) rfl dX8_allow_21 ?_
      refine lv_iload_n hx hb dX8_allow_24 rfl (lv_at hl 0 rfl) ?_
      refine ald hx hb hK hP 2 0 rfl rfl (j := i) (by omega) (by omega) dX8_allow_25 ?_
      refine lv_iload_n hx hb dX8_allow_26 rfl (lv_at hl 3 rfl) ?_
      refine lv_icmp_ne (tgt := 34) hx hb dX8_allow_27 (by decide) (fun c_27 => ?_) (fun c_27 => ?_)
      · skip
        have c_27 := n_neT c_27 (by omega) (by omega)
        refine lv_iconst (v := nI 0) hx hb dX8_allow_34 (by decide) ?_
        refine lv_aload_n hx hb dX8_allow_35 rfl (lv_at hl 1 rfl) ?_
        refine va_get (D := G) (ci := 8) (v := .ref (h 3)) (C := RX8) (T := TX8) (N := 4) hx hb hts hin8 hown hK.1 hP 0 rfl rfl 2 (by decide) k_3 (fun _ h9 => h9) rfl dX8_allow_36 ?_
        refine lv_iload_n hx hb dX8_allow_39 rfl (lv_at hl 0 rfl) ?_
        refine zld hx hb hK hP 3 2 rfl rfl (j := i) (by omega) (by omega) dX8_allow_40 ?_
        refine lv_icmp_eq (tgt := 46) hx hb dX8_allow_41 (by decide) (fun c_41 => ?_) (fun c_41 => ?_)
        · skip
          have c_41 := n_eqT c_41 (by omega) (by omega)
          refine lv_iinc (v := nI (i + 1)) (lv' := [(3, .int (nI (i + 1))), (0, .ref (h 0)), (1, .int (nI k)), (2, .int (nI o))]) hx hb dX8_allow_46 hl (k := 0) rfl (nI_inc _ 1 1 (by decide)) (by decide) rfl (fun ls hl => ?_)
          refine lv_goto (tgt := 2) hx hb dX8_allow_49 (by decide) ?_
          exact ih_2 (i + 1) _ _ _ (by first | omega | (simp only []; omega) | (show _ < _; omega)) ⟨by first | assumption | omega | (simp; done), lt_s hal (fun _ => by omega), hP.sub [0, 1, 2, 3] rfl, hD.sub [0, 1, 2, 3] (by decide) rfl, hS, lv_sub hl [0, 1, 2, 3] rfl⟩
        · skip
          have c_41 := n_eqF c_41 (by omega) (by omega)
          refine lv_iconst (v := nI 0) hx hb dX8_allow_44 (by decide) ?_
          exact endZ hx hb hr hlocks (rfl) (()) (bI_n (fun z => by have z1 := z i (by omega) (by omega); omega)) (hP.sub [0, 1, 2, 3] rfl) (hD.sub [0, 1, 2, 3] (by decide) rfl) hS dX8_allow_45
      · skip
        have c_27 := n_neF c_27 (by omega) (by omega)
        refine lv_iconst (v := nI 1) hx hb dX8_allow_30 (by decide) ?_
        refine lv_goto (tgt := 35) hx hb dX8_allow_31 (by decide) ?_
        refine lv_aload_n hx hb dX8_allow_35 rfl (lv_at hl 1 rfl) ?_
        refine va_get (D := G) (ci := 8) (v := .ref (h 3)) (C := RX8) (T := TX8) (N := 4) hx hb hts hin8 hown hK.1 hP 0 rfl rfl 2 (by decide) k_3 (fun _ h9 => h9) rfl dX8_allow_36 ?_
        refine lv_iload_n hx hb dX8_allow_39 rfl (lv_at hl 0 rfl) ?_
        refine zld hx hb hK hP 3 2 rfl rfl (j := i) (by omega) (by omega) dX8_allow_40 ?_
        refine lv_icmp_eq (tgt := 46) hx hb dX8_allow_41 (by decide) (fun c_41 => ?_) (fun c_41 => ?_)
        · skip
          have c_41 := n_eqT c_41 (by omega) (by omega)
          refine lv_iinc (v := nI (i + 1)) (lv' := [(3, .int (nI (i + 1))), (0, .ref (h 0)), (1, .int (nI k)), (2, .int (nI o))]) hx hb dX8_allow_46 hl (k := 0) rfl (nI_inc _ 1 1 (by decide)) (by decide) rfl (fun ls hl => ?_)
          refine lv_goto (tgt := 2) hx hb dX8_allow_49 (by decide) ?_
          exact ih_2 (i + 1) _ _ _ (by first | omega | (simp only []; omega) | (show _ < _; omega)) ⟨by first | assumption | omega | (simp; done), lt_s hal (fun _ => by omega), hP.sub [0, 1, 2, 3] rfl, hD.sub [0, 1, 2, 3] (by decide) rfl, hS, lv_sub hl [0, 1, 2, 3] rfl⟩
        · skip
          have c_41 := n_eqF c_41 (by omega) (by omega)
          refine lv_iconst (v := nI 0) hx hb dX8_allow_44 (by decide) ?_
          exact endZ hx hb hr hlocks (rfl) (()) (bI_n (fun z => by have z1 := z i (by omega) (by omega); omega)) (hP.sub [0, 1, 2, 3] rfl) (hD.sub [0, 1, 2, 3] (by decide) rfl) hS dX8_allow_45

set_option maxHeartbeats 4000000 in
set_option maxRecDepth 100000 in
theorem c_X9_isOrder {l : Launch} {G : va_G} {cI cJ cZ cS : ClassId} (r : Int32) : CI l G (kT cI cJ cZ cS) (S := Unit) yX9_isOrder wsX9_isOrder { frames := 0, cells := 0, slots := 0, locals := 0 } [.int r] [] (fun res _ => res = bI (isR 5 r)) (fun _ => []) := by
  refine CI.of (cc := cX9_isOrder) (maxL := 1) (by decide) rfl (Nat.le_of_ble_eq_true rfl) ?_
  intro p e s m below meth c A ls hB
  obtain ⟨hx, hb, hml, hr, hts, hown, hlocks, hmn, hK, hP, hD, hS, hA, hl⟩ := hB
  have hP : va_P G vwCl [] s.heap := hP
  have hD : va_D A [] := hD
  have hl : lv_has ls 1 [(0, .int r)] := hl
  refine lv_iload_n hx hb dX9_isOrder_0 rfl (lv_at hl 0 rfl) ?_
  refine lv_if_lt (tgt := 13) hx hb dX9_isOrder_1 (by decide) (fun c_1 => ?_) (fun c_1 => ?_)
  · skip
    refine lv_iconst (v := nI 0) hx hb dX9_isOrder_13 (by decide) ?_
    exact endZ hx hb hr hlocks (rfl) (()) (bI_n (fun z => by rw [isR_iff (by omega)] at z; exact not_lt_of z.1 c_1)) (hP.sub [] rfl) (hD.sub [] (by decide) rfl) hS dX9_isOrder_14
  · skip
    refine lv_iload_n hx hb dX9_isOrder_4 rfl (lv_at hl 0 rfl) ?_
    refine lv_iconst (v := nI 5) hx hb dX9_isOrder_5 (by decide) ?_
    refine lv_icmp_ge (tgt := 13) hx hb dX9_isOrder_6 (by decide) (fun c_6 => ?_) (fun c_6 => ?_)
    · skip
      refine lv_iconst (v := nI 0) hx hb dX9_isOrder_13 (by decide) ?_
      exact endZ hx hb hr hlocks (rfl) (()) (bI_n (fun z => by rw [isR_iff (by omega)] at z; exact not_le_of z.2 c_6)) (hP.sub [] rfl) (hD.sub [] (by decide) rfl) hS dX9_isOrder_14
    · skip
      refine lv_iconst (v := nI 1) hx hb dX9_isOrder_9 (by decide) ?_
      refine lv_goto (tgt := 14) hx hb dX9_isOrder_10 (by decide) ?_
      exact endZ hx hb hr hlocks (rfl) (()) (bI_y ((isR_iff (by omega)).mpr ⟨le_of_not c_1, lt_of_not c_6⟩)) (hP.sub [] rfl) (hD.sub [] (by decide) rfl) hS dX9_isOrder_14

set_option maxHeartbeats 4000000 in
set_option maxRecDepth 100000 in
theorem c_X9_isSlot {l : Launch} {G : va_G} {cI cJ cZ cS : ClassId} (r : Int32) : CI l G (kT cI cJ cZ cS) (S := Unit) yX9_isSlot wsX9_isSlot { frames := 0, cells := 0, slots := 0, locals := 0 } [.int r] [] (fun res _ => res = bI (isR 2 r)) (fun _ => []) := by
  refine CI.of (cc := cX9_isSlot) (maxL := 1) (by decide) rfl (Nat.le_of_ble_eq_true rfl) ?_
  intro p e s m below meth c A ls hB
  obtain ⟨hx, hb, hml, hr, hts, hown, hlocks, hmn, hK, hP, hD, hS, hA, hl⟩ := hB
  have hP : va_P G vwCl [] s.heap := hP
  have hD : va_D A [] := hD
  have hl : lv_has ls 1 [(0, .int r)] := hl
  refine lv_iload_n hx hb dX9_isSlot_0 rfl (lv_at hl 0 rfl) ?_
  refine lv_if_lt (tgt := 13) hx hb dX9_isSlot_1 (by decide) (fun c_1 => ?_) (fun c_1 => ?_)
  · skip
    refine lv_iconst (v := nI 0) hx hb dX9_isSlot_13 (by decide) ?_
    exact endZ hx hb hr hlocks (rfl) (()) (bI_n (fun z => by rw [isR_iff (by omega)] at z; exact not_lt_of z.1 c_1)) (hP.sub [] rfl) (hD.sub [] (by decide) rfl) hS dX9_isSlot_14
  · skip
    refine lv_iload_n hx hb dX9_isSlot_4 rfl (lv_at hl 0 rfl) ?_
    refine lv_iconst (v := nI 2) hx hb dX9_isSlot_5 (by decide) ?_
    refine lv_icmp_ge (tgt := 13) hx hb dX9_isSlot_6 (by decide) (fun c_6 => ?_) (fun c_6 => ?_)
    · skip
      refine lv_iconst (v := nI 0) hx hb dX9_isSlot_13 (by decide) ?_
      exact endZ hx hb hr hlocks (rfl) (()) (bI_n (fun z => by rw [isR_iff (by omega)] at z; exact not_le_of z.2 c_6)) (hP.sub [] rfl) (hD.sub [] (by decide) rfl) hS dX9_isSlot_14
    · skip
      refine lv_iconst (v := nI 1) hx hb dX9_isSlot_9 (by decide) ?_
      refine lv_goto (tgt := 14) hx hb dX9_isSlot_10 (by decide) ?_
      exact endZ hx hb hr hlocks (rfl) (()) (bI_y ((isR_iff (by omega)).mpr ⟨le_of_not c_1, lt_of_not c_6⟩)) (hP.sub [] rfl) (hD.sub [] (by decide) rfl) hS dX9_isSlot_14

set_option maxHeartbeats 4000000 in
set_option maxRecDepth 100000 in
theorem c_X9_figure {l : Launch} {G : va_G} {cI cJ cZ cS : ClassId} (w : Nat) (q : Nat) (hw9 : w < 2147483648) (hq : q < 10) : CI l G (kT cI cJ cZ cS) (S := Unit) yX9_figure wsX9_figure { frames := 0, cells := 0, slots := 0, locals := 0 } [.int (nI w), .int (nI q)] [] (fun res _ => res = nI (w / 10 ^ q % 10)) (fun _ => []) := by
  refine CI.of (cc := cX9_figure) (maxL := 4) (by decide) rfl (Nat.le_of_ble_eq_true rfl) ?_
  intro p e s m below meth c A ls hB
  obtain ⟨hx, hb, hml, hr, hts, hown, hlocks, hmn, hK, hP, hD, hS, hA, hl⟩ := hB
  have hP : va_P G vwCl [] s.heap := hP
  have hD : va_D A [] := hD
  have hl : lv_has ls 4 [(0, .int (nI w)), (1, .int (nI q))] := hl
  refine lv_iload_n hx hb dX9_figure_0 rfl (lv_at hl 0 rfl) ?_
  refine lv_istore_n (lv' := [(2, .int (nI w)), (0, .int (nI w)), (1, .int (nI q))]) hx hb dX9_figure_1 rfl hl (by decide) rfl (fun ls hl => ?_)
  refine lv_iconst (v := nI 0) hx hb dX9_figure_2 (by decide) ?_
  refine lv_istore_n (lv' := [(3, .int (nI 0)), (2, .int (nI w)), (0, .int (nI w)), (1, .int (nI q))]) hx hb dX9_figure_3 rfl hl (by decide) rfl (fun ls hl => ?_)
  rw [show nI w = nI (w / 10 ^ 0) by rw [Nat.pow_zero, Nat.div_one]] at hl
  refine loopW (σ := Nat) 4 (fun (i : Nat) H locs ls => (i ≤ q) ∧ va_P G vwCl [] H ∧ va_D A [] ∧ va_S A s.heap H locs ∧ lv_has ls 4 [(3, .int (nI i)), (2, .int (nI (w / 10 ^ i))), (0, .int (nI (w / 10 ^ 0))), (1, .int (nI q))]) (fun (i : Nat) => []) (fun (i : Nat) => q - i) ?_ 0 ⟨by first | assumption | omega | (simp; done), hP.sub [] rfl, hD.sub [] (by decide) rfl, hS, lv_sub hl [0, 1, 2, 3] rfl⟩
  intro xx9 H locs ls hI ih_4
  obtain ⟨i, rfl⟩ : ∃ z, z = xx9 := ⟨_, rfl⟩
  obtain ⟨hi, hP, hD, hS, hl⟩ := hI
  have hi : i ≤ q := hi
  have hP : va_P G vwCl [] _ := hP
  have hD : va_D A [] := hD
  have hl : lv_has ls 4 [(3, .int (nI i)), (2, .int (nI (w / 10 ^ i))), (0, .int (nI (w / 10 ^ 0))), (1, .int (nI q))] := hl
  refine lv_iload_n hx hb dX9_figure_4 rfl (lv_at hl 0 rfl) ?_
  refine lv_iload_n hx hb dX9_figure_5 rfl (lv_at hl 3 rfl) ?_
  refine lv_icmp_ge (tgt := 20) hx hb dX9_figure_6 (by decide) (fun c_6 => ?_) (fun c_6 => ?_)
  · skip
    have c_6 := n_geT c_6 (by omega) (by omega)
    have hb9 : w / 10 ^ i < 2147483648 := Nat.lt_of_le_of_lt (Nat.div_le_self _ _) hw9
    refine lv_iload_n hx hb dX9_figure_20 rfl (lv_at hl 1 rfl) ?_
    refine lv_bipush (v := nI 10) hx hb dX9_figure_21 (by decide) ?_
    refine lv_irem hx hb dX9_figure_23 (by decide) ?_
    refine top_i (y := nI ((w / 10 ^ i) % 10)) (pk_rem (by omega) (by omega) (by omega)) ?_
    exact endI hx hb hr hlocks (()) (by rw [show i = q by omega]) (hP.sub [] rfl) (hD.sub [] (by decide) rfl) hS dX9_figure_24
  · skip
    have c_6 := n_geF c_6 (by omega) (by omega)
    have hb9 : w / 10 ^ i < 2147483648 := Nat.lt_of_le_of_lt (Nat.div_le_self _ _) hw9
    refine lv_iload_n hx hb dX9_figure_9 rfl (lv_at hl 1 rfl) ?_
    refine lv_bipush (v := nI 10) hx hb dX9_figure_10 (by decide) ?_
    refine lv_idiv hx hb dX9_figure_12 (by decide) ?_
    refine top_i (y := nI ((w / 10 ^ i) / 10)) (pk_div (by omega) (by omega) (by omega)) ?_
    refine top_i (y := nI (w / 10 ^ (i + 1))) (by rw [Nat.div_div_eq_div_mul, Nat.pow_succ]) ?_
    refine lv_istore_n (lv' := [(2, .int (nI (w / 10 ^ (i + 1)))), (3, .int (nI i)), (0, .int (nI (w / 10 ^ 0))), (1, .int (nI q))]) hx hb dX9_figure_13 rfl hl (by decide) rfl (fun ls hl => ?_)
    refine lv_iinc (v := nI (i + 1)) (lv' := [(3, .int (nI (i + 1))), (2, .int (nI (w / 10 ^ (i + 1)))), (0, .int (nI (w / 10 ^ 0))), (1, .int (nI q))]) hx hb dX9_figure_14 hl (k := 1) rfl (nI_inc _ 1 1 (by decide)) (by decide) rfl (fun ls hl => ?_)
    refine lv_goto (tgt := 4) hx hb dX9_figure_17 (by decide) ?_
    exact ih_4 (i + 1) _ _ _ (by first | omega | (simp only []; omega) | (show _ < _; omega)) ⟨by first | assumption | omega | (simp; done), hP.sub [] rfl, hD.sub [] (by decide) rfl, hS, lv_sub hl [0, 1, 2, 3] rfl⟩

set_option maxHeartbeats 4000000 in
set_option maxRecDepth 100000 in
theorem c_X9_isRowOfOrders {l : Launch} {G : va_G} {cI cJ cZ cS : ClassId} (n : Nat) (r : Int32) (hn : n < 7) : CI l G (kT cI cJ cZ cS) (S := Unit) yX9_isRowOfOrders wsX9_isRowOfOrders { frames := 1, cells := 0, slots := 0, locals := 20 } [.int (nI n), .int r] [] (fun res _ => res = bI (rowOk n r)) (fun _ => []) := by
  refine CI.of (cc := cX9_isRowOfOrders) (maxL := 4) (by decide) rfl (Nat.le_of_ble_eq_true rfl) ?_
  intro p e s m below meth c A ls hB
  obtain ⟨hx, hb, hml, hr, hts, hown, hlocks, hmn, hK, hP, hD, hS, hA, hl⟩ := hB
  have hP : va_P G vwCl [] s.heap := hP
  have hD : va_D A [] := hD
  have hl : lv_has ls 4 [(0, .int (nI n)), (1, .int r)] := hl
  refine lv_iload_n hx hb dX9_isRowOfOrders_0 rfl (lv_at hl 1 rfl) ?_
  refine lv_if_ge (tgt := 6) hx hb dX9_isRowOfOrders_1 (by decide) (fun c_1 => ?_) (fun c_1 => ?_)
  · skip
    obtain ⟨w, hw9, rfl⟩ := nI_of (fun z => not_lt_of c_1 z)
    have hw9 : w < 2147483648 := hw9
    refine lv_iload_n hx hb dX9_isRowOfOrders_6 rfl (lv_at hl 1 rfl) ?_
    refine lv_istore_n (lv' := [(2, .int (nI w)), (0, .int (nI n)), (1, .int (nI w))]) hx hb dX9_isRowOfOrders_7 rfl hl (by decide) rfl (fun ls hl => ?_)
    refine lv_iconst (v := nI 0) hx hb dX9_isRowOfOrders_8 (by decide) ?_
    refine lv_istore_n (lv' := [(3, .int (nI 0)), (2, .int (nI w)), (0, .int (nI n)), (1, .int (nI w))]) hx hb dX9_isRowOfOrders_9 rfl hl (by decide) rfl (fun ls hl => ?_)
    have hl : lv_has ls 4 [(3, .int (nI 0)), (2, .int (nI (w / 10 ^ 0))), (0, .int (nI n)), (1, .int (nI w))] := by rw [Nat.pow_zero, Nat.div_one]; exact hl
    refine loopW (σ := Nat) 10 (fun (i : Nat) H locs ls => (i ≤ n) ∧ (∀ j, j < i → w / 10 ^ j % 10 < 5) ∧ va_P G vwCl [] H ∧ va_D A [] ∧ va_S A s.heap H locs ∧ lv_has ls 4 [(3, .int (nI i)), (2, .int (nI (w / 10 ^ i))), (0, .int (nI n)), (1, .int (nI w))]) (fun (i : Nat) => []) (fun (i : Nat) => n - i) ?_ 0 ⟨by first | assumption | omega | (simp; done), by first | assumption | omega | (simp; done), hP.sub [] rfl, hD.sub [] (by decide) rfl, hS, lv_sub hl [0, 1, 2, 3] rfl⟩
    intro xx9 H locs ls hI ih_10
    obtain ⟨i, rfl⟩ : ∃ z, z = xx9 := ⟨_, rfl⟩
    obtain ⟨hi, hro, hP, hD, hS, hl⟩ := hI
    have hi : i ≤ n := hi
    have hro : ∀ j, j < i → w / 10 ^ j % 10 < 5 := hro
    have hP : va_P G vwCl [] _ := hP
    have hD : va_D A [] := hD
    have hl : lv_has ls 4 [(3, .int (nI i)), (2, .int (nI (w / 10 ^ i))), (0, .int (nI n)), (1, .int (nI w))] := hl
    refine lv_iload_n hx hb dX9_isRowOfOrders_10 rfl (lv_at hl 0 rfl) ?_
    refine lv_iload_n hx hb dX9_isRowOfOrders_11 rfl (lv_at hl 2 rfl) ?_
    refine lv_icmp_ge (tgt := 38) hx hb dX9_isRowOfOrders_12 (by decide) (fun c_12 => ?_) (fun c_12 => ?_)
    · skip
      have c_12 := n_geT c_12 (by omega) (by omega)
      have hin9 : i = n := by omega
      subst hin9
      have hb9 : w / 10 ^ i < 2147483648 := Nat.lt_of_le_of_lt (Nat.div_le_self _ _) hw9
      refine lv_iload_n hx hb dX9_isRowOfOrders_38 rfl (lv_at hl 1 rfl) ?_
      refine lv_if_ne (tgt := 46) hx hb dX9_isRowOfOrders_39 (by decide) (fun c_39 => ?_) (fun c_39 => ?_)
      · skip
        have c_39 := z_neT c_39 (by omega)
        refine lv_iconst (v := nI 0) hx hb dX9_isRowOfOrders_46 (by decide) ?_
        exact endZ hx hb hr hlocks (rfl) (()) (bI_n (fun z => by obtain ⟨w2, h2, e, h3, h4⟩ := z; have e2 := (nI_eq hw9 h2).mp e; subst e2; exact c_39 (Nat.div_eq_of_lt h3))) (hP.sub [] rfl) (hD.sub [] (by decide) rfl) hS dX9_isRowOfOrders_47
      · skip
        have c_39 := z_neF c_39 (by omega)
        refine lv_iconst (v := nI 1) hx hb dX9_isRowOfOrders_42 (by decide) ?_
        refine lv_goto (tgt := 47) hx hb dX9_isRowOfOrders_43 (by decide) ?_
        exact endZ hx hb hr hlocks (rfl) (()) (bI_y ⟨w, hw9, rfl, div_zero_lt c_39, hro⟩) (hP.sub [] rfl) (hD.sub [] (by decide) rfl) hS dX9_isRowOfOrders_47
    · skip
      have c_12 := n_geF c_12 (by omega) (by omega)
      have hb9 : w / 10 ^ i < 2147483648 := Nat.lt_of_le_of_lt (Nat.div_le_self _ _) hw9
      refine lv_iload_n hx hb dX9_isRowOfOrders_15 rfl (lv_at hl 1 rfl) ?_
      refine lv_bipush (v := nI 10) hx hb dX9_isRowOfOrders_16 (by decide) ?_
      refine lv_irem hx hb dX9_isRowOfOrders_18 (by decide) ?_
      refine top_i (y := nI ((w / 10 ^ i) % 10)) (pk_rem (by omega) (by omega) (by omega)) ?_
      refine aft_i (wr := []) (va_runS (As := [.int (nI ((w / 10 ^ i) % 10))]) (rest := []) ⟨hx, hb, hml, hown, hts⟩ (c_X9_isOrder (r := nI ((w / 10 ^ i) % 10)) _) (va_cwS 1 hts gX9_isRowOfOrders_X9_isOrder rfl rfl rfl (by decide +kernel) ⟨Nat.le_of_ble_eq_true rfl, Nat.le_of_ble_eq_true rfl⟩) (preS hK hP hD [] rfl rfl) rfl rfl hl.1 rfl (lv_room (Nat.le_of_ble_eq_true rfl)) dX9_isRowOfOrders_19 ⟨Nat.le_of_ble_eq_true rfl, Nat.le_of_ble_eq_true rfl⟩) hP hD hS hA [] [] rfl rfl rfl (by decide) (fun r_19 uu9 H locs hw hP hD hS => ?_)
      have hP : va_P G vwCl [] _ := hP
      have hD : va_D A [] := hD
      obtain rfl := hw
      refine top_i (y := bI (isR 5 (nI ((w / 10 ^ i) % 10)))) rfl ?_
      refine lv_if_ne (tgt := 27) hx hb dX9_isRowOfOrders_22 (by decide) (fun c_22 => ?_) (fun c_22 => ?_)
      · skip
        have c_22 := bI_t c_22
        have c_22 := (isR_nI (by omega) (by omega)).mp c_22
        refine lv_iload_n hx hb dX9_isRowOfOrders_27 rfl (lv_at hl 1 rfl) ?_
        refine lv_bipush (v := nI 10) hx hb dX9_isRowOfOrders_28 (by decide) ?_
        refine lv_idiv hx hb dX9_isRowOfOrders_30 (by decide) ?_
        refine top_i (y := nI ((w / 10 ^ i) / 10)) (pk_div (by omega) (by omega) (by omega)) ?_
        refine top_i (y := nI (w / 10 ^ (i + 1))) (by rw [Nat.div_div_eq_div_mul, Nat.pow_succ]) ?_
        refine lv_istore_n (lv' := [(2, .int (nI (w / 10 ^ (i + 1)))), (3, .int (nI i)), (0, .int (nI n)), (1, .int (nI w))]) hx hb dX9_isRowOfOrders_31 rfl hl (by decide) rfl (fun ls hl => ?_)
        refine lv_iinc (v := nI (i + 1)) (lv' := [(3, .int (nI (i + 1))), (2, .int (nI (w / 10 ^ (i + 1)))), (0, .int (nI n)), (1, .int (nI w))]) hx hb dX9_isRowOfOrders_32 hl (k := 1) rfl (nI_inc _ 1 1 (by decide)) (by decide) rfl (fun ls hl => ?_)
        refine lv_goto (tgt := 10) hx hb dX9_isRowOfOrders_35 (by decide) ?_
        exact ih_10 (i + 1) _ _ _ (by first | omega | (simp only []; omega) | (show _ < _; omega)) ⟨by first | assumption | omega | (simp; done), lt_s hro c_22, hP.sub [] rfl, hD.sub [] (by decide) rfl, hS, lv_sub hl [0, 1, 2, 3] rfl⟩
      · skip
        have c_22 := bI_f c_22
        refine lv_iconst (v := nI 0) hx hb dX9_isRowOfOrders_25 (by decide) ?_
        exact endZ hx hb hr hlocks (rfl) (()) (bI_n (fun z => by obtain ⟨w2, h2, e, h3, h4⟩ := z; have e2 := (nI_eq hw9 h2).mp e; subst e2; exact c_22 ⟨_, h4 i (by omega), rfl⟩)) (hP.sub [] rfl) (hD.sub [] (by decide) rfl) hS dX9_isRowOfOrders_26
  · skip
    refine lv_iconst (v := nI 0) hx hb dX9_isRowOfOrders_4 (by decide) ?_
    exact endZ hx hb hr hlocks (rfl) (()) (bI_n (fun z => by obtain ⟨w, hw1, rfl, -⟩ := z; exact c_1 (nI_pos' hw1))) (hP.sub [] rfl) (hD.sub [] (by decide) rfl) hS dX9_isRowOfOrders_5

set_option maxHeartbeats 4000000 in
set_option maxRecDepth 100000 in
theorem c_X9_commonDivisor {l : Launch} {G : va_G} {cI cJ cZ cS : ClassId} (x : Nat) (y : Nat) (hx9 : x < 9223372036854775808) (hy9 : y < 9223372036854775808) : CL l G (kT cI cJ cZ cS) (S := Unit) yX9_commonDivisor wsX9_commonDivisor { frames := 0, cells := 0, slots := 0, locals := 0 } [.long (lN x), .long (lN y)] [] (fun res _ => res = lN (Nat.gcd x y)) (fun _ => []) := by
  refine CL.of (cc := cX9_commonDivisor) (maxL := 11) (by decide) rfl (Nat.le_of_ble_eq_true rfl) ?_
  intro p e s m below meth c A ls hB
  obtain ⟨hx, hb, hml, hr, hts, hown, hlocks, hmn, hK, hP, hD, hS, hA, hl⟩ := hB
  have hP : va_P G vwCl [] s.heap := hP
  have hD : va_D A [] := hD
  have hl : lv_has ls 11 [(0, .long (lN x)), (2, .long (lN y))] := hl
  refine lv_lload_n hx hb dX9_commonDivisor_0 rfl (lv_at hl 0 rfl) ?_
  refine lv_lstore (lv' := [(4, .long (lN x)), (0, .long (lN x)), (2, .long (lN y))]) hx hb dX9_commonDivisor_1 hl (by decide) rfl (fun ls hl => ?_)
  refine lv_lload_n hx hb dX9_commonDivisor_3 rfl (lv_at hl 2 rfl) ?_
  refine lv_lstore (lv' := [(6, .long (lN y)), (4, .long (lN x)), (0, .long (lN x)), (2, .long (lN y))]) hx hb dX9_commonDivisor_4 hl (by decide) rfl (fun ls hl => ?_)
  refine lv_iconst (v := nI 0) hx hb dX9_commonDivisor_6 (by decide) ?_
  refine lv_istore (lv' := [(8, .int (nI 0)), (6, .long (lN y)), (4, .long (lN x)), (0, .long (lN x)), (2, .long (lN y))]) hx hb dX9_commonDivisor_7 hl (by decide) rfl (fun ls hl => ?_)
  have hE0 : En (100 - 0) x y := En_100 hy9
  refine loopW (σ := Nat × Nat × Nat) 9 (fun xx9 H locs ls => match xx9 with | (i, a, b) => (i ≤ 100) ∧ (a < 9223372036854775808) ∧ (b < 9223372036854775808) ∧ (Nat.gcd a b = Nat.gcd x y) ∧ (En (100 - i) a b) ∧ va_P G vwCl [] H ∧ va_D A [] ∧ va_S A s.heap H locs ∧ lv_has ls 11 [(8, .int (nI i)), (6, .long (lN b)), (4, .long (lN a)), (0, .long (lN x)), (2, .long (lN y))]) (fun xx9 => match xx9 with | (i, a, b) => []) (fun xx9 => match xx9 with | (i, a, b) => 100 - i) ?_ (0, x, y) ⟨by first | assumption | omega | (simp; done), by first | assumption | omega | (simp; done), by first | assumption | omega | (simp; done), by first | assumption | omega | (simp; done), by first | assumption | omega | (simp; done), hP.sub [] rfl, hD.sub [] (by decide) rfl, hS, lv_sub hl [0, 1, 2, 3, 4] rfl⟩
  intro xx9 H locs ls hI ih_9
  obtain ⟨i, a, b⟩ := xx9
  obtain ⟨hi, ha9, hb9, hg, hE, hP, hD, hS, hl⟩ := hI
  have hi : i ≤ 100 := hi
  have ha9 : a < 9223372036854775808 := ha9
  have hb9 : b < 9223372036854775808 := hb9
  have hg : Nat.gcd a b = Nat.gcd x y := hg
  have hE : En (100 - i) a b := hE
  have hP : va_P G vwCl [] _ := hP
  have hD : va_D A [] := hD
  have hl : lv_has ls 11 [(8, .int (nI i)), (6, .long (lN b)), (4, .long (lN a)), (0, .long (lN x)), (2, .long (lN y))] := hl
  refine lv_iload hx hb dX9_commonDivisor_9 (lv_at hl 0 rfl) ?_
  refine lv_bipush (v := nI 100) hx hb dX9_commonDivisor_11 (by decide) ?_
  refine lv_icmp_ge (tgt := 44) hx hb dX9_commonDivisor_13 (by decide) (fun c_13 => ?_) (fun c_13 => ?_)
  · skip
    have c_13 := n_geT c_13 (by omega) (by omega)
    have hi9 : i = 100 := by omega
    subst hi9
    refine lv_lload hx hb dX9_commonDivisor_44 (lv_at hl 2 rfl) ?_
    exact endL hx hb hr hlocks (()) (by rw [← hg, show b = 0 from hE, Nat.gcd_zero_right]) (hP.sub [] rfl) (hD.sub [] (by decide) rfl) hS dX9_commonDivisor_46
  · skip
    have c_13 := n_geF c_13 (by omega) (by omega)
    refine lv_lload hx hb dX9_commonDivisor_16 (lv_at hl 1 rfl) ?_
    refine lv_lconst (v := lN 0) hx hb dX9_commonDivisor_18 (by decide) ?_
    refine W.lcmp hx hb dX9_commonDivisor_19 ?_
    refine lv_if_eq (tgt := 44) hx hb dX9_commonDivisor_20 (by decide) (fun c_20 => ?_) (fun c_20 => ?_)
    · skip
      have c_20 := lc_eqT c_20
      have c_20 := (pk_lEQ (b := 0) (by omega) (by omega)).mp c_20
      refine lv_lload hx hb dX9_commonDivisor_44 (lv_at hl 2 rfl) ?_
      exact endL hx hb hr hlocks (()) (by rw [← hg, c_20, Nat.gcd_zero_right]) (hP.sub [] rfl) (hD.sub [] (by decide) rfl) hS dX9_commonDivisor_46
    · skip
      have c_20 := lc_eqF c_20
      have c_20 : ¬ b = 0 := fun z => c_20 (by rw [z])
      refine lv_lload hx hb dX9_commonDivisor_23 (lv_at hl 2 rfl) ?_
      refine lv_lload hx hb dX9_commonDivisor_25 (lv_at hl 1 rfl) ?_
      refine lv_lrem hx hb dX9_commonDivisor_27 (lN_ne0 c_20 (by omega)) ?_
      refine top_l (y := lN (a % b)) (pk_lRem (by omega) (by omega) (by omega)) ?_
      refine lv_lstore (lv' := [(9, .long (lN (a % b))), (8, .int (nI i)), (6, .long (lN b)), (4, .long (lN a)), (0, .long (lN x)), (2, .long (lN y))]) hx hb dX9_commonDivisor_28 hl (by decide) rfl (fun ls hl => ?_)
      refine lv_lload hx hb dX9_commonDivisor_30 (lv_at hl 2 rfl) ?_
      refine lv_lstore (lv' := [(4, .long (lN b)), (9, .long (lN (a % b))), (8, .int (nI i)), (6, .long (lN b)), (0, .long (lN x)), (2, .long (lN y))]) hx hb dX9_commonDivisor_32 hl (by decide) rfl (fun ls hl => ?_)
      refine lv_lload hx hb dX9_commonDivisor_34 (lv_at hl 1 rfl) ?_
      refine lv_lstore (lv' := [(6, .long (lN (a % b))), (4, .long (lN b)), (9, .long (lN (a % b))), (8, .int (nI i)), (0, .long (lN x)), (2, .long (lN y))]) hx hb dX9_commonDivisor_36 hl (by decide) rfl (fun ls hl => ?_)
      refine lv_iinc (v := nI (i + 1)) (lv' := [(8, .int (nI (i + 1))), (6, .long (lN (a % b))), (4, .long (lN b)), (9, .long (lN (a % b))), (0, .long (lN x)), (2, .long (lN y))]) hx hb dX9_commonDivisor_38 hl (k := 3) rfl (nI_inc _ 1 1 (by decide)) (by decide) rfl (fun ls hl => ?_)
      refine lv_goto (tgt := 9) hx hb dX9_commonDivisor_41 (by decide) ?_
      exact ih_9 (i + 1, b, a % b) _ _ _ (by first | omega | (simp only []; omega) | (show _ < _; omega)) ⟨by first | assumption | omega | (simp; done), by first | assumption | omega | (simp; done), Nat.lt_of_le_of_lt (Nat.mod_le _ _) ha9, by rw [← hg]; exact gcd_step a b, En_step (by rw [show 100 - i = (100 - (i + 1)) + 1 by omega] at hE; exact hE) c_20, hP.sub [] rfl, hD.sub [] (by decide) rfl, hS, lv_sub hl [0, 1, 2, 4, 5] rfl⟩

set_option maxHeartbeats 4000000 in
set_option maxRecDepth 100000 in
theorem c_X9_inLeastTerms {l : Launch} {G : va_G} {cI cJ cZ cS : ClassId} (x : Nat) (y : Nat) (z : Int32) (hx9 : x < 9223372036854775808) (hy9 : y < 9223372036854775808) (hy0 : 0 < y) : CL l G (kT cI cJ cZ cS) (S := Unit) yX9_inLeastTerms wsX9_inLeastTerms { frames := 1, cells := 0, slots := 0, locals := 30 } [.long (lN x), .long (lN y), .int z] [] (fun res _ => res = lN (ltT x y z)) (fun _ => []) := by
  refine CL.of (cc := cX9_inLeastTerms) (maxL := 7) (by decide) rfl (Nat.le_of_ble_eq_true rfl) ?_
  intro p e s m below meth c A ls hB
  obtain ⟨hx, hb, hml, hr, hts, hown, hlocks, hmn, hK, hP, hD, hS, hA, hl⟩ := hB
  have hP : va_P G vwCl [] s.heap := hP
  have hD : va_D A [] := hD
  have hl : lv_has ls 7 [(0, .long (lN x)), (2, .long (lN y)), (4, .int z)] := hl
  refine lv_lload_n hx hb dX9_inLeastTerms_0 rfl (lv_at hl 0 rfl) ?_
  refine lv_lload_n hx hb dX9_inLeastTerms_1 rfl (lv_at hl 1 rfl) ?_
  refine aft_l (wr := []) (va_runS (As := [.long (lN x), .long (lN y)]) (rest := []) ⟨hx, hb, hml, hown, hts⟩ (c_X9_commonDivisor (x := x) (y := y) (hx9 := by first | assumption | omega | exact hok.1 _ (by omega) | exact hok.2.2 _ _ (by omega) (by omega) | exact hok.2.1) (hy9 := by first | assumption | omega | exact hok.1 _ (by omega) | exact hok.2.2 _ _ (by omega) (by omega) | exact hok.2.1) _) (va_cwS 2 hts gX9_inLeastTerms_X9_commonDivisor rfl rfl rfl (by decide +kernel) ⟨Nat.le_of_ble_eq_true rfl, Nat.le_of_ble_eq_true rfl⟩) (preS hK hP hD [] rfl rfl) rfl rfl hl.1 rfl (lv_room (Nat.le_of_ble_eq_true rfl)) dX9_inLeastTerms_2 ⟨Nat.le_of_ble_eq_true rfl, Nat.le_of_ble_eq_true rfl⟩) hP hD hS hA [] [] rfl rfl rfl (by decide) (fun r_2 uu9 H locs hw hP hD hS => ?_)
  have hP : va_P G vwCl [] _ := hP
  have hD : va_D A [] := hD
  obtain rfl := hw
  refine top_l (y := lN (Nat.gcd x y)) rfl ?_
  have hg0 : 0 < Nat.gcd x y := Nat.gcd_pos_of_pos_right _ hy0
  have hg9 : Nat.gcd x y < 9223372036854775808 := Nat.lt_of_le_of_lt (Nat.gcd_le_right _ hy0) hy9
  refine lv_lstore (lv' := [(5, .long (lN (Nat.gcd x y))), (0, .long (lN x)), (2, .long (lN y)), (4, .int z)]) hx hb dX9_inLeastTerms_5 hl (by decide) rfl (fun ls hl => ?_)
  refine lv_lload hx hb dX9_inLeastTerms_7 (lv_at hl 0 rfl) ?_
  refine lv_lconst (v := lN 0) hx hb dX9_inLeastTerms_9 (by decide) ?_
  refine W.lcmp hx hb dX9_inLeastTerms_10 ?_
  refine lv_if_gt (tgt := 25) hx hb dX9_inLeastTerms_11 (by decide) (fun c_11 => ?_) (fun c_11 => by have c_11 := lc_gtF c_11; exfalso; exact c_11 ((pk_lLT (a := 0) (by omega) (by omega)).mpr hg0))
  have c_11 := lc_gtT c_11
  refine lv_iload hx hb dX9_inLeastTerms_25 (lv_at hl 3 rfl) ?_
  refine lv_if_eq (tgt := 37) hx hb dX9_inLeastTerms_27 (by decide) (fun c_27 => ?_) (fun c_27 => ?_)
  · skip
    refine lv_lload_n hx hb dX9_inLeastTerms_37 rfl (lv_at hl 2 rfl) ?_
    refine lv_lload hx hb dX9_inLeastTerms_38 (lv_at hl 0 rfl) ?_
    refine lv_ldiv hx hb dX9_inLeastTerms_40 (lN_ne0 (by omega) (by omega)) ?_
    refine top_l (y := lN (y / (Nat.gcd x y))) (pk_lDiv (by omega) (by omega) (by omega)) ?_
    exact endL hx hb hr hlocks (()) (by rw [ltT, if_pos c_27]) (hP.sub [] rfl) (hD.sub [] (by decide) rfl) hS dX9_inLeastTerms_41
  · skip
    refine lv_lload_n hx hb dX9_inLeastTerms_30 rfl (lv_at hl 1 rfl) ?_
    refine lv_lload hx hb dX9_inLeastTerms_31 (lv_at hl 0 rfl) ?_
    refine lv_ldiv hx hb dX9_inLeastTerms_33 (lN_ne0 (by omega) (by omega)) ?_
    refine top_l (y := lN (x / (Nat.gcd x y))) (pk_lDiv (by omega) (by omega) (by omega)) ?_
    refine lv_goto (tgt := 41) hx hb dX9_inLeastTerms_34 (by decide) ?_
    exact endL hx hb hr hlocks (()) (by rw [ltT, if_neg c_27]) (hP.sub [] rfl) (hD.sub [] (by decide) rfl) hS dX9_inLeastTerms_41
