/-! the reference: army, page -/
def vOf (pg : Nat → Int32) : Nat → Nat → Int32 := fun f j => if f < 7 ∧ j < 7 then pg (7 * f + j) else 0
theorem vOf_up {pg : Nat → Int32} {f k i : Nat} {x : Int32} (hf : f < 7) (hk : k < 7) (hi : i = 7 * f + k) : vOf (upd pg i x) = up2 (vOf pg) f k x := by
  funext g j
  rw [up2_at]
  unfold vOf
  by_cases c : g < 7 ∧ j < 7
  · rw [if_pos c, if_pos c]
    show (if 7 * g + j = i then x else pg (7 * g + j)) = _
    by_cases e : g = f ∧ j = k
    · rw [if_pos (by omega), if_pos e]
    · rw [if_neg (by omega), if_neg e]
  · rw [if_neg c, if_neg (by omega), if_neg c]
theorem vOf_49 {pg : Nat → Int32} {x : Int32} : vOf (upd pg 49 x) = vOf pg := by
  funext g j
  unfold vOf
  by_cases c : g < 7 ∧ j < 7
  · rw [if_pos c, if_pos c]
    show (if 7 * g + j = 49 then x else pg (7 * g + j)) = _
    rw [if_neg (by omega)]
  · rw [if_neg c, if_neg c]
theorem vOf_at {pg : Nat → Int32} {f k i : Nat} (hf : f < 7) (hk : k < 7) (hi : i = 7 * f + k) : vOf pg f k = pg i := by
  rw [hi]; exact if_pos ⟨hf, hk⟩
section
variable {pg q1 : Nat → Int32} {k o kk : Nat} {x : Int32}
theorem vp0 (hk : k < 7) : vOf pg 0 k = pg k := vOf_at (by decide) hk (by omega)
theorem vp1 (hk : k < 7) : vOf pg 1 k = pg (7 + k) := vOf_at (by decide) hk (by omega)
theorem vp2 (hk : k < 7) : vOf pg 2 k = pg (14 + k) := vOf_at (by decide) hk (by omega)
theorem vp3 (hk : k < 7) : vOf pg 3 k = pg (21 + k) := vOf_at (by decide) hk (by omega)
theorem vp4 (hk : k < 7) : vOf pg 4 k = pg (28 + k) := vOf_at (by decide) hk (by omega)
theorem vp5 (hk : k < 7) : vOf pg 5 k = pg (35 + k) := vOf_at (by decide) hk (by omega)
theorem vp6 (hk : k < 7) : vOf pg 6 k = pg (42 + k) := vOf_at (by decide) hk (by omega)
theorem rki1 {kd : Nat → Nat} {v : Nat → Nat → Int32} {k : Nat} : rkI kd v k (nI 1) = v 0 k := by
  rw [rkI, if_neg (show ¬ nI 1 = nI 0 by decide), if_pos rfl]
theorem rki2 {kd : Nat → Nat} {v : Nat → Nat → Int32} {k : Nat} : rkI kd v k (nI 2) = v 1 k := by
  rw [rkI, if_neg (show ¬ nI 2 = nI 0 by decide), if_neg (show ¬ nI 2 = nI 1 by decide), if_pos rfl]
theorem rki3 {kd : Nat → Nat} {v : Nat → Nat → Int32} {k : Nat} : rkI kd v k (nI 3) = v 2 k := by
  rw [rkI, if_neg (show ¬ nI 3 = nI 0 by decide), if_neg (show ¬ nI 3 = nI 1 by decide), if_neg (show ¬ nI 3 = nI 2 by decide), if_pos rfl]
theorem rki4 {kd : Nat → Nat} {v : Nat → Nat → Int32} {k : Nat} : rkI kd v k (nI 4) = nI 1000 + v 3 k := by
  rw [rkI, if_neg (show ¬ nI 4 = nI 0 by decide), if_neg (show ¬ nI 4 = nI 1 by decide), if_neg (show ¬ nI 4 = nI 2 by decide), if_neg (show ¬ nI 4 = nI 3 by decide), if_pos rfl]
theorem rki5 {kd : Nat → Nat} {v : Nat → Nat → Int32} {k : Nat} : rkI kd v k (nI 5) = v 4 k := by
  rw [rkI, if_neg (show ¬ nI 5 = nI 0 by decide), if_neg (show ¬ nI 5 = nI 1 by decide), if_neg (show ¬ nI 5 = nI 2 by decide), if_neg (show ¬ nI 5 = nI 3 by decide), if_neg (show ¬ nI 5 = nI 4 by decide), if_pos rfl]
theorem rki6 {kd : Nat → Nat} {v : Nat → Nat → Int32} {k : Nat} : rkI kd v k (nI 6) = v 5 k := by
  rw [rkI, if_neg (show ¬ nI 6 = nI 0 by decide), if_neg (show ¬ nI 6 = nI 1 by decide), if_neg (show ¬ nI 6 = nI 2 by decide), if_neg (show ¬ nI 6 = nI 3 by decide), if_neg (show ¬ nI 6 = nI 4 by decide), if_neg (show ¬ nI 6 = nI 5 by decide), if_pos rfl]
theorem up_49 {i : Nat} (h : i < 49) : upd pg i x 49 = pg 49 := if_neg (by omega)
theorem hr_49 {y z : Int32} (hk : k < 7) : upd (upd (upd pg (7 + k) x) k y) (14 + k) z 49 = pg 49 := by
  rw [up_49 (by omega), up_49 (by omega), up_49 (by omega)]
theorem hr_7 (hk : k < 7) : upd (upd pg (7 + k) (pg k)) k (nI o) (7 + k) = pg k := by
  unfold upd
  rw [if_neg (by omega), if_pos rfl]
theorem hr_14 (hk : k < 7) : upd (upd pg (7 + k) (pg k)) k (nI o) (14 + k) = pg (14 + k) := by
  unfold upd
  rw [if_neg (by omega), if_neg (by omega)]
theorem hr_n (hk : k < 7) (h : ¬ (kk = 1 ∧ ¬ vOf pg 0 k = nI o)) : vOf (upd (upd (upd pg (7 + k) (pg k)) k (nI o)) (14 + k) (nI o)) = takeV kk (vOf pg) k o := by
  rw [vOf_up (f := 2) (k := k) (by decide) hk (by omega), vOf_up (f := 0) (k := k) (by decide) hk (by omega), vOf_up (f := 1) (k := k) (by decide) hk (by omega), ← vp0 (pg := pg) hk]
  exact takeV_n h
theorem hr_y (hk : k < 7) (h1 : kk = 1) (h2 : ¬ vOf pg 0 k = nI o) : vOf (upd (upd (upd pg (7 + k) (pg k)) k (nI o)) (14 + k) (pg (14 + k))) = takeV kk (vOf pg) k o := by
  rw [vOf_up (f := 2) (k := k) (by decide) hk (by omega), vOf_up (f := 0) (k := k) (by decide) hk (by omega), vOf_up (f := 1) (k := k) (by decide) hk (by omega), ← vp0 (pg := pg) hk, ← vp2 (pg := pg) hk, up2_same (f := 2) (k := k) (x := vOf pg 2 k) (by simp [up2_at])]
  exact takeV_y h1 h2
theorem tl_s (hk : k < 7) (h : pg (42 + k) = nI 1) : ¬ vOf pg 6 k = 0 := by
  rw [vp6 hk, h]; decide
theorem tl_w (hk : k < 7) (hz : vOf pg 6 k = nI 0 ∨ vOf pg 6 k = nI 1) (h : ¬ pg (42 + k) = nI 1) : vOf pg 6 k = 0 := by
  rcases hz with z | z
  · exact z
  · exact absurd (by rw [← vp6 (pg := pg) hk]; exact z) h
theorem turn_lt (h : o < 5) : turnN kk o < 5 := by
  unfold turnN
  split
  · split
    · omega
    · split <;> omega
  · exact h
theorem sy_y {v : Nat → Nat → Int32} (h : vOf q1 = tellV kk v 0 o) : vOf (upd q1 35 (tellR kk v 0 o)) = giveV kk v o := by
  rw [vOf_up (f := 5) (k := 0) (by decide) (by decide) (by omega), h]; rfl
theorem sy_n (h : vOf q1 = tellV kk (vOf pg) 0 o) (hso : ¬ vOf pg 6 0 = 0 → vOf pg 5 0 = -9) (h9 : tellR kk (vOf pg) 0 o = -9) (ho : turnN kk o < 5) : vOf (upd q1 35 (q1 35)) = giveV kk (vOf pg) o := by
  rw [vOf_up (f := 5) (k := 0) (by decide) (by decide) (by omega)]
  have e : q1 35 = tellR kk (vOf pg) 0 o := by
    rw [h9, ← vp5 (pg := q1) (k := 0) (by decide), h]
    by_cases c : vOf pg 6 0 = 0
    · rw [tellR, if_pos c] at h9
      exact absurd h9 (nI_ne9 (by omega))
    · rw [tellV, if_neg c, up2_at, if_neg (by decide)]
      exact hso c
  rw [e, h]; rfl
theorem slp_m {i : Nat} (hz : vOf pg 6 i = nI 0 ∨ vOf pg 6 i = nI 1) (hi : i < 7) : slpI (vOf pg) i ||| pg (42 + i) <<< (nI i &&& 31) = slpI (vOf pg) (i + 1) := by
  rw [← vp6 (pg := pg) hi]
  rcases hz with z | z
  · rw [slpI_y z, z]
    congr 1
    rcases (show i = 0 ∨ i = 1 ∨ i = 2 ∨ i = 3 ∨ i = 4 ∨ i = 5 ∨ i = 6 by omega) with rfl | rfl | rfl | rfl | rfl | rfl | rfl <;> rfl
  · rw [slpI_n (by rw [z]; decide), z]
end
def kdA (rr : Nat) (rd : Nat → Nat) (k : Nat) : Nat := if k < rr then rd k else 0
def slA (rr : Nat) (rd : Nat → Nat) (k : Nat) : Nat := if k < rr ∧ rd k = 3 then 1 else 0
def PgI (pg : Nat → Int32) (rr : Nat) (rd : Nat → Nat) (n : Nat) : Prop := ∀ j, j < n → pg j = -9 ∧ pg (7 + j) = -9 ∧ pg (14 + j) = nI 0 ∧ pg (21 + j) = nI 0 ∧ pg (28 + j) = nI 0 ∧ pg (35 + j) = -9 ∧ pg (42 + j) = nI (slA rr rd j)
theorem PgI_s {pg : Nat → Int32} {rr k : Nat} {rd : Nat → Nat} (h : PgI pg rr rd k) (hk : k < 7) : PgI (upd (upd (upd (upd (upd (upd (upd pg k (-9)) (7 + k) (-9)) (14 + k) (nI 0)) (21 + k) (nI 0)) (28 + k) (nI 0)) (35 + k) (-9)) (42 + k) (nI (slA rr rd k))) rr rd (k + 1) := by
  intro j hj
  unfold upd
  by_cases e : j = k
  · subst e
    refine ⟨?_, ?_, ?_, ?_, ?_, ?_, ?_⟩
    · rw [if_neg (by omega), if_neg (by omega), if_neg (by omega), if_neg (by omega), if_neg (by omega), if_neg (by omega), if_pos rfl]
    · rw [if_neg (by omega), if_neg (by omega), if_neg (by omega), if_neg (by omega), if_neg (by omega), if_pos rfl]
    · rw [if_neg (by omega), if_neg (by omega), if_neg (by omega), if_neg (by omega), if_pos rfl]
    · rw [if_neg (by omega), if_neg (by omega), if_neg (by omega), if_pos rfl]
    · rw [if_neg (by omega), if_neg (by omega), if_pos rfl]
    · rw [if_neg (by omega), if_pos rfl]
    · rw [if_pos rfl]
  · obtain ⟨a0, a1, a2, a3, a4, a5, a6⟩ := h j (by omega)
    refine ⟨?_, ?_, ?_, ?_, ?_, ?_, ?_⟩ <;> rw [if_neg (by omega), if_neg (by omega), if_neg (by omega), if_neg (by omega), if_neg (by omega), if_neg (by omega), if_neg (by omega)] <;> assumption
/-- the army that the reference has taken -/
def ArmM (s9 : RS) (rk sl : Nat) (kd tn : Nat → Nat) (pg : Nat → Int32) : Prop := s9.2.2.2.2.1 = rk ∧ s9.2.2.2.2.2.1 = sl ∧ (∀ k, k < 7 → kd k = if k < rk then s9.2.2.2.2.2.2.1 k else 0) ∧ (∀ i, i < 175 → tn i = s9.2.2.2.2.2.2.2 i) ∧ (∀ f k, f < 7 → k < 7 → vOf pg f k = setV kd rk f k) ∧ pg 49 = nI 0
theorem zz_0 {zz : Nat → Nat} : ∀ i, i < 2 → va_up (va_up zz 0 0) 1 0 i = 0 := by
  intro i hi
  by_cases e : i = 1
  · rw [e, va_up_self]
  · rw [va_up_ne _ _ e, show i = 0 by omega, va_up_self]
theorem ArmM_ok {s9 : RS} {rr rs : Nat} {rd rt kk t : Nat → Nat} {pq : Nat → Int32} (h1 : s9.2.2.2.2.1 = rr) (h2 : s9.2.2.2.2.2.1 = rs) (h3 : ∀ k, k < rr → rd k = s9.2.2.2.2.2.2.1 k) (h4 : ∀ i, i < 175 → rt i = s9.2.2.2.2.2.2.2 i) (h5 : rr ≤ 7) (ht : ∀ j, j < 175 → t j = rt j) (hk : ∀ j, j < 7 → kk j = kdA rr rd j) (hp : PgI pq rr rd 7) : ArmM s9 rr rs kk t (upd pq 49 (nI 0)) := by
  refine ⟨h1, h2, fun k hk7 => ?_, fun i hi => (ht i hi).trans (h4 i hi), fun f k hf hk7 => ?_, if_pos rfl⟩
  · rw [hk k hk7, kdA]
    by_cases e : k < rr
    · rw [if_pos e, if_pos e, h3 k e]
    · rw [if_neg e, if_neg e]
  · rw [vOf_49]
    obtain ⟨a0, a1, a2, a3, a4, a5, a6⟩ := hp k hk7
    rcases (show f = 0 ∨ f = 1 ∨ f = 2 ∨ f = 3 ∨ f = 4 ∨ f = 5 ∨ f = 6 by omega) with rfl | rfl | rfl | rfl | rfl | rfl | rfl
    · rw [vp0 hk7, a0]; rfl
    · rw [vp1 hk7, a1]; rfl
    · rw [vp2 hk7, a2]; rfl
    · rw [vp3 hk7, a3]; rfl
    · rw [vp4 hk7, a4]; rfl
    · rw [vp5 hk7, a5]; rfl
    · rw [vp6 hk7, a6]
      show nI (slA rr rd k) = if k < rr ∧ kk k = 3 then nI 1 else nI 0
      unfold slA
      rw [hk k hk7]
      unfold kdA
      by_cases e : k < rr
      · rw [if_pos e]
        by_cases q : rd k = 3
        · rw [if_pos ⟨e, q⟩, if_pos ⟨e, q⟩]
        · rw [if_neg (fun z => q z.2), if_neg (fun z => q z.2)]
      · rw [if_neg (fun z => e z.1), if_neg (fun z => e z.1)]
set_option maxHeartbeats 4000000 in
set_option maxRecDepth 100000 in
theorem c_X10_army {l : Launch} {G : va_G} {cI cJ cZ cS : ClassId} (g : Nat → Nat) (ts : Nat) (pl : Nat) (rk : Nat) (sl : Nat) (rr : Nat) (rs : Nat) (ac : Nat) (tc : Nat) (sd : Int64) (td9 : Int64) (tx : Nat → Nat) (rd : Nat → Nat) (rt : Nat → Nat) (kd : Nat → Nat) (tn : Nat → Nat) (pg : Nat → Int32) (zz : Nat → Nat) (hts : ts ≤ 64) (htx : ∀ j, j < ts → tx j < 256) : CI l G (kT cI cJ cZ cS) (S := Nat × Nat × Nat × (Nat → Nat) × (Nat → Nat) × Nat × Nat × (Nat → Nat) × (Nat → Nat) × (Nat → Int32) × Nat × (Nat → Nat)) yX10_army wsX10_army { frames := 5, cells := 0, slots := 0, locals := 115 } [.ref (g 0)] [(g 0, .inr (10, [.int (nI 0), .ref (g 1), .int (nI ts), .int (nI pl), .int (nI rk), .ref (g 5), .int (nI sl), .ref (g 7), .int (nI rr), .int (nI rs), .ref (g 10), .ref (g 11), .ref (g 12), .long sd, .ref (g 14), .ref (g 15), .int (nI ac), .ref (g 17), .ref (g 18), .ref (g 19), .int (nI tc), .ref (g 21), .ref (g 22), .ref (g 23), .ref (g 24), .long td9, .ref (g 26), .ref (g 27), .ref (g 28), .ref (g 29), .ref (g 30)])), (g 1, .inl (cI, 64, .inl (fun i9 => nI (tx i9)))), (g 10, .inl (cI, 7, .inl (fun i9 => nI (rd i9)))), (g 11, .inl (cI, 175, .inl (fun i9 => nI (rt i9)))), (g 5, .inl (cI, 7, .inl (fun i9 => nI (kd i9)))), (g 7, .inl (cI, 175, .inl (fun i9 => nI (tn i9)))), (g 12, .inl (cI, 50, .inl pg)), (g 19, .inl (cZ, 2, .inl (fun i9 => nI (zz i9))))] (fun res uu9 => match uu9 with | (p1, rr1, rs1, rd1, rt1, rk1, sl1, kd1, tn1, q1, ac1, z1) => (∃ f9, FaultIs tx ts f9 ∧ ((¬ f9 = -9 ∧ res = -3 ∧ rk1 = rk ∧ sl1 = sl ∧ kd1 = kd ∧ tn1 = tn ∧ q1 = pg ∧ ac1 = ac ∧ z1 = zz) ∨ (f9 = -9 ∧ res = nI rk1 ∧ ac1 = 0 ∧ (∀ i, i < 2 → z1 i = 0) ∧ ∃ s9, runN tx ts = some s9 ∧ ArmM s9 rk1 sl1 kd1 tn1 q1)))) (fun uu9 => match uu9 with | (p1, rr1, rs1, rd1, rt1, rk1, sl1, kd1, tn1, q1, ac1, z1) => [(g 0, .inr (10, [.int (nI 0), .ref (g 1), .int (nI ts), .int (nI p1), .int (nI rk1), .ref (g 5), .int (nI sl1), .ref (g 7), .int (nI rr1), .int (nI rs1), .ref (g 10), .ref (g 11), .ref (g 12), .long sd, .ref (g 14), .ref (g 15), .int (nI ac1), .ref (g 17), .ref (g 18), .ref (g 19), .int (nI tc), .ref (g 21), .ref (g 22), .ref (g 23), .ref (g 24), .long td9, .ref (g 26), .ref (g 27), .ref (g 28), .ref (g 29), .ref (g 30)])), (g 1, .inl (cI, 64, .inl (fun i9 => nI (tx i9)))), (g 10, .inl (cI, 7, .inl (fun i9 => nI (rd1 i9)))), (g 11, .inl (cI, 175, .inl (fun i9 => nI (rt1 i9)))), (g 5, .inl (cI, 7, .inl (fun i9 => nI (kd1 i9)))), (g 7, .inl (cI, 175, .inl (fun i9 => nI (tn1 i9)))), (g 12, .inl (cI, 50, .inl q1)), (g 19, .inl (cZ, 2, .inl (fun i9 => nI (z1 i9))))]) := by
  refine CI.of (cc := cX10_army) (maxL := 2) (by decide) rfl (Nat.le_of_ble_eq_true rfl) ?_
  intro p9 e9 s m below meth co9 A ls hB
  obtain ⟨hx, hb, hml, hr, hts, hown, hlocks, hmn, hK, hP, hD, hS, hA, hl⟩ := hB
  have hP : va_P G vwCl [(g 0, .inr (10, [.int (nI 0), .ref (g 1), .int (nI ts), .int (nI pl), .int (nI rk), .ref (g 5), .int (nI sl), .ref (g 7), .int (nI rr), .int (nI rs), .ref (g 10), .ref (g 11), .ref (g 12), .long sd, .ref (g 14), .ref (g 15), .int (nI ac), .ref (g 17), .ref (g 18), .ref (g 19), .int (nI tc), .ref (g 21), .ref (g 22), .ref (g 23), .ref (g 24), .long td9, .ref (g 26), .ref (g 27), .ref (g 28), .ref (g 29), .ref (g 30)])), (g 1, .inl (cI, 64, .inl (fun i9 => nI (tx i9)))), (g 10, .inl (cI, 7, .inl (fun i9 => nI (rd i9)))), (g 11, .inl (cI, 175, .inl (fun i9 => nI (rt i9)))), (g 5, .inl (cI, 7, .inl (fun i9 => nI (kd i9)))), (g 7, .inl (cI, 175, .inl (fun i9 => nI (tn i9)))), (g 12, .inl (cI, 50, .inl pg)), (g 19, .inl (cZ, 2, .inl (fun i9 => nI (zz i9))))] s.heap := hP
  have hD : va_D A [(g 0, .inr (10, [.int (nI 0), .ref (g 1), .int (nI ts), .int (nI pl), .int (nI rk), .ref (g 5), .int (nI sl), .ref (g 7), .int (nI rr), .int (nI rs), .ref (g 10), .ref (g 11), .ref (g 12), .long sd, .ref (g 14), .ref (g 15), .int (nI ac), .ref (g 17), .ref (g 18), .ref (g 19), .int (nI tc), .ref (g 21), .ref (g 22), .ref (g 23), .ref (g 24), .long td9, .ref (g 26), .ref (g 27), .ref (g 28), .ref (g 29), .ref (g 30)])), (g 1, .inl (cI, 64, .inl (fun i9 => nI (tx i9)))), (g 10, .inl (cI, 7, .inl (fun i9 => nI (rd i9)))), (g 11, .inl (cI, 175, .inl (fun i9 => nI (rt i9)))), (g 5, .inl (cI, 7, .inl (fun i9 => nI (kd i9)))), (g 7, .inl (cI, 175, .inl (fun i9 => nI (tn i9)))), (g 12, .inl (cI, 50, .inl pg)), (g 19, .inl (cZ, 2, .inl (fun i9 => nI (zz i9))))] := hD
  have hl : lv_has ls 2 [(0, .ref (g 0))] := hl
  have k_0 := hts (.fieldLink RX10 72 "HearsayMarchModel" "thrown" "I") (by decide +kernel)
  have k_1 := hts (.fieldLink RX10 93 "HearsayMarchModel" "readRanks" "I") (by decide +kernel)
  have k_2 := hts (.fieldLink RX10 76 "HearsayMarchModel" "ranks" "I") (by decide +kernel)
  have k_3 := hts (.fieldLink RX10 110 "HearsayMarchModel" "readSlips" "I") (by decide +kernel)
  have k_4 := hts (.fieldLink RX10 130 "HearsayMarchModel" "slips" "I") (by decide +kernel)
  have k_5 := hts (.fieldLink RX10 25 "HearsayMarchModel" "page" "[I") (by decide +kernel)
  have k_6 := hts (.fieldLink RX10 133 "HearsayMarchModel" "acts" "I") (by decide +kernel)
  have k_7 := hts (.fieldLink RX10 41 "HearsayMarchModel" "isKept" "[Z") (by decide +kernel)
  have k_8 := hts (.fieldLink RX10 13 "HearsayMarchModel" "kind" "[I") (by decide +kernel)
  have k_9 := hts (.fieldLink RX10 19 "HearsayMarchModel" "readKind" "[I") (by decide +kernel)
  have k_10 := hts (.fieldLink RX10 16 "HearsayMarchModel" "tenths" "[I") (by decide +kernel)
  have k_11 := hts (.fieldLink RX10 22 "HearsayMarchModel" "readTenths" "[I") (by decide +kernel)
  have hin10 : ∀ w ∈ wsX100, w ∈ wsX10_army := by decide +kernel
  refine lv_aload_n hx hb dX10_army_0 rfl (lv_at hl 0 rfl) ?_
  refine lv_iconst (v := nI 0) hx hb dX10_army_1 (by decide) ?_
  refine va_put (D := G) (ci := 10) (v := .int (nI 0)) (ty := tyX10 0) (C := RX10) (T := TX10) (N := 31) hx hb hts hin10 tyX10 tyX10_ok nmX10 hown hK.1 hP hD hS 0 rfl rfl 0 (by decide) k_0 (fun _ h9 => h9) rfl (by decide +kernel) rfl rfl (Nat.le_of_ble_eq_true rfl) dX10_army_2 (fun H locs hP hD hS => ?_)
  have hP : va_P G vwCl [(g 0, .inr (10, [.int (nI 0), .ref (g 1), .int (nI ts), .int (nI pl), .int (nI rk), .ref (g 5), .int (nI sl), .ref (g 7), .int (nI rr), .int (nI rs), .ref (g 10), .ref (g 11), .ref (g 12), .long sd, .ref (g 14), .ref (g 15), .int (nI ac), .ref (g 17), .ref (g 18), .ref (g 19), .int (nI tc), .ref (g 21), .ref (g 22), .ref (g 23), .ref (g 24), .long td9, .ref (g 26), .ref (g 27), .ref (g 28), .ref (g 29), .ref (g 30)])), (g 1, .inl (cI, 64, .inl (fun i9 => nI (tx i9)))), (g 10, .inl (cI, 7, .inl (fun i9 => nI (rd i9)))), (g 11, .inl (cI, 175, .inl (fun i9 => nI (rt i9)))), (g 5, .inl (cI, 7, .inl (fun i9 => nI (kd i9)))), (g 7, .inl (cI, 175, .inl (fun i9 => nI (tn i9)))), (g 12, .inl (cI, 50, .inl pg)), (g 19, .inl (cZ, 2, .inl (fun i9 => nI (zz i9))))] _ := hP
  have hD : va_D A [(g 0, .inr (10, [.int (nI 0), .ref (g 1), .int (nI ts), .int (nI pl), .int (nI rk), .ref (g 5), .int (nI sl), .ref (g 7), .int (nI rr), .int (nI rs), .ref (g 10), .ref (g 11), .ref (g 12), .long sd, .ref (g 14), .ref (g 15), .int (nI ac), .ref (g 17), .ref (g 18), .ref (g 19), .int (nI tc), .ref (g 21), .ref (g 22), .ref (g 23), .ref (g 24), .long td9, .ref (g 26), .ref (g 27), .ref (g 28), .ref (g 29), .ref (g 30)])), (g 1, .inl (cI, 64, .inl (fun i9 => nI (tx i9)))), (g 10, .inl (cI, 7, .inl (fun i9 => nI (rd i9)))), (g 11, .inl (cI, 175, .inl (fun i9 => nI (rt i9)))), (g 5, .inl (cI, 7, .inl (fun i9 => nI (kd i9)))), (g 7, .inl (cI, 175, .inl (fun i9 => nI (tn i9)))), (g 12, .inl (cI, 50, .inl pg)), (g 19, .inl (cZ, 2, .inl (fun i9 => nI (zz i9))))] := hD
  refine lv_aload_n hx hb dX10_army_5 rfl (lv_at hl 0 rfl) ?_
  refine aft_i (wr := [(g 5, .inl (cI, 7, .inl (fun i9 => nI (kd i9)))), (g 7, .inl (cI, 175, .inl (fun i9 => nI (tn i9)))), (g 12, .inl (cI, 50, .inl pg)), (g 19, .inl (cZ, 2, .inl (fun i9 => nI (zz i9))))]) (va_runV (As := []) (rest := []) ⟨hx, hb, hml, hown, hts⟩ (c_X10_readArmy (g := g) (ts := ts) (pl := pl) (rk := rk) (sl := sl) (rr := rr) (rs := rs) (ac := ac) (tc := tc) (sd := sd) (td9 := td9) (tx := tx) (rd := rd) (rt := rt) (hts := by first | assumption | omega | exact hok.1 _ (by omega) | exact hok.2.2 _ _ (by omega) (by omega) | exact hok.2.1) (htx := by first | assumption | omega | exact hok.1 _ (by omega) | exact hok.2.2 _ _ (by omega) (by omega) | exact hok.2.1) _) (cwV 0 hts gX10_army_X10_readArmy rfl rfl rfl (by decide +kernel) ⟨Nat.le_of_ble_eq_true rfl, Nat.le_of_ble_eq_true rfl⟩) (preV (cq := (RX10, TX10, 31)) (q0 := 0) (ci := 10) hK hP hD [0, 1, 2, 3] rfl rfl rfl rfl) rfl rfl hl.1 rfl (lv_room (Nat.le_of_ble_eq_true rfl)) dX10_army_6 ⟨Nat.le_of_ble_eq_true rfl, Nat.le_of_ble_eq_true rfl⟩) hP hD hS hA [0, 1, 2, 3] [4, 5, 6, 7] rfl rfl rfl (by decide) (fun r_6 uu9 H locs hw hP hD hS => ?_)
  obtain ⟨p1_6, rr1_6, rs1_6, rd1_6, rt1_6⟩ := uu9
  have hP : va_P G vwCl [(g 5, .inl (cI, 7, .inl (fun i9 => nI (kd i9)))), (g 7, .inl (cI, 175, .inl (fun i9 => nI (tn i9)))), (g 12, .inl (cI, 50, .inl pg)), (g 19, .inl (cZ, 2, .inl (fun i9 => nI (zz i9)))), (g 0, .inr (10, [.int (nI 0), .ref (g 1), .int (nI ts), .int (nI p1_6), .int (nI rk), .ref (g 5), .int (nI sl), .ref (g 7), .int (nI rr1_6), .int (nI rs1_6), .ref (g 10), .ref (g 11), .ref (g 12), .long sd, .ref (g 14), .ref (g 15), .int (nI ac), .ref (g 17), .ref (g 18), .ref (g 19), .int (nI tc), .ref (g 21), .ref (g 22), .ref (g 23), .ref (g 24), .long td9, .ref (g 26), .ref (g 27), .ref (g 28), .ref (g 29), .ref (g 30)])), (g 1, .inl (cI, 64, .inl (fun i9 => nI (tx i9)))), (g 10, .inl (cI, 7, .inl (fun i9 => nI (rd1_6 i9)))), (g 11, .inl (cI, 175, .inl (fun i9 => nI (rt1_6 i9))))] _ := hP
  have hD : va_D A [(g 5, .inl (cI, 7, .inl (fun i9 => nI (kd i9)))), (g 7, .inl (cI, 175, .inl (fun i9 => nI (tn i9)))), (g 12, .inl (cI, 50, .inl pg)), (g 19, .inl (cZ, 2, .inl (fun i9 => nI (zz i9)))), (g 0, .inr (10, [.int (nI 0), .ref (g 1), .int (nI ts), .int (nI p1_6), .int (nI rk), .ref (g 5), .int (nI sl), .ref (g 7), .int (nI rr1_6), .int (nI rs1_6), .ref (g 10), .ref (g 11), .ref (g 12), .long sd, .ref (g 14), .ref (g 15), .int (nI ac), .ref (g 17), .ref (g 18), .ref (g 19), .int (nI tc), .ref (g 21), .ref (g 22), .ref (g 23), .ref (g 24), .long td9, .ref (g 26), .ref (g 27), .ref (g 28), .ref (g 29), .ref (g 30)])), (g 1, .inl (cI, 64, .inl (fun i9 => nI (tx i9)))), (g 10, .inl (cI, 7, .inl (fun i9 => nI (rd1_6 i9)))), (g 11, .inl (cI, 175, .inl (fun i9 => nI (rt1_6 i9))))] := hD
  have hw_6 := hw
  have hw_6 : FaultIs tx ts r_6 ∧ (r_6 = -9 → ∃ s9, runN tx ts = some s9 ∧ RMo s9 rd1_6 rt1_6 rr1_6 rs1_6) := hw_6
  obtain ⟨hf6, hr6⟩ := hw_6
  refine lv_bipush (v := (-9)) hx hb dX10_army_9 (by decide) ?_
  refine lv_icmp_eq (tgt := 17) hx hb dX10_army_11 (by decide) (fun c_11 => ?_) (fun c_11 => ?_)
  · skip
    subst c_11
    obtain ⟨s9, hrun9, hm1, hm2, hm3, hm4⟩ := hr6 rfl
    have hri := run_inv hrun9
    have hrr7 : rr1_6 ≤ 7 := by have := hri.2.1; omega
    have hrs9 : rs1_6 ≤ 9 := by have := hri.2.2.2.2.2.2.2.2.1; omega
    refine lv_aload_n hx hb dX10_army_17 rfl (lv_at hl 0 rfl) ?_
    refine lv_aload_n hx hb dX10_army_18 rfl (lv_at hl 0 rfl) ?_
    refine va_get (D := G) (ci := 10) (v := .int (nI rr1_6)) (C := RX10) (T := TX10) (N := 31) hx hb hts hin10 hown hK.1 hP 4 rfl rfl 8 (by decide) k_1 (fun _ h9 => h9) rfl dX10_army_19 ?_
    refine va_put (D := G) (ci := 10) (v := .int (nI rr1_6)) (ty := tyX10 4) (C := RX10) (T := TX10) (N := 31) hx hb hts hin10 tyX10 tyX10_ok nmX10 hown hK.1 hP hD hS 4 rfl rfl 4 (by decide) k_2 (fun _ h9 => h9) rfl (by decide +kernel) rfl rfl (Nat.le_of_ble_eq_true rfl) dX10_army_22 (fun H locs hP hD hS => ?_)
    have hP : va_P G vwCl [(g 5, .inl (cI, 7, .inl (fun i9 => nI (kd i9)))), (g 7, .inl (cI, 175, .inl (fun i9 => nI (tn i9)))), (g 12, .inl (cI, 50, .inl pg)), (g 19, .inl (cZ, 2, .inl (fun i9 => nI (zz i9)))), (g 0, .inr (10, [.int (nI 0), .ref (g 1), .int (nI ts), .int (nI p1_6), .int (nI rr1_6), .ref (g 5), .int (nI sl), .ref (g 7), .int (nI rr1_6), .int (nI rs1_6), .ref (g 10), .ref (g 11), .ref (g 12), .long sd, .ref (g 14), .ref (g 15), .int (nI ac), .ref (g 17), .ref (g 18), .ref (g 19), .int (nI tc), .ref (g 21), .ref (g 22), .ref (g 23), .ref (g 24), .long td9, .ref (g 26), .ref (g 27), .ref (g 28), .ref (g 29), .ref (g 30)])), (g 1, .inl (cI, 64, .inl (fun i9 => nI (tx i9)))), (g 10, .inl (cI, 7, .inl (fun i9 => nI (rd1_6 i9)))), (g 11, .inl (cI, 175, .inl (fun i9 => nI (rt1_6 i9))))] _ := hP
    have hD : va_D A [(g 5, .inl (cI, 7, .inl (fun i9 => nI (kd i9)))), (g 7, .inl (cI, 175, .inl (fun i9 => nI (tn i9)))), (g 12, .inl (cI, 50, .inl pg)), (g 19, .inl (cZ, 2, .inl (fun i9 => nI (zz i9)))), (g 0, .inr (10, [.int (nI 0), .ref (g 1), .int (nI ts), .int (nI p1_6), .int (nI rr1_6), .ref (g 5), .int (nI sl), .ref (g 7), .int (nI rr1_6), .int (nI rs1_6), .ref (g 10), .ref (g 11), .ref (g 12), .long sd, .ref (g 14), .ref (g 15), .int (nI ac), .ref (g 17), .ref (g 18), .ref (g 19), .int (nI tc), .ref (g 21), .ref (g 22), .ref (g 23), .ref (g 24), .long td9, .ref (g 26), .ref (g 27), .ref (g 28), .ref (g 29), .ref (g 30)])), (g 1, .inl (cI, 64, .inl (fun i9 => nI (tx i9)))), (g 10, .inl (cI, 7, .inl (fun i9 => nI (rd1_6 i9)))), (g 11, .inl (cI, 175, .inl (fun i9 => nI (rt1_6 i9))))] := hD
    refine lv_aload_n hx hb dX10_army_25 rfl (lv_at hl 0 rfl) ?_
    refine lv_aload_n hx hb dX10_army_26 rfl (lv_at hl 0 rfl) ?_
    refine va_get (D := G) (ci := 10) (v := .int (nI rs1_6)) (C := RX10) (T := TX10) (N := 31) hx hb hts hin10 hown hK.1 hP 4 rfl rfl 9 (by decide) k_3 (fun _ h9 => h9) rfl dX10_army_27 ?_
    refine va_put (D := G) (ci := 10) (v := .int (nI rs1_6)) (ty := tyX10 6) (C := RX10) (T := TX10) (N := 31) hx hb hts hin10 tyX10 tyX10_ok nmX10 hown hK.1 hP hD hS 4 rfl rfl 6 (by decide) k_4 (fun _ h9 => h9) rfl (by decide +kernel) rfl rfl (Nat.le_of_ble_eq_true rfl) dX10_army_30 (fun H locs hP hD hS => ?_)
    have hP : va_P G vwCl [(g 5, .inl (cI, 7, .inl (fun i9 => nI (kd i9)))), (g 7, .inl (cI, 175, .inl (fun i9 => nI (tn i9)))), (g 12, .inl (cI, 50, .inl pg)), (g 19, .inl (cZ, 2, .inl (fun i9 => nI (zz i9)))), (g 0, .inr (10, [.int (nI 0), .ref (g 1), .int (nI ts), .int (nI p1_6), .int (nI rr1_6), .ref (g 5), .int (nI rs1_6), .ref (g 7), .int (nI rr1_6), .int (nI rs1_6), .ref (g 10), .ref (g 11), .ref (g 12), .long sd, .ref (g 14), .ref (g 15), .int (nI ac), .ref (g 17), .ref (g 18), .ref (g 19), .int (nI tc), .ref (g 21), .ref (g 22), .ref (g 23), .ref (g 24), .long td9, .ref (g 26), .ref (g 27), .ref (g 28), .ref (g 29), .ref (g 30)])), (g 1, .inl (cI, 64, .inl (fun i9 => nI (tx i9)))), (g 10, .inl (cI, 7, .inl (fun i9 => nI (rd1_6 i9)))), (g 11, .inl (cI, 175, .inl (fun i9 => nI (rt1_6 i9))))] _ := hP
    have hD : va_D A [(g 5, .inl (cI, 7, .inl (fun i9 => nI (kd i9)))), (g 7, .inl (cI, 175, .inl (fun i9 => nI (tn i9)))), (g 12, .inl (cI, 50, .inl pg)), (g 19, .inl (cZ, 2, .inl (fun i9 => nI (zz i9)))), (g 0, .inr (10, [.int (nI 0), .ref (g 1), .int (nI ts), .int (nI p1_6), .int (nI rr1_6), .ref (g 5), .int (nI rs1_6), .ref (g 7), .int (nI rr1_6), .int (nI rs1_6), .ref (g 10), .ref (g 11), .ref (g 12), .long sd, .ref (g 14), .ref (g 15), .int (nI ac), .ref (g 17), .ref (g 18), .ref (g 19), .int (nI tc), .ref (g 21), .ref (g 22), .ref (g 23), .ref (g 24), .long td9, .ref (g 26), .ref (g 27), .ref (g 28), .ref (g 29), .ref (g 30)])), (g 1, .inl (cI, 64, .inl (fun i9 => nI (tx i9)))), (g 10, .inl (cI, 7, .inl (fun i9 => nI (rd1_6 i9)))), (g 11, .inl (cI, 175, .inl (fun i9 => nI (rt1_6 i9))))] := hD
    refine lv_iconst (v := nI 0) hx hb dX10_army_33 (by decide) ?_
    refine lv_istore_n (lv' := [(1, .int (nI 0)), (0, .ref (g 0))]) hx hb dX10_army_34 rfl hl (by decide) rfl (fun ls hl => ?_)
    refine loopW (σ := Nat × (Nat → Nat)) 35 (fun xx9 H locs ls => match xx9 with | (i, t) => (i ≤ 175) ∧ (∀ j, j < i → t j = rt1_6 j) ∧ va_P G vwCl [(g 5, .inl (cI, 7, .inl (fun i9 => nI (kd i9)))), (g 7, .inl (cI, 175, .inl (fun i9 => nI (t i9)))), (g 12, .inl (cI, 50, .inl pg)), (g 19, .inl (cZ, 2, .inl (fun i9 => nI (zz i9)))), (g 0, .inr (10, [.int (nI 0), .ref (g 1), .int (nI ts), .int (nI p1_6), .int (nI rr1_6), .ref (g 5), .int (nI rs1_6), .ref (g 7), .int (nI rr1_6), .int (nI rs1_6), .ref (g 10), .ref (g 11), .ref (g 12), .long sd, .ref (g 14), .ref (g 15), .int (nI ac), .ref (g 17), .ref (g 18), .ref (g 19), .int (nI tc), .ref (g 21), .ref (g 22), .ref (g 23), .ref (g 24), .long td9, .ref (g 26), .ref (g 27), .ref (g 28), .ref (g 29), .ref (g 30)])), (g 1, .inl (cI, 64, .inl (fun i9 => nI (tx i9)))), (g 10, .inl (cI, 7, .inl (fun i9 => nI (rd1_6 i9)))), (g 11, .inl (cI, 175, .inl (fun i9 => nI (rt1_6 i9))))] H ∧ va_D A [(g 5, .inl (cI, 7, .inl (fun i9 => nI (kd i9)))), (g 7, .inl (cI, 175, .inl (fun i9 => nI (t i9)))), (g 12, .inl (cI, 50, .inl pg)), (g 19, .inl (cZ, 2, .inl (fun i9 => nI (zz i9)))), (g 0, .inr (10, [.int (nI 0), .ref (g 1), .int (nI ts), .int (nI p1_6), .int (nI rr1_6), .ref (g 5), .int (nI rs1_6), .ref (g 7), .int (nI rr1_6), .int (nI rs1_6), .ref (g 10), .ref (g 11), .ref (g 12), .long sd, .ref (g 14), .ref (g 15), .int (nI ac), .ref (g 17), .ref (g 18), .ref (g 19), .int (nI tc), .ref (g 21), .ref (g 22), .ref (g 23), .ref (g 24), .long td9, .ref (g 26), .ref (g 27), .ref (g 28), .ref (g 29), .ref (g 30)])), (g 1, .inl (cI, 64, .inl (fun i9 => nI (tx i9)))), (g 10, .inl (cI, 7, .inl (fun i9 => nI (rd1_6 i9)))), (g 11, .inl (cI, 175, .inl (fun i9 => nI (rt1_6 i9))))] ∧ va_S A s.heap H locs ∧ lv_has ls 2 [(1, .int (nI i)), (0, .ref (g 0))]) (fun xx9 => match xx9 with | (i, t) => []) (fun xx9 => match xx9 with | (i, t) => 175 - i) ?_ (0, tn) ⟨by first | assumption | omega | (simp; done), fun j hj => absurd hj (Nat.not_lt_zero _), hP.sub [0, 1, 2, 3, 4, 5, 6, 7] rfl, hD.sub [0, 1, 2, 3, 4, 5, 6, 7] (by decide) rfl, hS, lv_sub hl [0, 1] rfl⟩
    intro xx9 H locs ls hI ih_35
    obtain ⟨i, t⟩ := xx9
    obtain ⟨hi, ht, hP, hD, hS, hl⟩ := hI
    have hi : i ≤ 175 := hi
    have ht : ∀ j, j < i → t j = rt1_6 j := ht
    have hP : va_P G vwCl [(g 5, .inl (cI, 7, .inl (fun i9 => nI (kd i9)))), (g 7, .inl (cI, 175, .inl (fun i9 => nI (t i9)))), (g 12, .inl (cI, 50, .inl pg)), (g 19, .inl (cZ, 2, .inl (fun i9 => nI (zz i9)))), (g 0, .inr (10, [.int (nI 0), .ref (g 1), .int (nI ts), .int (nI p1_6), .int (nI rr1_6), .ref (g 5), .int (nI rs1_6), .ref (g 7), .int (nI rr1_6), .int (nI rs1_6), .ref (g 10), .ref (g 11), .ref (g 12), .long sd, .ref (g 14), .ref (g 15), .int (nI ac), .ref (g 17), .ref (g 18), .ref (g 19), .int (nI tc), .ref (g 21), .ref (g 22), .ref (g 23), .ref (g 24), .long td9, .ref (g 26), .ref (g 27), .ref (g 28), .ref (g 29), .ref (g 30)])), (g 1, .inl (cI, 64, .inl (fun i9 => nI (tx i9)))), (g 10, .inl (cI, 7, .inl (fun i9 => nI (rd1_6 i9)))), (g 11, .inl (cI, 175, .inl (fun i9 => nI (rt1_6 i9))))] _ := hP
    have hD : va_D A [(g 5, .inl (cI, 7, .inl (fun i9 => nI (kd i9)))), (g 7, .inl (cI, 175, .inl (fun i9 => nI (t i9)))), (g 12, .inl (cI, 50, .inl pg)), (g 19, .inl (cZ, 2, .inl (fun i9 => nI (zz i9)))), (g 0, .inr (10, [.int (nI 0), .ref (g 1), .int (nI ts), .int (nI p1_6), .int (nI rr1_6), .ref (g 5), .int (nI rs1_6), .ref (g 7), .int (nI rr1_6), .int (nI rs1_6), .ref (g 10), .ref (g 11), .ref (g 12), .long sd, .ref (g 14), .ref (g 15), .int (nI ac), .ref (g 17), .ref (g 18), .ref (g 19), .int (nI tc), .ref (g 21), .ref (g 22), .ref (g 23), .ref (g 24), .long td9, .ref (g 26), .ref (g 27), .ref (g 28), .ref (g 29), .ref (g 30)])), (g 1, .inl (cI, 64, .inl (fun i9 => nI (tx i9)))), (g 10, .inl (cI, 7, .inl (fun i9 => nI (rd1_6 i9)))), (g 11, .inl (cI, 175, .inl (fun i9 => nI (rt1_6 i9))))] := hD
    have hl : lv_has ls 2 [(1, .int (nI i)), (0, .ref (g 0))] := hl
    refine lv_iload_n hx hb dX10_army_35 rfl (lv_at hl 0 rfl) ?_
    refine lv_sipush (v := nI 175) hx hb dX10_army_36 (by decide) ?_
    refine lv_icmp_ge (tgt := 60) hx hb dX10_army_39 (by decide) (fun c_39 => ?_) (fun c_39 => ?_)
    · skip
      have c_39 := n_geT c_39 (by omega) (by omega)
      refine lv_iconst (v := nI 0) hx hb dX10_army_60 (by decide) ?_
      refine lv_istore_n (lv' := [(1, .int (nI 0)), (0, .ref (g 0))]) hx hb dX10_army_61 rfl hl (by decide) rfl (fun ls hl => ?_)
      refine loopW (σ := Nat × (Nat → Nat) × (Nat → Int32)) 62 (fun xx9 H locs ls => match xx9 with | (k, kk, pq) => (k ≤ 7) ∧ (∀ j, j < k → kk j = kdA rr1_6 rd1_6 j) ∧ (PgI pq rr1_6 rd1_6 k) ∧ va_P G vwCl [(g 5, .inl (cI, 7, .inl (fun i9 => nI (kk i9)))), (g 7, .inl (cI, 175, .inl (fun i9 => nI (t i9)))), (g 12, .inl (cI, 50, .inl pq)), (g 19, .inl (cZ, 2, .inl (fun i9 => nI (zz i9)))), (g 0, .inr (10, [.int (nI 0), .ref (g 1), .int (nI ts), .int (nI p1_6), .int (nI rr1_6), .ref (g 5), .int (nI rs1_6), .ref (g 7), .int (nI rr1_6), .int (nI rs1_6), .ref (g 10), .ref (g 11), .ref (g 12), .long sd, .ref (g 14), .ref (g 15), .int (nI ac), .ref (g 17), .ref (g 18), .ref (g 19), .int (nI tc), .ref (g 21), .ref (g 22), .ref (g 23), .ref (g 24), .long td9, .ref (g 26), .ref (g 27), .ref (g 28), .ref (g 29), .ref (g 30)])), (g 1, .inl (cI, 64, .inl (fun i9 => nI (tx i9)))), (g 10, .inl (cI, 7, .inl (fun i9 => nI (rd1_6 i9)))), (g 11, .inl (cI, 175, .inl (fun i9 => nI (rt1_6 i9))))] H ∧ va_D A [(g 5, .inl (cI, 7, .inl (fun i9 => nI (kk i9)))), (g 7, .inl (cI, 175, .inl (fun i9 => nI (t i9)))), (g 12, .inl (cI, 50, .inl pq)), (g 19, .inl (cZ, 2, .inl (fun i9 => nI (zz i9)))), (g 0, .inr (10, [.int (nI 0), .ref (g 1), .int (nI ts), .int (nI p1_6), .int (nI rr1_6), .ref (g 5), .int (nI rs1_6), .ref (g 7), .int (nI rr1_6), .int (nI rs1_6), .ref (g 10), .ref (g 11), .ref (g 12), .long sd, .ref (g 14), .ref (g 15), .int (nI ac), .ref (g 17), .ref (g 18), .ref (g 19), .int (nI tc), .ref (g 21), .ref (g 22), .ref (g 23), .ref (g 24), .long td9, .ref (g 26), .ref (g 27), .ref (g 28), .ref (g 29), .ref (g 30)])), (g 1, .inl (cI, 64, .inl (fun i9 => nI (tx i9)))), (g 10, .inl (cI, 7, .inl (fun i9 => nI (rd1_6 i9)))), (g 11, .inl (cI, 175, .inl (fun i9 => nI (rt1_6 i9))))] ∧ va_S A s.heap H locs ∧ lv_has ls 2 [(1, .int (nI k)), (0, .ref (g 0))]) (fun xx9 => match xx9 with | (k, kk, pq) => []) (fun xx9 => match xx9 with | (k, kk, pq) => 7 - k) ?_ (0, kd, pg) ⟨by first | assumption | omega | (simp; done), fun j hj => absurd hj (Nat.not_lt_zero _), fun j hj => absurd hj (Nat.not_lt_zero _), hP.sub [0, 1, 2, 3, 4, 5, 6, 7] rfl, hD.sub [0, 1, 2, 3, 4, 5, 6, 7] (by decide) rfl, hS, lv_sub hl [0, 1] rfl⟩
      intro xx9 H locs ls hI ih_62
      obtain ⟨k, kk, pq⟩ := xx9
      obtain ⟨hk, hkk, hpq, hP, hD, hS, hl⟩ := hI
      have hk : k ≤ 7 := hk
      have hkk : ∀ j, j < k → kk j = kdA rr1_6 rd1_6 j := hkk
      have hpq : PgI pq rr1_6 rd1_6 k := hpq
      have hP : va_P G vwCl [(g 5, .inl (cI, 7, .inl (fun i9 => nI (kk i9)))), (g 7, .inl (cI, 175, .inl (fun i9 => nI (t i9)))), (g 12, .inl (cI, 50, .inl pq)), (g 19, .inl (cZ, 2, .inl (fun i9 => nI (zz i9)))), (g 0, .inr (10, [.int (nI 0), .ref (g 1), .int (nI ts), .int (nI p1_6), .int (nI rr1_6), .ref (g 5), .int (nI rs1_6), .ref (g 7), .int (nI rr1_6), .int (nI rs1_6), .ref (g 10), .ref (g 11), .ref (g 12), .long sd, .ref (g 14), .ref (g 15), .int (nI ac), .ref (g 17), .ref (g 18), .ref (g 19), .int (nI tc), .ref (g 21), .ref (g 22), .ref (g 23), .ref (g 24), .long td9, .ref (g 26), .ref (g 27), .ref (g 28), .ref (g 29), .ref (g 30)])), (g 1, .inl (cI, 64, .inl (fun i9 => nI (tx i9)))), (g 10, .inl (cI, 7, .inl (fun i9 => nI (rd1_6 i9)))), (g 11, .inl (cI, 175, .inl (fun i9 => nI (rt1_6 i9))))] _ := hP
      have hD : va_D A [(g 5, .inl (cI, 7, .inl (fun i9 => nI (kk i9)))), (g 7, .inl (cI, 175, .inl (fun i9 => nI (t i9)))), (g 12, .inl (cI, 50, .inl pq)), (g 19, .inl (cZ, 2, .inl (fun i9 => nI (zz i9)))), (g 0, .inr (10, [.int (nI 0), .ref (g 1), .int (nI ts), .int (nI p1_6), .int (nI rr1_6), .ref (g 5), .int (nI rs1_6), .ref (g 7), .int (nI rr1_6), .int (nI rs1_6), .ref (g 10), .ref (g 11), .ref (g 12), .long sd, .ref (g 14), .ref (g 15), .int (nI ac), .ref (g 17), .ref (g 18), .ref (g 19), .int (nI tc), .ref (g 21), .ref (g 22), .ref (g 23), .ref (g 24), .long td9, .ref (g 26), .ref (g 27), .ref (g 28), .ref (g 29), .ref (g 30)])), (g 1, .inl (cI, 64, .inl (fun i9 => nI (tx i9)))), (g 10, .inl (cI, 7, .inl (fun i9 => nI (rd1_6 i9)))), (g 11, .inl (cI, 175, .inl (fun i9 => nI (rt1_6 i9))))] := hD
      have hl : lv_has ls 2 [(1, .int (nI k)), (0, .ref (g 0))] := hl
      refine lv_iload_n hx hb dX10_army_62 rfl (lv_at hl 0 rfl) ?_
      refine lv_bipush (v := nI 7) hx hb dX10_army_63 (by decide) ?_
      refine lv_icmp_ge (tgt := 190) hx hb dX10_army_65 (by decide) (fun c_65 => ?_) (fun c_65 => ?_)
      · skip
        have c_65 := n_geT c_65 (by omega) (by omega)
        have hk7 : k = 7 := by omega
        subst hk7
        refine lv_aload_n hx hb dX10_army_190 rfl (lv_at hl 1 rfl) ?_
        refine va_get (D := G) (ci := 10) (v := .ref (g 12)) (C := RX10) (T := TX10) (N := 31) hx hb hts hin10 hown hK.1 hP 4 rfl rfl 12 (by decide) k_5 (fun _ h9 => h9) rfl dX10_army_191 ?_
        refine lv_bipush (v := nI 49) hx hb dX10_army_194 (by decide) ?_
        refine lv_iconst (v := nI 0) hx hb dX10_army_196 (by decide) ?_
        refine ast (f' := upd pq 49 (nI 0)) hx hb hK hP hD hS 2 0 rfl rfl (j := 49) (by omega) (by omega) (rfl) dX10_army_197 (fun H locs hP hD hS => ?_)
        have hP : va_P G vwCl [(g 5, .inl (cI, 7, .inl (fun i9 => nI (kk i9)))), (g 7, .inl (cI, 175, .inl (fun i9 => nI (t i9)))), (g 12, .inl (cI, 50, .inl (upd pq 49 (nI 0)))), (g 19, .inl (cZ, 2, .inl (fun i9 => nI (zz i9)))), (g 0, .inr (10, [.int (nI 0), .ref (g 1), .int (nI ts), .int (nI p1_6), .int (nI rr1_6), .ref (g 5), .int (nI rs1_6), .ref (g 7), .int (nI rr1_6), .int (nI rs1_6), .ref (g 10), .ref (g 11), .ref (g 12), .long sd, .ref (g 14), .ref (g 15), .int (nI ac), .ref (g 17), .ref (g 18), .ref (g 19), .int (nI tc), .ref (g 21), .ref (g 22), .ref (g 23), .ref (g 24), .long td9, .ref (g 26), .ref (g 27), .ref (g 28), .ref (g 29), .ref (g 30)])), (g 1, .inl (cI, 64, .inl (fun i9 => nI (tx i9)))), (g 10, .inl (cI, 7, .inl (fun i9 => nI (rd1_6 i9)))), (g 11, .inl (cI, 175, .inl (fun i9 => nI (rt1_6 i9))))] _ := hP
        have hD : va_D A [(g 5, .inl (cI, 7, .inl (fun i9 => nI (kk i9)))), (g 7, .inl (cI, 175, .inl (fun i9 => nI (t i9)))), (g 12, .inl (cI, 50, .inl (upd pq 49 (nI 0)))), (g 19, .inl (cZ, 2, .inl (fun i9 => nI (zz i9)))), (g 0, .inr (10, [.int (nI 0), .ref (g 1), .int (nI ts), .int (nI p1_6), .int (nI rr1_6), .ref (g 5), .int (nI rs1_6), .ref (g 7), .int (nI rr1_6), .int (nI rs1_6), .ref (g 10), .ref (g 11), .ref (g 12), .long sd, .ref (g 14), .ref (g 15), .int (nI ac), .ref (g 17), .ref (g 18), .ref (g 19), .int (nI tc), .ref (g 21), .ref (g 22), .ref (g 23), .ref (g 24), .long td9, .ref (g 26), .ref (g 27), .ref (g 28), .ref (g 29), .ref (g 30)])), (g 1, .inl (cI, 64, .inl (fun i9 => nI (tx i9)))), (g 10, .inl (cI, 7, .inl (fun i9 => nI (rd1_6 i9)))), (g 11, .inl (cI, 175, .inl (fun i9 => nI (rt1_6 i9))))] := hD
        refine lv_aload_n hx hb dX10_army_198 rfl (lv_at hl 1 rfl) ?_
        refine lv_iconst (v := nI 0) hx hb dX10_army_199 (by decide) ?_
        refine va_put (D := G) (ci := 10) (v := .int (nI 0)) (ty := tyX10 16) (C := RX10) (T := TX10) (N := 31) hx hb hts hin10 tyX10 tyX10_ok nmX10 hown hK.1 hP hD hS 4 rfl rfl 16 (by decide) k_6 (fun _ h9 => h9) rfl (by decide +kernel) rfl rfl (Nat.le_of_ble_eq_true rfl) dX10_army_200 (fun H locs hP hD hS => ?_)
        have hP : va_P G vwCl [(g 5, .inl (cI, 7, .inl (fun i9 => nI (kk i9)))), (g 7, .inl (cI, 175, .inl (fun i9 => nI (t i9)))), (g 12, .inl (cI, 50, .inl (upd pq 49 (nI 0)))), (g 19, .inl (cZ, 2, .inl (fun i9 => nI (zz i9)))), (g 0, .inr (10, [.int (nI 0), .ref (g 1), .int (nI ts), .int (nI p1_6), .int (nI rr1_6), .ref (g 5), .int (nI rs1_6), .ref (g 7), .int (nI rr1_6), .int (nI rs1_6), .ref (g 10), .ref (g 11), .ref (g 12), .long sd, .ref (g 14), .ref (g 15), .int (nI 0), .ref (g 17), .ref (g 18), .ref (g 19), .int (nI tc), .ref (g 21), .ref (g 22), .ref (g 23), .ref (g 24), .long td9, .ref (g 26), .ref (g 27), .ref (g 28), .ref (g 29), .ref (g 30)])), (g 1, .inl (cI, 64, .inl (fun i9 => nI (tx i9)))), (g 10, .inl (cI, 7, .inl (fun i9 => nI (rd1_6 i9)))), (g 11, .inl (cI, 175, .inl (fun i9 => nI (rt1_6 i9))))] _ := hP
        have hD : va_D A [(g 5, .inl (cI, 7, .inl (fun i9 => nI (kk i9)))), (g 7, .inl (cI, 175, .inl (fun i9 => nI (t i9)))), (g 12, .inl (cI, 50, .inl (upd pq 49 (nI 0)))), (g 19, .inl (cZ, 2, .inl (fun i9 => nI (zz i9)))), (g 0, .inr (10, [.int (nI 0), .ref (g 1), .int (nI ts), .int (nI p1_6), .int (nI rr1_6), .ref (g 5), .int (nI rs1_6), .ref (g 7), .int (nI rr1_6), .int (nI rs1_6), .ref (g 10), .ref (g 11), .ref (g 12), .long sd, .ref (g 14), .ref (g 15), .int (nI 0), .ref (g 17), .ref (g 18), .ref (g 19), .int (nI tc), .ref (g 21), .ref (g 22), .ref (g 23), .ref (g 24), .long td9, .ref (g 26), .ref (g 27), .ref (g 28), .ref (g 29), .ref (g 30)])), (g 1, .inl (cI, 64, .inl (fun i9 => nI (tx i9)))), (g 10, .inl (cI, 7, .inl (fun i9 => nI (rd1_6 i9)))), (g 11, .inl (cI, 175, .inl (fun i9 => nI (rt1_6 i9))))] := hD
        refine lv_aload_n hx hb dX10_army_203 rfl (lv_at hl 1 rfl) ?_
        refine va_get (D := G) (ci := 10) (v := .ref (g 19)) (C := RX10) (T := TX10) (N := 31) hx hb hts hin10 hown hK.1 hP 4 rfl rfl 19 (by decide) k_7 (fun _ h9 => h9) rfl dX10_army_204 ?_
        refine lv_iconst (v := nI 0) hx hb dX10_army_207 (by decide) ?_
        refine lv_iconst (v := nI 0) hx hb dX10_army_208 (by decide) ?_
        refine zst (f' := fun i9 => nI ((va_up zz 0 0) i9)) hx hb hK hP hD hS 3 2 rfl rfl (j := 0) (by omega) (by omega) (by decide) (upd_nat) dX10_army_209 (fun H locs hP hD hS => ?_)
        have hP : va_P G vwCl [(g 5, .inl (cI, 7, .inl (fun i9 => nI (kk i9)))), (g 7, .inl (cI, 175, .inl (fun i9 => nI (t i9)))), (g 12, .inl (cI, 50, .inl (upd pq 49 (nI 0)))), (g 19, .inl (cZ, 2, .inl (fun i9 => nI ((va_up zz 0 0) i9)))), (g 0, .inr (10, [.int (nI 0), .ref (g 1), .int (nI ts), .int (nI p1_6), .int (nI rr1_6), .ref (g 5), .int (nI rs1_6), .ref (g 7), .int (nI rr1_6), .int (nI rs1_6), .ref (g 10), .ref (g 11), .ref (g 12), .long sd, .ref (g 14), .ref (g 15), .int (nI 0), .ref (g 17), .ref (g 18), .ref (g 19), .int (nI tc), .ref (g 21), .ref (g 22), .ref (g 23), .ref (g 24), .long td9, .ref (g 26), .ref (g 27), .ref (g 28), .ref (g 29), .ref (g 30)])), (g 1, .inl (cI, 64, .inl (fun i9 => nI (tx i9)))), (g 10, .inl (cI, 7, .inl (fun i9 => nI (rd1_6 i9)))), (g 11, .inl (cI, 175, .inl (fun i9 => nI (rt1_6 i9))))] _ := hP
        have hD : va_D A [(g 5, .inl (cI, 7, .inl (fun i9 => nI (kk i9)))), (g 7, .inl (cI, 175, .inl (fun i9 => nI (t i9)))), (g 12, .inl (cI, 50, .inl (upd pq 49 (nI 0)))), (g 19, .inl (cZ, 2, .inl (fun i9 => nI ((va_up zz 0 0) i9)))), (g 0, .inr (10, [.int (nI 0), .ref (g 1), .int (nI ts), .int (nI p1_6), .int (nI rr1_6), .ref (g 5), .int (nI rs1_6), .ref (g 7), .int (nI rr1_6), .int (nI rs1_6), .ref (g 10), .ref (g 11), .ref (g 12), .long sd, .ref (g 14), .ref (g 15), .int (nI 0), .ref (g 17), .ref (g 18), .ref (g 19), .int (nI tc), .ref (g 21), .ref (g 22), .ref (g 23), .ref (g 24), .long td9, .ref (g 26), .ref (g 27), .ref (g 28), .ref (g 29), .ref (g 30)])), (g 1, .inl (cI, 64, .inl (fun i9 => nI (tx i9)))), (g 10, .inl (cI, 7, .inl (fun i9 => nI (rd1_6 i9)))), (g 11, .inl (cI, 175, .inl (fun i9 => nI (rt1_6 i9))))] := hD
        refine lv_aload_n hx hb dX10_army_210 rfl (lv_at hl 1 rfl) ?_
        refine va_get (D := G) (ci := 10) (v := .ref (g 19)) (C := RX10) (T := TX10) (N := 31) hx hb hts hin10 hown hK.1 hP 4 rfl rfl 19 (by decide) k_7 (fun _ h9 => h9) rfl dX10_army_211 ?_
        refine lv_iconst (v := nI 1) hx hb dX10_army_214 (by decide) ?_
        refine lv_iconst (v := nI 0) hx hb dX10_army_215 (by decide) ?_
        refine zst (f' := fun i9 => nI ((va_up (va_up zz 0 0) 1 0) i9)) hx hb hK hP hD hS 3 2 rfl rfl (j := 1) (by omega) (by omega) (by decide) (upd_nat) dX10_army_216 (fun H locs hP hD hS => ?_)
        have hP : va_P G vwCl [(g 5, .inl (cI, 7, .inl (fun i9 => nI (kk i9)))), (g 7, .inl (cI, 175, .inl (fun i9 => nI (t i9)))), (g 12, .inl (cI, 50, .inl (upd pq 49 (nI 0)))), (g 19, .inl (cZ, 2, .inl (fun i9 => nI ((va_up (va_up zz 0 0) 1 0) i9)))), (g 0, .inr (10, [.int (nI 0), .ref (g 1), .int (nI ts), .int (nI p1_6), .int (nI rr1_6), .ref (g 5), .int (nI rs1_6), .ref (g 7), .int (nI rr1_6), .int (nI rs1_6), .ref (g 10), .ref (g 11), .ref (g 12), .long sd, .ref (g 14), .ref (g 15), .int (nI 0), .ref (g 17), .ref (g 18), .ref (g 19), .int (nI tc), .ref (g 21), .ref (g 22), .ref (g 23), .ref (g 24), .long td9, .ref (g 26), .ref (g 27), .ref (g 28), .ref (g 29), .ref (g 30)])), (g 1, .inl (cI, 64, .inl (fun i9 => nI (tx i9)))), (g 10, .inl (cI, 7, .inl (fun i9 => nI (rd1_6 i9)))), (g 11, .inl (cI, 175, .inl (fun i9 => nI (rt1_6 i9))))] _ := hP
        have hD : va_D A [(g 5, .inl (cI, 7, .inl (fun i9 => nI (kk i9)))), (g 7, .inl (cI, 175, .inl (fun i9 => nI (t i9)))), (g 12, .inl (cI, 50, .inl (upd pq 49 (nI 0)))), (g 19, .inl (cZ, 2, .inl (fun i9 => nI ((va_up (va_up zz 0 0) 1 0) i9)))), (g 0, .inr (10, [.int (nI 0), .ref (g 1), .int (nI ts), .int (nI p1_6), .int (nI rr1_6), .ref (g 5), .int (nI rs1_6), .ref (g 7), .int (nI rr1_6), .int (nI rs1_6), .ref (g 10), .ref (g 11), .ref (g 12), .long sd, .ref (g 14), .ref (g 15), .int (nI 0), .ref (g 17), .ref (g 18), .ref (g 19), .int (nI tc), .ref (g 21), .ref (g 22), .ref (g 23), .ref (g 24), .long td9, .ref (g 26), .ref (g 27), .ref (g 28), .ref (g 29), .ref (g 30)])), (g 1, .inl (cI, 64, .inl (fun i9 => nI (tx i9)))), (g 10, .inl (cI, 7, .inl (fun i9 => nI (rd1_6 i9)))), (g 11, .inl (cI, 175, .inl (fun i9 => nI (rt1_6 i9))))] := hD
        refine lv_aload_n hx hb dX10_army_217 rfl (lv_at hl 1 rfl) ?_
        refine va_get (D := G) (ci := 10) (v := .int (nI rr1_6)) (C := RX10) (T := TX10) (N := 31) hx hb hts hin10 hown hK.1 hP 4 rfl rfl 4 (by decide) k_2 (fun _ h9 => h9) rfl dX10_army_218 ?_
        exact endI hx hb hr hlocks ((p1_6, rr1_6, rs1_6, rd1_6, rt1_6, rr1_6, rs1_6, kk, t, upd pq 49 (nI 0), 0, va_up (va_up zz 0 0) 1 0)) (⟨-9, hf6, Or.inr ⟨rfl, rfl, rfl, zz_0, s9, hrun9, ArmM_ok hm1 hm2 hm3 hm4 (by omega) (fun j hj => ht j (by omega)) hkk hpq⟩⟩) (hP.sub [4, 5, 6, 7, 0, 1, 2, 3] rfl) (hD.sub [4, 5, 6, 7, 0, 1, 2, 3] (by decide) rfl) hS dX10_army_221
      · skip
        have c_65 := n_geF c_65 (by omega) (by omega)
        refine lv_aload_n hx hb dX10_army_68 rfl (lv_at hl 1 rfl) ?_
        refine va_get (D := G) (ci := 10) (v := .ref (g 5)) (C := RX10) (T := TX10) (N := 31) hx hb hts hin10 hown hK.1 hP 4 rfl rfl 5 (by decide) k_8 (fun _ h9 => h9) rfl dX10_army_69 ?_
        refine lv_iload_n hx hb dX10_army_72 rfl (lv_at hl 0 rfl) ?_
        refine lv_iload_n hx hb dX10_army_73 rfl (lv_at hl 0 rfl) ?_
        refine lv_aload_n hx hb dX10_army_74 rfl (lv_at hl 1 rfl) ?_
        refine va_get (D := G) (ci := 10) (v := .int (nI rr1_6)) (C := RX10) (T := TX10) (N := 31) hx hb hts hin10 hown hK.1 hP 4 rfl rfl 4 (by decide) k_2 (fun _ h9 => h9) rfl dX10_army_75 ?_
        refine lv_icmp_ge (tgt := 90) hx hb dX10_army_78 (by decide) (fun c_78 => ?_) (fun c_78 => ?_)
        · skip
          have c_78 := n_geT c_78 (by omega) (by omega)
          refine lv_iconst (v := nI 0) hx hb dX10_army_90 (by decide) ?_
          refine top_i (y := nI (kdA rr1_6 rd1_6 k)) (by rw [kdA, if_neg (by omega)]) ?_
          refine ast (f' := fun i9 => nI ((va_up kk k (kdA rr1_6 rd1_6 k)) i9)) hx hb hK hP hD hS 0 0 rfl rfl (j := k) (by omega) (by omega) (upd_nat) dX10_army_91 (fun H locs hP hD hS => ?_)
          have hP : va_P G vwCl [(g 5, .inl (cI, 7, .inl (fun i9 => nI ((va_up kk k (kdA rr1_6 rd1_6 k)) i9)))), (g 7, .inl (cI, 175, .inl (fun i9 => nI (t i9)))), (g 12, .inl (cI, 50, .inl pq)), (g 19, .inl (cZ, 2, .inl (fun i9 => nI (zz i9)))), (g 0, .inr (10, [.int (nI 0), .ref (g 1), .int (nI ts), .int (nI p1_6), .int (nI rr1_6), .ref (g 5), .int (nI rs1_6), .ref (g 7), .int (nI rr1_6), .int (nI rs1_6), .ref (g 10), .ref (g 11), .ref (g 12), .long sd, .ref (g 14), .ref (g 15), .int (nI ac), .ref (g 17), .ref (g 18), .ref (g 19), .int (nI tc), .ref (g 21), .ref (g 22), .ref (g 23), .ref (g 24), .long td9, .ref (g 26), .ref (g 27), .ref (g 28), .ref (g 29), .ref (g 30)])), (g 1, .inl (cI, 64, .inl (fun i9 => nI (tx i9)))), (g 10, .inl (cI, 7, .inl (fun i9 => nI (rd1_6 i9)))), (g 11, .inl (cI, 175, .inl (fun i9 => nI (rt1_6 i9))))] _ := hP
          have hD : va_D A [(g 5, .inl (cI, 7, .inl (fun i9 => nI ((va_up kk k (kdA rr1_6 rd1_6 k)) i9)))), (g 7, .inl (cI, 175, .inl (fun i9 => nI (t i9)))), (g 12, .inl (cI, 50, .inl pq)), (g 19, .inl (cZ, 2, .inl (fun i9 => nI (zz i9)))), (g 0, .inr (10, [.int (nI 0), .ref (g 1), .int (nI ts), .int (nI p1_6), .int (nI rr1_6), .ref (g 5), .int (nI rs1_6), .ref (g 7), .int (nI rr1_6), .int (nI rs1_6), .ref (g 10), .ref (g 11), .ref (g 12), .long sd, .ref (g 14), .ref (g 15), .int (nI ac), .ref (g 17), .ref (g 18), .ref (g 19), .int (nI tc), .ref (g 21), .ref (g 22), .ref (g 23), .ref (g 24), .long td9, .ref (g 26), .ref (g 27), .ref (g 28), .ref (g 29), .ref (g 30)])), (g 1, .inl (cI, 64, .inl (fun i9 => nI (tx i9)))), (g 10, .inl (cI, 7, .inl (fun i9 => nI (rd1_6 i9)))), (g 11, .inl (cI, 175, .inl (fun i9 => nI (rt1_6 i9))))] := hD
          refine lv_aload_n hx hb dX10_army_92 rfl (lv_at hl 1 rfl) ?_
          refine va_get (D := G) (ci := 10) (v := .ref (g 12)) (C := RX10) (T := TX10) (N := 31) hx hb hts hin10 hown hK.1 hP 4 rfl rfl 12 (by decide) k_5 (fun _ h9 => h9) rfl dX10_army_93 ?_
          refine lv_iload_n hx hb dX10_army_96 rfl (lv_at hl 0 rfl) ?_
          refine lv_bipush (v := (-9)) hx hb dX10_army_97 (by decide) ?_
          refine ast (f' := upd pq k (-9)) hx hb hK hP hD hS 2 0 rfl rfl (j := k) (by omega) (by omega) (rfl) dX10_army_99 (fun H locs hP hD hS => ?_)
          have hP : va_P G vwCl [(g 5, .inl (cI, 7, .inl (fun i9 => nI ((va_up kk k (kdA rr1_6 rd1_6 k)) i9)))), (g 7, .inl (cI, 175, .inl (fun i9 => nI (t i9)))), (g 12, .inl (cI, 50, .inl (upd pq k (-9)))), (g 19, .inl (cZ, 2, .inl (fun i9 => nI (zz i9)))), (g 0, .inr (10, [.int (nI 0), .ref (g 1), .int (nI ts), .int (nI p1_6), .int (nI rr1_6), .ref (g 5), .int (nI rs1_6), .ref (g 7), .int (nI rr1_6), .int (nI rs1_6), .ref (g 10), .ref (g 11), .ref (g 12), .long sd, .ref (g 14), .ref (g 15), .int (nI ac), .ref (g 17), .ref (g 18), .ref (g 19), .int (nI tc), .ref (g 21), .ref (g 22), .ref (g 23), .ref (g 24), .long td9, .ref (g 26), .ref (g 27), .ref (g 28), .ref (g 29), .ref (g 30)])), (g 1, .inl (cI, 64, .inl (fun i9 => nI (tx i9)))), (g 10, .inl (cI, 7, .inl (fun i9 => nI (rd1_6 i9)))), (g 11, .inl (cI, 175, .inl (fun i9 => nI (rt1_6 i9))))] _ := hP
          have hD : va_D A [(g 5, .inl (cI, 7, .inl (fun i9 => nI ((va_up kk k (kdA rr1_6 rd1_6 k)) i9)))), (g 7, .inl (cI, 175, .inl (fun i9 => nI (t i9)))), (g 12, .inl (cI, 50, .inl (upd pq k (-9)))), (g 19, .inl (cZ, 2, .inl (fun i9 => nI (zz i9)))), (g 0, .inr (10, [.int (nI 0), .ref (g 1), .int (nI ts), .int (nI p1_6), .int (nI rr1_6), .ref (g 5), .int (nI rs1_6), .ref (g 7), .int (nI rr1_6), .int (nI rs1_6), .ref (g 10), .ref (g 11), .ref (g 12), .long sd, .ref (g 14), .ref (g 15), .int (nI ac), .ref (g 17), .ref (g 18), .ref (g 19), .int (nI tc), .ref (g 21), .ref (g 22), .ref (g 23), .ref (g 24), .long td9, .ref (g 26), .ref (g 27), .ref (g 28), .ref (g 29), .ref (g 30)])), (g 1, .inl (cI, 64, .inl (fun i9 => nI (tx i9)))), (g 10, .inl (cI, 7, .inl (fun i9 => nI (rd1_6 i9)))), (g 11, .inl (cI, 175, .inl (fun i9 => nI (rt1_6 i9))))] := hD
          refine lv_aload_n hx hb dX10_army_100 rfl (lv_at hl 1 rfl) ?_
          refine va_get (D := G) (ci := 10) (v := .ref (g 12)) (C := RX10) (T := TX10) (N := 31) hx hb hts hin10 hown hK.1 hP 4 rfl rfl 12 (by decide) k_5 (fun _ h9 => h9) rfl dX10_army_101 ?_
          refine lv_bipush (v := nI 7) hx hb dX10_army_104 (by decide) ?_
          refine lv_iload_n hx hb dX10_army_106 rfl (lv_at hl 0 rfl) ?_
          refine lv_iadd hx hb dX10_army_107 ?_
          refine top_i (y := nI (7 + k)) (nI_add _ _) ?_
          refine lv_bipush (v := (-9)) hx hb dX10_army_108 (by decide) ?_
          refine ast (f' := upd (upd pq k (-9)) (7 + k) (-9)) hx hb hK hP hD hS 2 0 rfl rfl (j := 7 + k) (by omega) (by omega) (rfl) dX10_army_110 (fun H locs hP hD hS => ?_)
          have hP : va_P G vwCl [(g 5, .inl (cI, 7, .inl (fun i9 => nI ((va_up kk k (kdA rr1_6 rd1_6 k)) i9)))), (g 7, .inl (cI, 175, .inl (fun i9 => nI (t i9)))), (g 12, .inl (cI, 50, .inl (upd (upd pq k (-9)) (7 + k) (-9)))), (g 19, .inl (cZ, 2, .inl (fun i9 => nI (zz i9)))), (g 0, .inr (10, [.int (nI 0), .ref (g 1), .int (nI ts), .int (nI p1_6), .int (nI rr1_6), .ref (g 5), .int (nI rs1_6), .ref (g 7), .int (nI rr1_6), .int (nI rs1_6), .ref (g 10), .ref (g 11), .ref (g 12), .long sd, .ref (g 14), .ref (g 15), .int (nI ac), .ref (g 17), .ref (g 18), .ref (g 19), .int (nI tc), .ref (g 21), .ref (g 22), .ref (g 23), .ref (g 24), .long td9, .ref (g 26), .ref (g 27), .ref (g 28), .ref (g 29), .ref (g 30)])), (g 1, .inl (cI, 64, .inl (fun i9 => nI (tx i9)))), (g 10, .inl (cI, 7, .inl (fun i9 => nI (rd1_6 i9)))), (g 11, .inl (cI, 175, .inl (fun i9 => nI (rt1_6 i9))))] _ := hP
          have hD : va_D A [(g 5, .inl (cI, 7, .inl (fun i9 => nI ((va_up kk k (kdA rr1_6 rd1_6 k)) i9)))), (g 7, .inl (cI, 175, .inl (fun i9 => nI (t i9)))), (g 12, .inl (cI, 50, .inl (upd (upd pq k (-9)) (7 + k) (-9)))), (g 19, .inl (cZ, 2, .inl (fun i9 => nI (zz i9)))), (g 0, .inr (10, [.int (nI 0), .ref (g 1), .int (nI ts), .int (nI p1_6), .int (nI rr1_6), .ref (g 5), .int (nI rs1_6), .ref (g 7), .int (nI rr1_6), .int (nI rs1_6), .ref (g 10), .ref (g 11), .ref (g 12), .long sd, .ref (g 14), .ref (g 15), .int (nI ac), .ref (g 17), .ref (g 18), .ref (g 19), .int (nI tc), .ref (g 21), .ref (g 22), .ref (g 23), .ref (g 24), .long td9, .ref (g 26), .ref (g 27), .ref (g 28), .ref (g 29), .ref (g 30)])), (g 1, .inl (cI, 64, .inl (fun i9 => nI (tx i9)))), (g 10, .inl (cI, 7, .inl (fun i9 => nI (rd1_6 i9)))), (g 11, .inl (cI, 175, .inl (fun i9 => nI (rt1_6 i9))))] := hD
          refine lv_aload_n hx hb dX10_army_111 rfl (lv_at hl 1 rfl) ?_
          refine va_get (D := G) (ci := 10) (v := .ref (g 12)) (C := RX10) (T := TX10) (N := 31) hx hb hts hin10 hown hK.1 hP 4 rfl rfl 12 (by decide) k_5 (fun _ h9 => h9) rfl dX10_army_112 ?_
          refine lv_bipush (v := nI 14) hx hb dX10_army_115 (by decide) ?_
          refine lv_iload_n hx hb dX10_army_117 rfl (lv_at hl 0 rfl) ?_
          refine lv_iadd hx hb dX10_army_118 ?_
          refine top_i (y := nI (14 + k)) (nI_add _ _) ?_
          refine lv_iconst (v := nI 0) hx hb dX10_army_119 (by decide) ?_
          refine ast (f' := upd (upd (upd pq k (-9)) (7 + k) (-9)) (14 + k) (nI 0)) hx hb hK hP hD hS 2 0 rfl rfl (j := 14 + k) (by omega) (by omega) (rfl) dX10_army_120 (fun H locs hP hD hS => ?_)
          have hP : va_P G vwCl [(g 5, .inl (cI, 7, .inl (fun i9 => nI ((va_up kk k (kdA rr1_6 rd1_6 k)) i9)))), (g 7, .inl (cI, 175, .inl (fun i9 => nI (t i9)))), (g 12, .inl (cI, 50, .inl (upd (upd (upd pq k (-9)) (7 + k) (-9)) (14 + k) (nI 0)))), (g 19, .inl (cZ, 2, .inl (fun i9 => nI (zz i9)))), (g 0, .inr (10, [.int (nI 0), .ref (g 1), .int (nI ts), .int (nI p1_6), .int (nI rr1_6), .ref (g 5), .int (nI rs1_6), .ref (g 7), .int (nI rr1_6), .int (nI rs1_6), .ref (g 10), .ref (g 11), .ref (g 12), .long sd, .ref (g 14), .ref (g 15), .int (nI ac), .ref (g 17), .ref (g 18), .ref (g 19), .int (nI tc), .ref (g 21), .ref (g 22), .ref (g 23), .ref (g 24), .long td9, .ref (g 26), .ref (g 27), .ref (g 28), .ref (g 29), .ref (g 30)])), (g 1, .inl (cI, 64, .inl (fun i9 => nI (tx i9)))), (g 10, .inl (cI, 7, .inl (fun i9 => nI (rd1_6 i9)))), (g 11, .inl (cI, 175, .inl (fun i9 => nI (rt1_6 i9))))] _ := hP
          have hD : va_D A [(g 5, .inl (cI, 7, .inl (fun i9 => nI ((va_up kk k (kdA rr1_6 rd1_6 k)) i9)))), (g 7, .inl (cI, 175, .inl (fun i9 => nI (t i9)))), (g 12, .inl (cI, 50, .inl (upd (upd (upd pq k (-9)) (7 + k) (-9)) (14 + k) (nI 0)))), (g 19, .inl (cZ, 2, .inl (fun i9 => nI (zz i9)))), (g 0, .inr (10, [.int (nI 0), .ref (g 1), .int (nI ts), .int (nI p1_6), .int (nI rr1_6), .ref (g 5), .int (nI rs1_6), .ref (g 7), .int (nI rr1_6), .int (nI rs1_6), .ref (g 10), .ref (g 11), .ref (g 12), .long sd, .ref (g 14), .ref (g 15), .int (nI ac), .ref (g 17), .ref (g 18), .ref (g 19), .int (nI tc), .ref (g 21), .ref (g 22), .ref (g 23), .ref (g 24), .long td9, .ref (g 26), .ref (g 27), .ref (g 28), .ref (g 29), .ref (g 30)])), (g 1, .inl (cI, 64, .inl (fun i9 => nI (tx i9)))), (g 10, .inl (cI, 7, .inl (fun i9 => nI (rd1_6 i9)))), (g 11, .inl (cI, 175, .inl (fun i9 => nI (rt1_6 i9))))] := hD
          refine lv_aload_n hx hb dX10_army_121 rfl (lv_at hl 1 rfl) ?_
          refine va_get (D := G) (ci := 10) (v := .ref (g 12)) (C := RX10) (T := TX10) (N := 31) hx hb hts hin10 hown hK.1 hP 4 rfl rfl 12 (by decide) k_5 (fun _ h9 => h9) rfl dX10_army_122 ?_
          refine lv_bipush (v := nI 21) hx hb dX10_army_125 (by decide) ?_
          refine lv_iload_n hx hb dX10_army_127 rfl (lv_at hl 0 rfl) ?_
          refine lv_iadd hx hb dX10_army_128 ?_
          refine top_i (y := nI (21 + k)) (nI_add _ _) ?_
          refine lv_iconst (v := nI 0) hx hb dX10_army_129 (by decide) ?_
          refine ast (f' := upd (upd (upd (upd pq k (-9)) (7 + k) (-9)) (14 + k) (nI 0)) (21 + k) (nI 0)) hx hb hK hP hD hS 2 0 rfl rfl (j := 21 + k) (by omega) (by omega) (rfl) dX10_army_130 (fun H locs hP hD hS => ?_)
          have hP : va_P G vwCl [(g 5, .inl (cI, 7, .inl (fun i9 => nI ((va_up kk k (kdA rr1_6 rd1_6 k)) i9)))), (g 7, .inl (cI, 175, .inl (fun i9 => nI (t i9)))), (g 12, .inl (cI, 50, .inl (upd (upd (upd (upd pq k (-9)) (7 + k) (-9)) (14 + k) (nI 0)) (21 + k) (nI 0)))), (g 19, .inl (cZ, 2, .inl (fun i9 => nI (zz i9)))), (g 0, .inr (10, [.int (nI 0), .ref (g 1), .int (nI ts), .int (nI p1_6), .int (nI rr1_6), .ref (g 5), .int (nI rs1_6), .ref (g 7), .int (nI rr1_6), .int (nI rs1_6), .ref (g 10), .ref (g 11), .ref (g 12), .long sd, .ref (g 14), .ref (g 15), .int (nI ac), .ref (g 17), .ref (g 18), .ref (g 19), .int (nI tc), .ref (g 21), .ref (g 22), .ref (g 23), .ref (g 24), .long td9, .ref (g 26), .ref (g 27), .ref (g 28), .ref (g 29), .ref (g 30)])), (g 1, .inl (cI, 64, .inl (fun i9 => nI (tx i9)))), (g 10, .inl (cI, 7, .inl (fun i9 => nI (rd1_6 i9)))), (g 11, .inl (cI, 175, .inl (fun i9 => nI (rt1_6 i9))))] _ := hP
          have hD : va_D A [(g 5, .inl (cI, 7, .inl (fun i9 => nI ((va_up kk k (kdA rr1_6 rd1_6 k)) i9)))), (g 7, .inl (cI, 175, .inl (fun i9 => nI (t i9)))), (g 12, .inl (cI, 50, .inl (upd (upd (upd (upd pq k (-9)) (7 + k) (-9)) (14 + k) (nI 0)) (21 + k) (nI 0)))), (g 19, .inl (cZ, 2, .inl (fun i9 => nI (zz i9)))), (g 0, .inr (10, [.int (nI 0), .ref (g 1), .int (nI ts), .int (nI p1_6), .int (nI rr1_6), .ref (g 5), .int (nI rs1_6), .ref (g 7), .int (nI rr1_6), .int (nI rs1_6), .ref (g 10), .ref (g 11), .ref (g 12), .long sd, .ref (g 14), .ref (g 15), .int (nI ac), .ref (g 17), .ref (g 18), .ref (g 19), .int (nI tc), .ref (g 21), .ref (g 22), .ref (g 23), .ref (g 24), .long td9, .ref (g 26), .ref (g 27), .ref (g 28), .ref (g 29), .ref (g 30)])), (g 1, .inl (cI, 64, .inl (fun i9 => nI (tx i9)))), (g 10, .inl (cI, 7, .inl (fun i9 => nI (rd1_6 i9)))), (g 11, .inl (cI, 175, .inl (fun i9 => nI (rt1_6 i9))))] := hD
          refine lv_aload_n hx hb dX10_army_131 rfl (lv_at hl 1 rfl) ?_
          refine va_get (D := G) (ci := 10) (v := .ref (g 12)) (C := RX10) (T := TX10) (N := 31) hx hb hts hin10 hown hK.1 hP 4 rfl rfl 12 (by decide) k_5 (fun _ h9 => h9) rfl dX10_army_132 ?_
          refine lv_bipush (v := nI 28) hx hb dX10_army_135 (by decide) ?_
          refine lv_iload_n hx hb dX10_army_137 rfl (lv_at hl 0 rfl) ?_
          refine lv_iadd hx hb dX10_army_138 ?_
          refine top_i (y := nI (28 + k)) (nI_add _ _) ?_
          refine lv_iconst (v := nI 0) hx hb dX10_army_139 (by decide) ?_
          refine ast (f' := upd (upd (upd (upd (upd pq k (-9)) (7 + k) (-9)) (14 + k) (nI 0)) (21 + k) (nI 0)) (28 + k) (nI 0)) hx hb hK hP hD hS 2 0 rfl rfl (j := 28 + k) (by omega) (by omega) (rfl) dX10_army_140 (fun H locs hP hD hS => ?_)
          have hP : va_P G vwCl [(g 5, .inl (cI, 7, .inl (fun i9 => nI ((va_up kk k (kdA rr1_6 rd1_6 k)) i9)))), (g 7, .inl (cI, 175, .inl (fun i9 => nI (t i9)))), (g 12, .inl (cI, 50, .inl (upd (upd (upd (upd (upd pq k (-9)) (7 + k) (-9)) (14 + k) (nI 0)) (21 + k) (nI 0)) (28 + k) (nI 0)))), (g 19, .inl (cZ, 2, .inl (fun i9 => nI (zz i9)))), (g 0, .inr (10, [.int (nI 0), .ref (g 1), .int (nI ts), .int (nI p1_6), .int (nI rr1_6), .ref (g 5), .int (nI rs1_6), .ref (g 7), .int (nI rr1_6), .int (nI rs1_6), .ref (g 10), .ref (g 11), .ref (g 12), .long sd, .ref (g 14), .ref (g 15), .int (nI ac), .ref (g 17), .ref (g 18), .ref (g 19), .int (nI tc), .ref (g 21), .ref (g 22), .ref (g 23), .ref (g 24), .long td9, .ref (g 26), .ref (g 27), .ref (g 28), .ref (g 29), .ref (g 30)])), (g 1, .inl (cI, 64, .inl (fun i9 => nI (tx i9)))), (g 10, .inl (cI, 7, .inl (fun i9 => nI (rd1_6 i9)))), (g 11, .inl (cI, 175, .inl (fun i9 => nI (rt1_6 i9))))] _ := hP
          have hD : va_D A [(g 5, .inl (cI, 7, .inl (fun i9 => nI ((va_up kk k (kdA rr1_6 rd1_6 k)) i9)))), (g 7, .inl (cI, 175, .inl (fun i9 => nI (t i9)))), (g 12, .inl (cI, 50, .inl (upd (upd (upd (upd (upd pq k (-9)) (7 + k) (-9)) (14 + k) (nI 0)) (21 + k) (nI 0)) (28 + k) (nI 0)))), (g 19, .inl (cZ, 2, .inl (fun i9 => nI (zz i9)))), (g 0, .inr (10, [.int (nI 0), .ref (g 1), .int (nI ts), .int (nI p1_6), .int (nI rr1_6), .ref (g 5), .int (nI rs1_6), .ref (g 7), .int (nI rr1_6), .int (nI rs1_6), .ref (g 10), .ref (g 11), .ref (g 12), .long sd, .ref (g 14), .ref (g 15), .int (nI ac), .ref (g 17), .ref (g 18), .ref (g 19), .int (nI tc), .ref (g 21), .ref (g 22), .ref (g 23), .ref (g 24), .long td9, .ref (g 26), .ref (g 27), .ref (g 28), .ref (g 29), .ref (g 30)])), (g 1, .inl (cI, 64, .inl (fun i9 => nI (tx i9)))), (g 10, .inl (cI, 7, .inl (fun i9 => nI (rd1_6 i9)))), (g 11, .inl (cI, 175, .inl (fun i9 => nI (rt1_6 i9))))] := hD
          refine lv_aload_n hx hb dX10_army_141 rfl (lv_at hl 1 rfl) ?_
          refine va_get (D := G) (ci := 10) (v := .ref (g 12)) (C := RX10) (T := TX10) (N := 31) hx hb hts hin10 hown hK.1 hP 4 rfl rfl 12 (by decide) k_5 (fun _ h9 => h9) rfl dX10_army_142 ?_
          refine lv_bipush (v := nI 35) hx hb dX10_army_145 (by decide) ?_
          refine lv_iload_n hx hb dX10_army_147 rfl (lv_at hl 0 rfl) ?_
          refine lv_iadd hx hb dX10_army_148 ?_
          refine top_i (y := nI (35 + k)) (nI_add _ _) ?_
          refine lv_bipush (v := (-9)) hx hb dX10_army_149 (by decide) ?_
          refine ast (f' := upd (upd (upd (upd (upd (upd pq k (-9)) (7 + k) (-9)) (14 + k) (nI 0)) (21 + k) (nI 0)) (28 + k) (nI 0)) (35 + k) (-9)) hx hb hK hP hD hS 2 0 rfl rfl (j := 35 + k) (by omega) (by omega) (rfl) dX10_army_151 (fun H locs hP hD hS => ?_)
          have hP : va_P G vwCl [(g 5, .inl (cI, 7, .inl (fun i9 => nI ((va_up kk k (kdA rr1_6 rd1_6 k)) i9)))), (g 7, .inl (cI, 175, .inl (fun i9 => nI (t i9)))), (g 12, .inl (cI, 50, .inl (upd (upd (upd (upd (upd (upd pq k (-9)) (7 + k) (-9)) (14 + k) (nI 0)) (21 + k) (nI 0)) (28 + k) (nI 0)) (35 + k) (-9)))), (g 19, .inl (cZ, 2, .inl (fun i9 => nI (zz i9)))), (g 0, .inr (10, [.int (nI 0), .ref (g 1), .int (nI ts), .int (nI p1_6), .int (nI rr1_6), .ref (g 5), .int (nI rs1_6), .ref (g 7), .int (nI rr1_6), .int (nI rs1_6), .ref (g 10), .ref (g 11), .ref (g 12), .long sd, .ref (g 14), .ref (g 15), .int (nI ac), .ref (g 17), .ref (g 18), .ref (g 19), .int (nI tc), .ref (g 21), .ref (g 22), .ref (g 23), .ref (g 24), .long td9, .ref (g 26), .ref (g 27), .ref (g 28), .ref (g 29), .ref (g 30)])), (g 1, .inl (cI, 64, .inl (fun i9 => nI (tx i9)))), (g 10, .inl (cI, 7, .inl (fun i9 => nI (rd1_6 i9)))), (g 11, .inl (cI, 175, .inl (fun i9 => nI (rt1_6 i9))))] _ := hP
          have hD : va_D A [(g 5, .inl (cI, 7, .inl (fun i9 => nI ((va_up kk k (kdA rr1_6 rd1_6 k)) i9)))), (g 7, .inl (cI, 175, .inl (fun i9 => nI (t i9)))), (g 12, .inl (cI, 50, .inl (upd (upd (upd (upd (upd (upd pq k (-9)) (7 + k) (-9)) (14 + k) (nI 0)) (21 + k) (nI 0)) (28 + k) (nI 0)) (35 + k) (-9)))), (g 19, .inl (cZ, 2, .inl (fun i9 => nI (zz i9)))), (g 0, .inr (10, [.int (nI 0), .ref (g 1), .int (nI ts), .int (nI p1_6), .int (nI rr1_6), .ref (g 5), .int (nI rs1_6), .ref (g 7), .int (nI rr1_6), .int (nI rs1_6), .ref (g 10), .ref (g 11), .ref (g 12), .long sd, .ref (g 14), .ref (g 15), .int (nI ac), .ref (g 17), .ref (g 18), .ref (g 19), .int (nI tc), .ref (g 21), .ref (g 22), .ref (g 23), .ref (g 24), .long td9, .ref (g 26), .ref (g 27), .ref (g 28), .ref (g 29), .ref (g 30)])), (g 1, .inl (cI, 64, .inl (fun i9 => nI (tx i9)))), (g 10, .inl (cI, 7, .inl (fun i9 => nI (rd1_6 i9)))), (g 11, .inl (cI, 175, .inl (fun i9 => nI (rt1_6 i9))))] := hD
          refine lv_aload_n hx hb dX10_army_152 rfl (lv_at hl 1 rfl) ?_
          refine va_get (D := G) (ci := 10) (v := .ref (g 12)) (C := RX10) (T := TX10) (N := 31) hx hb hts hin10 hown hK.1 hP 4 rfl rfl 12 (by decide) k_5 (fun _ h9 => h9) rfl dX10_army_153 ?_
          refine lv_bipush (v := nI 42) hx hb dX10_army_156 (by decide) ?_
          refine lv_iload_n hx hb dX10_army_158 rfl (lv_at hl 0 rfl) ?_
          refine lv_iadd hx hb dX10_army_159 ?_
          refine top_i (y := nI (42 + k)) (nI_add _ _) ?_
          refine lv_iload_n hx hb dX10_army_160 rfl (lv_at hl 0 rfl) ?_
          refine lv_aload_n hx hb dX10_army_161 rfl (lv_at hl 1 rfl) ?_
          refine va_get (D := G) (ci := 10) (v := .int (nI rr1_6)) (C := RX10) (T := TX10) (N := 31) hx hb hts hin10 hown hK.1 hP 4 rfl rfl 4 (by decide) k_2 (fun _ h9 => h9) rfl dX10_army_162 ?_
          refine lv_icmp_ge (tgt := 182) hx hb dX10_army_165 (by decide) (fun c_165 => ?_) (fun c_165 => ?_)
          · skip
            have c_165 := n_geT c_165 (by omega) (by omega)
            refine lv_iconst (v := nI 0) hx hb dX10_army_182 (by decide) ?_
            refine top_i (y := nI (slA rr1_6 rd1_6 k)) (by rw [slA, if_neg (by omega)]) ?_
            refine ast (f' := upd (upd (upd (upd (upd (upd (upd pq k (-9)) (7 + k) (-9)) (14 + k) (nI 0)) (21 + k) (nI 0)) (28 + k) (nI 0)) (35 + k) (-9)) (42 + k) (nI (slA rr1_6 rd1_6 k))) hx hb hK hP hD hS 2 0 rfl rfl (j := 42 + k) (by omega) (by omega) (rfl) dX10_army_183 (fun H locs hP hD hS => ?_)
            have hP : va_P G vwCl [(g 5, .inl (cI, 7, .inl (fun i9 => nI ((va_up kk k (kdA rr1_6 rd1_6 k)) i9)))), (g 7, .inl (cI, 175, .inl (fun i9 => nI (t i9)))), (g 12, .inl (cI, 50, .inl (upd (upd (upd (upd (upd (upd (upd pq k (-9)) (7 + k) (-9)) (14 + k) (nI 0)) (21 + k) (nI 0)) (28 + k) (nI 0)) (35 + k) (-9)) (42 + k) (nI (slA rr1_6 rd1_6 k))))), (g 19, .inl (cZ, 2, .inl (fun i9 => nI (zz i9)))), (g 0, .inr (10, [.int (nI 0), .ref (g 1), .int (nI ts), .int (nI p1_6), .int (nI rr1_6), .ref (g 5), .int (nI rs1_6), .ref (g 7), .int (nI rr1_6), .int (nI rs1_6), .ref (g 10), .ref (g 11), .ref (g 12), .long sd, .ref (g 14), .ref (g 15), .int (nI ac), .ref (g 17), .ref (g 18), .ref (g 19), .int (nI tc), .ref (g 21), .ref (g 22), .ref (g 23), .ref (g 24), .long td9, .ref (g 26), .ref (g 27), .ref (g 28), .ref (g 29), .ref (g 30)])), (g 1, .inl (cI, 64, .inl (fun i9 => nI (tx i9)))), (g 10, .inl (cI, 7, .inl (fun i9 => nI (rd1_6 i9)))), (g 11, .inl (cI, 175, .inl (fun i9 => nI (rt1_6 i9))))] _ := hP
            have hD : va_D A [(g 5, .inl (cI, 7, .inl (fun i9 => nI ((va_up kk k (kdA rr1_6 rd1_6 k)) i9)))), (g 7, .inl (cI, 175, .inl (fun i9 => nI (t i9)))), (g 12, .inl (cI, 50, .inl (upd (upd (upd (upd (upd (upd (upd pq k (-9)) (7 + k) (-9)) (14 + k) (nI 0)) (21 + k) (nI 0)) (28 + k) (nI 0)) (35 + k) (-9)) (42 + k) (nI (slA rr1_6 rd1_6 k))))), (g 19, .inl (cZ, 2, .inl (fun i9 => nI (zz i9)))), (g 0, .inr (10, [.int (nI 0), .ref (g 1), .int (nI ts), .int (nI p1_6), .int (nI rr1_6), .ref (g 5), .int (nI rs1_6), .ref (g 7), .int (nI rr1_6), .int (nI rs1_6), .ref (g 10), .ref (g 11), .ref (g 12), .long sd, .ref (g 14), .ref (g 15), .int (nI ac), .ref (g 17), .ref (g 18), .ref (g 19), .int (nI tc), .ref (g 21), .ref (g 22), .ref (g 23), .ref (g 24), .long td9, .ref (g 26), .ref (g 27), .ref (g 28), .ref (g 29), .ref (g 30)])), (g 1, .inl (cI, 64, .inl (fun i9 => nI (tx i9)))), (g 10, .inl (cI, 7, .inl (fun i9 => nI (rd1_6 i9)))), (g 11, .inl (cI, 175, .inl (fun i9 => nI (rt1_6 i9))))] := hD
            refine lv_iinc (v := nI (k + 1)) (lv' := [(1, .int (nI (k + 1))), (0, .ref (g 0))]) hx hb dX10_army_184 hl (k := 0) rfl (nI_inc _ 1 1 (by decide)) (by decide) rfl (fun ls hl => ?_)
            refine lv_goto (tgt := 62) hx hb dX10_army_187 (by decide) ?_
            exact ih_62 (k + 1, va_up kk k (kdA rr1_6 rd1_6 k), upd (upd (upd (upd (upd (upd (upd pq k (-9)) (7 + k) (-9)) (14 + k) (nI 0)) (21 + k) (nI 0)) (28 + k) (nI 0)) (35 + k) (-9)) (42 + k) (nI (slA rr1_6 rd1_6 k))) _ _ _ (by first | omega | (simp only []; omega) | (show _ < _; omega)) ⟨by first | assumption | omega | (simp; done), fun j hj => by by_cases e : j = k; (rw [e, va_up_self]); rw [va_up_ne _ _ e]; exact hkk j (by omega), PgI_s hpq (by omega), hP.sub [0, 1, 2, 3, 4, 5, 6, 7] rfl, hD.sub [0, 1, 2, 3, 4, 5, 6, 7] (by decide) rfl, hS, lv_sub hl [0, 1] rfl⟩
          · skip
            have c_165 := n_geF c_165 (by omega) (by omega)
            refine lv_aload_n hx hb dX10_army_168 rfl (lv_at hl 1 rfl) ?_
            refine va_get (D := G) (ci := 10) (v := .ref (g 5)) (C := RX10) (T := TX10) (N := 31) hx hb hts hin10 hown hK.1 hP 4 rfl rfl 5 (by decide) k_8 (fun _ h9 => h9) rfl dX10_army_169 ?_
            refine lv_iload_n hx hb dX10_army_172 rfl (lv_at hl 0 rfl) ?_
            refine ald hx hb hK hP 0 0 rfl rfl (j := k) (by omega) (by omega) dX10_army_173 ?_
            refine top_i (y := nI (rd1_6 k)) (by rw [va_up_self, kdA, if_pos (by omega)]) ?_
            have hk4 : rd1_6 k < 4 := by rw [hm3 k (by omega)]; exact hri.2.2.2.2.2.2.2.2.2.2 k (by omega)
            refine lv_iconst (v := nI 3) hx hb dX10_army_174 (by decide) ?_
            refine lv_icmp_ne (tgt := 182) hx hb dX10_army_175 (by decide) (fun c_175 => ?_) (fun c_175 => ?_)
            · skip
              have c_175 := n_neT c_175 (by omega) (by omega)
              refine lv_iconst (v := nI 0) hx hb dX10_army_182 (by decide) ?_
              refine top_i (y := nI (slA rr1_6 rd1_6 k)) (by rw [slA, if_neg (by omega)]) ?_
              refine ast (f' := upd (upd (upd (upd (upd (upd (upd pq k (-9)) (7 + k) (-9)) (14 + k) (nI 0)) (21 + k) (nI 0)) (28 + k) (nI 0)) (35 + k) (-9)) (42 + k) (nI (slA rr1_6 rd1_6 k))) hx hb hK hP hD hS 2 0 rfl rfl (j := 42 + k) (by omega) (by omega) (rfl) dX10_army_183 (fun H locs hP hD hS => ?_)
              have hP : va_P G vwCl [(g 5, .inl (cI, 7, .inl (fun i9 => nI ((va_up kk k (kdA rr1_6 rd1_6 k)) i9)))), (g 7, .inl (cI, 175, .inl (fun i9 => nI (t i9)))), (g 12, .inl (cI, 50, .inl (upd (upd (upd (upd (upd (upd (upd pq k (-9)) (7 + k) (-9)) (14 + k) (nI 0)) (21 + k) (nI 0)) (28 + k) (nI 0)) (35 + k) (-9)) (42 + k) (nI (slA rr1_6 rd1_6 k))))), (g 19, .inl (cZ, 2, .inl (fun i9 => nI (zz i9)))), (g 0, .inr (10, [.int (nI 0), .ref (g 1), .int (nI ts), .int (nI p1_6), .int (nI rr1_6), .ref (g 5), .int (nI rs1_6), .ref (g 7), .int (nI rr1_6), .int (nI rs1_6), .ref (g 10), .ref (g 11), .ref (g 12), .long sd, .ref (g 14), .ref (g 15), .int (nI ac), .ref (g 17), .ref (g 18), .ref (g 19), .int (nI tc), .ref (g 21), .ref (g 22), .ref (g 23), .ref (g 24), .long td9, .ref (g 26), .ref (g 27), .ref (g 28), .ref (g 29), .ref (g 30)])), (g 1, .inl (cI, 64, .inl (fun i9 => nI (tx i9)))), (g 10, .inl (cI, 7, .inl (fun i9 => nI (rd1_6 i9)))), (g 11, .inl (cI, 175, .inl (fun i9 => nI (rt1_6 i9))))] _ := hP
              have hD : va_D A [(g 5, .inl (cI, 7, .inl (fun i9 => nI ((va_up kk k (kdA rr1_6 rd1_6 k)) i9)))), (g 7, .inl (cI, 175, .inl (fun i9 => nI (t i9)))), (g 12, .inl (cI, 50, .inl (upd (upd (upd (upd (upd (upd (upd pq k (-9)) (7 + k) (-9)) (14 + k) (nI 0)) (21 + k) (nI 0)) (28 + k) (nI 0)) (35 + k) (-9)) (42 + k) (nI (slA rr1_6 rd1_6 k))))), (g 19, .inl (cZ, 2, .inl (fun i9 => nI (zz i9)))), (g 0, .inr (10, [.int (nI 0), .ref (g 1), .int (nI ts), .int (nI p1_6), .int (nI rr1_6), .ref (g 5), .int (nI rs1_6), .ref (g 7), .int (nI rr1_6), .int (nI rs1_6), .ref (g 10), .ref (g 11), .ref (g 12), .long sd, .ref (g 14), .ref (g 15), .int (nI ac), .ref (g 17), .ref (g 18), .ref (g 19), .int (nI tc), .ref (g 21), .ref (g 22), .ref (g 23), .ref (g 24), .long td9, .ref (g 26), .ref (g 27), .ref (g 28), .ref (g 29), .ref (g 30)])), (g 1, .inl (cI, 64, .inl (fun i9 => nI (tx i9)))), (g 10, .inl (cI, 7, .inl (fun i9 => nI (rd1_6 i9)))), (g 11, .inl (cI, 175, .inl (fun i9 => nI (rt1_6 i9))))] := hD
              refine lv_iinc (v := nI (k + 1)) (lv' := [(1, .int (nI (k + 1))), (0, .ref (g 0))]) hx hb dX10_army_184 hl (k := 0) rfl (nI_inc _ 1 1 (by decide)) (by decide) rfl (fun ls hl => ?_)
              refine lv_goto (tgt := 62) hx hb dX10_army_187 (by decide) ?_
              exact ih_62 (k + 1, va_up kk k (kdA rr1_6 rd1_6 k), upd (upd (upd (upd (upd (upd (upd pq k (-9)) (7 + k) (-9)) (14 + k) (nI 0)) (21 + k) (nI 0)) (28 + k) (nI 0)) (35 + k) (-9)) (42 + k) (nI (slA rr1_6 rd1_6 k))) _ _ _ (by first | omega | (simp only []; omega) | (show _ < _; omega)) ⟨by first | assumption | omega | (simp; done), fun j hj => by by_cases e : j = k; (rw [e, va_up_self]); rw [va_up_ne _ _ e]; exact hkk j (by omega), PgI_s hpq (by omega), hP.sub [0, 1, 2, 3, 4, 5, 6, 7] rfl, hD.sub [0, 1, 2, 3, 4, 5, 6, 7] (by decide) rfl, hS, lv_sub hl [0, 1] rfl⟩
            · skip
              have c_175 := n_neF c_175 (by omega) (by omega)
              refine lv_iconst (v := nI 1) hx hb dX10_army_178 (by decide) ?_
              refine lv_goto (tgt := 183) hx hb dX10_army_179 (by decide) ?_
              refine top_i (y := nI (slA rr1_6 rd1_6 k)) (by rw [slA, if_pos ⟨by omega, by omega⟩]) ?_
              refine ast (f' := upd (upd (upd (upd (upd (upd (upd pq k (-9)) (7 + k) (-9)) (14 + k) (nI 0)) (21 + k) (nI 0)) (28 + k) (nI 0)) (35 + k) (-9)) (42 + k) (nI (slA rr1_6 rd1_6 k))) hx hb hK hP hD hS 2 0 rfl rfl (j := 42 + k) (by omega) (by omega) (rfl) dX10_army_183 (fun H locs hP hD hS => ?_)
              have hP : va_P G vwCl [(g 5, .inl (cI, 7, .inl (fun i9 => nI ((va_up kk k (kdA rr1_6 rd1_6 k)) i9)))), (g 7, .inl (cI, 175, .inl (fun i9 => nI (t i9)))), (g 12, .inl (cI, 50, .inl (upd (upd (upd (upd (upd (upd (upd pq k (-9)) (7 + k) (-9)) (14 + k) (nI 0)) (21 + k) (nI 0)) (28 + k) (nI 0)) (35 + k) (-9)) (42 + k) (nI (slA rr1_6 rd1_6 k))))), (g 19, .inl (cZ, 2, .inl (fun i9 => nI (zz i9)))), (g 0, .inr (10, [.int (nI 0), .ref (g 1), .int (nI ts), .int (nI p1_6), .int (nI rr1_6), .ref (g 5), .int (nI rs1_6), .ref (g 7), .int (nI rr1_6), .int (nI rs1_6), .ref (g 10), .ref (g 11), .ref (g 12), .long sd, .ref (g 14), .ref (g 15), .int (nI ac), .ref (g 17), .ref (g 18), .ref (g 19), .int (nI tc), .ref (g 21), .ref (g 22), .ref (g 23), .ref (g 24), .long td9, .ref (g 26), .ref (g 27), .ref (g 28), .ref (g 29), .ref (g 30)])), (g 1, .inl (cI, 64, .inl (fun i9 => nI (tx i9)))), (g 10, .inl (cI, 7, .inl (fun i9 => nI (rd1_6 i9)))), (g 11, .inl (cI, 175, .inl (fun i9 => nI (rt1_6 i9))))] _ := hP
              have hD : va_D A [(g 5, .inl (cI, 7, .inl (fun i9 => nI ((va_up kk k (kdA rr1_6 rd1_6 k)) i9)))), (g 7, .inl (cI, 175, .inl (fun i9 => nI (t i9)))), (g 12, .inl (cI, 50, .inl (upd (upd (upd (upd (upd (upd (upd pq k (-9)) (7 + k) (-9)) (14 + k) (nI 0)) (21 + k) (nI 0)) (28 + k) (nI 0)) (35 + k) (-9)) (42 + k) (nI (slA rr1_6 rd1_6 k))))), (g 19, .inl (cZ, 2, .inl (fun i9 => nI (zz i9)))), (g 0, .inr (10, [.int (nI 0), .ref (g 1), .int (nI ts), .int (nI p1_6), .int (nI rr1_6), .ref (g 5), .int (nI rs1_6), .ref (g 7), .int (nI rr1_6), .int (nI rs1_6), .ref (g 10), .ref (g 11), .ref (g 12), .long sd, .ref (g 14), .ref (g 15), .int (nI ac), .ref (g 17), .ref (g 18), .ref (g 19), .int (nI tc), .ref (g 21), .ref (g 22), .ref (g 23), .ref (g 24), .long td9, .ref (g 26), .ref (g 27), .ref (g 28), .ref (g 29), .ref (g 30)])), (g 1, .inl (cI, 64, .inl (fun i9 => nI (tx i9)))), (g 10, .inl (cI, 7, .inl (fun i9 => nI (rd1_6 i9)))), (g 11, .inl (cI, 175, .inl (fun i9 => nI (rt1_6 i9))))] := hD
              refine lv_iinc (v := nI (k + 1)) (lv' := [(1, .int (nI (k + 1))), (0, .ref (g 0))]) hx hb dX10_army_184 hl (k := 0) rfl (nI_inc _ 1 1 (by decide)) (by decide) rfl (fun ls hl => ?_)
              refine lv_goto (tgt := 62) hx hb dX10_army_187 (by decide) ?_
              exact ih_62 (k + 1, va_up kk k (kdA rr1_6 rd1_6 k), upd (upd (upd (upd (upd (upd (upd pq k (-9)) (7 + k) (-9)) (14 + k) (nI 0)) (21 + k) (nI 0)) (28 + k) (nI 0)) (35 + k) (-9)) (42 + k) (nI (slA rr1_6 rd1_6 k))) _ _ _ (by first | omega | (simp only []; omega) | (show _ < _; omega)) ⟨by first | assumption | omega | (simp; done), fun j hj => by by_cases e : j = k; (rw [e, va_up_self]); rw [va_up_ne _ _ e]; exact hkk j (by omega), PgI_s hpq (by omega), hP.sub [0, 1, 2, 3, 4, 5, 6, 7] rfl, hD.sub [0, 1, 2, 3, 4, 5, 6, 7] (by decide) rfl, hS, lv_sub hl [0, 1] rfl⟩
        · skip
          have c_78 := n_geF c_78 (by omega) (by omega)
          refine lv_aload_n hx hb dX10_army_81 rfl (lv_at hl 1 rfl) ?_
          refine va_get (D := G) (ci := 10) (v := .ref (g 10)) (C := RX10) (T := TX10) (N := 31) hx hb hts hin10 hown hK.1 hP 4 rfl rfl 10 (by decide) k_9 (fun _ h9 => h9) rfl dX10_army_82 ?_
          refine lv_iload_n hx hb dX10_army_85 rfl (lv_at hl 0 rfl) ?_
          refine ald hx hb hK hP 6 0 rfl rfl (j := k) (by omega) (by omega) dX10_army_86 ?_
          refine lv_goto (tgt := 91) hx hb dX10_army_87 (by decide) ?_
          refine top_i (y := nI (kdA rr1_6 rd1_6 k)) (by rw [kdA, if_pos (by omega)]) ?_
          refine ast (f' := fun i9 => nI ((va_up kk k (kdA rr1_6 rd1_6 k)) i9)) hx hb hK hP hD hS 0 0 rfl rfl (j := k) (by omega) (by omega) (upd_nat) dX10_army_91 (fun H locs hP hD hS => ?_)
          have hP : va_P G vwCl [(g 5, .inl (cI, 7, .inl (fun i9 => nI ((va_up kk k (kdA rr1_6 rd1_6 k)) i9)))), (g 7, .inl (cI, 175, .inl (fun i9 => nI (t i9)))), (g 12, .inl (cI, 50, .inl pq)), (g 19, .inl (cZ, 2, .inl (fun i9 => nI (zz i9)))), (g 0, .inr (10, [.int (nI 0), .ref (g 1), .int (nI ts), .int (nI p1_6), .int (nI rr1_6), .ref (g 5), .int (nI rs1_6), .ref (g 7), .int (nI rr1_6), .int (nI rs1_6), .ref (g 10), .ref (g 11), .ref (g 12), .long sd, .ref (g 14), .ref (g 15), .int (nI ac), .ref (g 17), .ref (g 18), .ref (g 19), .int (nI tc), .ref (g 21), .ref (g 22), .ref (g 23), .ref (g 24), .long td9, .ref (g 26), .ref (g 27), .ref (g 28), .ref (g 29), .ref (g 30)])), (g 1, .inl (cI, 64, .inl (fun i9 => nI (tx i9)))), (g 10, .inl (cI, 7, .inl (fun i9 => nI (rd1_6 i9)))), (g 11, .inl (cI, 175, .inl (fun i9 => nI (rt1_6 i9))))] _ := hP
          have hD : va_D A [(g 5, .inl (cI, 7, .inl (fun i9 => nI ((va_up kk k (kdA rr1_6 rd1_6 k)) i9)))), (g 7, .inl (cI, 175, .inl (fun i9 => nI (t i9)))), (g 12, .inl (cI, 50, .inl pq)), (g 19, .inl (cZ, 2, .inl (fun i9 => nI (zz i9)))), (g 0, .inr (10, [.int (nI 0), .ref (g 1), .int (nI ts), .int (nI p1_6), .int (nI rr1_6), .ref (g 5), .int (nI rs1_6), .ref (g 7), .int (nI rr1_6), .int (nI rs1_6), .ref (g 10), .ref (g 11), .ref (g 12), .long sd, .ref (g 14), .ref (g 15), .int (nI ac), .ref (g 17), .ref (g 18), .ref (g 19), .int (nI tc), .ref (g 21), .ref (g 22), .ref (g 23), .ref (g 24), .long td9, .ref (g 26), .ref (g 27), .ref (g 28), .ref (g 29), .ref (g 30)])), (g 1, .inl (cI, 64, .inl (fun i9 => nI (tx i9)))), (g 10, .inl (cI, 7, .inl (fun i9 => nI (rd1_6 i9)))), (g 11, .inl (cI, 175, .inl (fun i9 => nI (rt1_6 i9))))] := hD
          refine lv_aload_n hx hb dX10_army_92 rfl (lv_at hl 1 rfl) ?_
          refine va_get (D := G) (ci := 10) (v := .ref (g 12)) (C := RX10) (T := TX10) (N := 31) hx hb hts hin10 hown hK.1 hP 4 rfl rfl 12 (by decide) k_5 (fun _ h9 => h9) rfl dX10_army_93 ?_
          refine lv_iload_n hx hb dX10_army_96 rfl (lv_at hl 0 rfl) ?_
          refine lv_bipush (v := (-9)) hx hb dX10_army_97 (by decide) ?_
          refine ast (f' := upd pq k (-9)) hx hb hK hP hD hS 2 0 rfl rfl (j := k) (by omega) (by omega) (rfl) dX10_army_99 (fun H locs hP hD hS => ?_)
          have hP : va_P G vwCl [(g 5, .inl (cI, 7, .inl (fun i9 => nI ((va_up kk k (kdA rr1_6 rd1_6 k)) i9)))), (g 7, .inl (cI, 175, .inl (fun i9 => nI (t i9)))), (g 12, .inl (cI, 50, .inl (upd pq k (-9)))), (g 19, .inl (cZ, 2, .inl (fun i9 => nI (zz i9)))), (g 0, .inr (10, [.int (nI 0), .ref (g 1), .int (nI ts), .int (nI p1_6), .int (nI rr1_6), .ref (g 5), .int (nI rs1_6), .ref (g 7), .int (nI rr1_6), .int (nI rs1_6), .ref (g 10), .ref (g 11), .ref (g 12), .long sd, .ref (g 14), .ref (g 15), .int (nI ac), .ref (g 17), .ref (g 18), .ref (g 19), .int (nI tc), .ref (g 21), .ref (g 22), .ref (g 23), .ref (g 24), .long td9, .ref (g 26), .ref (g 27), .ref (g 28), .ref (g 29), .ref (g 30)])), (g 1, .inl (cI, 64, .inl (fun i9 => nI (tx i9)))), (g 10, .inl (cI, 7, .inl (fun i9 => nI (rd1_6 i9)))), (g 11, .inl (cI, 175, .inl (fun i9 => nI (rt1_6 i9))))] _ := hP
          have hD : va_D A [(g 5, .inl (cI, 7, .inl (fun i9 => nI ((va_up kk k (kdA rr1_6 rd1_6 k)) i9)))), (g 7, .inl (cI, 175, .inl (fun i9 => nI (t i9)))), (g 12, .inl (cI, 50, .inl (upd pq k (-9)))), (g 19, .inl (cZ, 2, .inl (fun i9 => nI (zz i9)))), (g 0, .inr (10, [.int (nI 0), .ref (g 1), .int (nI ts), .int (nI p1_6), .int (nI rr1_6), .ref (g 5), .int (nI rs1_6), .ref (g 7), .int (nI rr1_6), .int (nI rs1_6), .ref (g 10), .ref (g 11), .ref (g 12), .long sd, .ref (g 14), .ref (g 15), .int (nI ac), .ref (g 17), .ref (g 18), .ref (g 19), .int (nI tc), .ref (g 21), .ref (g 22), .ref (g 23), .ref (g 24), .long td9, .ref (g 26), .ref (g 27), .ref (g 28), .ref (g 29), .ref (g 30)])), (g 1, .inl (cI, 64, .inl (fun i9 => nI (tx i9)))), (g 10, .inl (cI, 7, .inl (fun i9 => nI (rd1_6 i9)))), (g 11, .inl (cI, 175, .inl (fun i9 => nI (rt1_6 i9))))] := hD
          refine lv_aload_n hx hb dX10_army_100 rfl (lv_at hl 1 rfl) ?_
          refine va_get (D := G) (ci := 10) (v := .ref (g 12)) (C := RX10) (T := TX10) (N := 31) hx hb hts hin10 hown hK.1 hP 4 rfl rfl 12 (by decide) k_5 (fun _ h9 => h9) rfl dX10_army_101 ?_
          refine lv_bipush (v := nI 7) hx hb dX10_army_104 (by decide) ?_
          refine lv_iload_n hx hb dX10_army_106 rfl (lv_at hl 0 rfl) ?_
          refine lv_iadd hx hb dX10_army_107 ?_
          refine top_i (y := nI (7 + k)) (nI_add _ _) ?_
          refine lv_bipush (v := (-9)) hx hb dX10_army_108 (by decide) ?_
          refine ast (f' := upd (upd pq k (-9)) (7 + k) (-9)) hx hb hK hP hD hS 2 0 rfl rfl (j := 7 + k) (by omega) (by omega) (rfl) dX10_army_110 (fun H locs hP hD hS => ?_)
          have hP : va_P G vwCl [(g 5, .inl (cI, 7, .inl (fun i9 => nI ((va_up kk k (kdA rr1_6 rd1_6 k)) i9)))), (g 7, .inl (cI, 175, .inl (fun i9 => nI (t i9)))), (g 12, .inl (cI, 50, .inl (upd (upd pq k (-9)) (7 + k) (-9)))), (g 19, .inl (cZ, 2, .inl (fun i9 => nI (zz i9)))), (g 0, .inr (10, [.int (nI 0), .ref (g 1), .int (nI ts), .int (nI p1_6), .int (nI rr1_6), .ref (g 5), .int (nI rs1_6), .ref (g 7), .int (nI rr1_6), .int (nI rs1_6), .ref (g 10), .ref (g 11), .ref (g 12), .long sd, .ref (g 14), .ref (g 15), .int (nI ac), .ref (g 17), .ref (g 18), .ref (g 19), .int (nI tc), .ref (g 21), .ref (g 22), .ref (g 23), .ref (g 24), .long td9, .ref (g 26), .ref (g 27), .ref (g 28), .ref (g 29), .ref (g 30)])), (g 1, .inl (cI, 64, .inl (fun i9 => nI (tx i9)))), (g 10, .inl (cI, 7, .inl (fun i9 => nI (rd1_6 i9)))), (g 11, .inl (cI, 175, .inl (fun i9 => nI (rt1_6 i9))))] _ := hP
          have hD : va_D A [(g 5, .inl (cI, 7, .inl (fun i9 => nI ((va_up kk k (kdA rr1_6 rd1_6 k)) i9)))), (g 7, .inl (cI, 175, .inl (fun i9 => nI (t i9)))), (g 12, .inl (cI, 50, .inl (upd (upd pq k (-9)) (7 + k) (-9)))), (g 19, .inl (cZ, 2, .inl (fun i9 => nI (zz i9)))), (g 0, .inr (10, [.int (nI 0), .ref (g 1), .int (nI ts), .int (nI p1_6), .int (nI rr1_6), .ref (g 5), .int (nI rs1_6), .ref (g 7), .int (nI rr1_6), .int (nI rs1_6), .ref (g 10), .ref (g 11), .ref (g 12), .long sd, .ref (g 14), .ref (g 15), .int (nI ac), .ref (g 17), .ref (g 18), .ref (g 19), .int (nI tc), .ref (g 21), .ref (g 22), .ref (g 23), .ref (g 24), .long td9, .ref (g 26), .ref (g 27), .ref (g 28), .ref (g 29), .ref (g 30)])), (g 1, .inl (cI, 64, .inl (fun i9 => nI (tx i9)))), (g 10, .inl (cI, 7, .inl (fun i9 => nI (rd1_6 i9)))), (g 11, .inl (cI, 175, .inl (fun i9 => nI (rt1_6 i9))))] := hD
          refine lv_aload_n hx hb dX10_army_111 rfl (lv_at hl 1 rfl) ?_
          refine va_get (D := G) (ci := 10) (v := .ref (g 12)) (C := RX10) (T := TX10) (N := 31) hx hb hts hin10 hown hK.1 hP 4 rfl rfl 12 (by decide) k_5 (fun _ h9 => h9) rfl dX10_army_112 ?_
          refine lv_bipush (v := nI 14) hx hb dX10_army_115 (by decide) ?_
          refine lv_iload_n hx hb dX10_army_117 rfl (lv_at hl 0 rfl) ?_
          refine lv_iadd hx hb dX10_army_118 ?_
          refine top_i (y := nI (14 + k)) (nI_add _ _) ?_
          refine lv_iconst (v := nI 0) hx hb dX10_army_119 (by decide) ?_
          refine ast (f' := upd (upd (upd pq k (-9)) (7 + k) (-9)) (14 + k) (nI 0)) hx hb hK hP hD hS 2 0 rfl rfl (j := 14 + k) (by omega) (by omega) (rfl) dX10_army_120 (fun H locs hP hD hS => ?_)
          have hP : va_P G vwCl [(g 5, .inl (cI, 7, .inl (fun i9 => nI ((va_up kk k (kdA rr1_6 rd1_6 k)) i9)))), (g 7, .inl (cI, 175, .inl (fun i9 => nI (t i9)))), (g 12, .inl (cI, 50, .inl (upd (upd (upd pq k (-9)) (7 + k) (-9)) (14 + k) (nI 0)))), (g 19, .inl (cZ, 2, .inl (fun i9 => nI (zz i9)))), (g 0, .inr (10, [.int (nI 0), .ref (g 1), .int (nI ts), .int (nI p1_6), .int (nI rr1_6), .ref (g 5), .int (nI rs1_6), .ref (g 7), .int (nI rr1_6), .int (nI rs1_6), .ref (g 10), .ref (g 11), .ref (g 12), .long sd, .ref (g 14), .ref (g 15), .int (nI ac), .ref (g 17), .ref (g 18), .ref (g 19), .int (nI tc), .ref (g 21), .ref (g 22), .ref (g 23), .ref (g 24), .long td9, .ref (g 26), .ref (g 27), .ref (g 28), .ref (g 29), .ref (g 30)])), (g 1, .inl (cI, 64, .inl (fun i9 => nI (tx i9)))), (g 10, .inl (cI, 7, .inl (fun i9 => nI (rd1_6 i9)))), (g 11, .inl (cI, 175, .inl (fun i9 => nI (rt1_6 i9))))] _ := hP
          have hD : va_D A [(g 5, .inl (cI, 7, .inl (fun i9 => nI ((va_up kk k (kdA rr1_6 rd1_6 k)) i9)))), (g 7, .inl (cI, 175, .inl (fun i9 => nI (t i9)))), (g 12, .inl (cI, 50, .inl (upd (upd (upd pq k (-9)) (7 + k) (-9)) (14 + k) (nI 0)))), (g 19, .inl (cZ, 2, .inl (fun i9 => nI (zz i9)))), (g 0, .inr (10, [.int (nI 0), .ref (g 1), .int (nI ts), .int (nI p1_6), .int (nI rr1_6), .ref (g 5), .int (nI rs1_6), .ref (g 7), .int (nI rr1_6), .int (nI rs1_6), .ref (g 10), .ref (g 11), .ref (g 12), .long sd, .ref (g 14), .ref (g 15), .int (nI ac), .ref (g 17), .ref (g 18), .ref (g 19), .int (nI tc), .ref (g 21), .ref (g 22), .ref (g 23), .ref (g 24), .long td9, .ref (g 26), .ref (g 27), .ref (g 28), .ref (g 29), .ref (g 30)])), (g 1, .inl (cI, 64, .inl (fun i9 => nI (tx i9)))), (g 10, .inl (cI, 7, .inl (fun i9 => nI (rd1_6 i9)))), (g 11, .inl (cI, 175, .inl (fun i9 => nI (rt1_6 i9))))] := hD
          refine lv_aload_n hx hb dX10_army_121 rfl (lv_at hl 1 rfl) ?_
          refine va_get (D := G) (ci := 10) (v := .ref (g 12)) (C := RX10) (T := TX10) (N := 31) hx hb hts hin10 hown hK.1 hP 4 rfl rfl 12 (by decide) k_5 (fun _ h9 => h9) rfl dX10_army_122 ?_
          refine lv_bipush (v := nI 21) hx hb dX10_army_125 (by decide) ?_
          refine lv_iload_n hx hb dX10_army_127 rfl (lv_at hl 0 rfl) ?_
          refine lv_iadd hx hb dX10_army_128 ?_
          refine top_i (y := nI (21 + k)) (nI_add _ _) ?_
          refine lv_iconst (v := nI 0) hx hb dX10_army_129 (by decide) ?_
          refine ast (f' := upd (upd (upd (upd pq k (-9)) (7 + k) (-9)) (14 + k) (nI 0)) (21 + k) (nI 0)) hx hb hK hP hD hS 2 0 rfl rfl (j := 21 + k) (by omega) (by omega) (rfl) dX10_army_130 (fun H locs hP hD hS => ?_)
          have hP : va_P G vwCl [(g 5, .inl (cI, 7, .inl (fun i9 => nI ((va_up kk k (kdA rr1_6 rd1_6 k)) i9)))), (g 7, .inl (cI, 175, .inl (fun i9 => nI (t i9)))), (g 12, .inl (cI, 50, .inl (upd (upd (upd (upd pq k (-9)) (7 + k) (-9)) (14 + k) (nI 0)) (21 + k) (nI 0)))), (g 19, .inl (cZ, 2, .inl (fun i9 => nI (zz i9)))), (g 0, .inr (10, [.int (nI 0), .ref (g 1), .int (nI ts), .int (nI p1_6), .int (nI rr1_6), .ref (g 5), .int (nI rs1_6), .ref (g 7), .int (nI rr1_6), .int (nI rs1_6), .ref (g 10), .ref (g 11), .ref (g 12), .long sd, .ref (g 14), .ref (g 15), .int (nI ac), .ref (g 17), .ref (g 18), .ref (g 19), .int (nI tc), .ref (g 21), .ref (g 22), .ref (g 23), .ref (g 24), .long td9, .ref (g 26), .ref (g 27), .ref (g 28), .ref (g 29), .ref (g 30)])), (g 1, .inl (cI, 64, .inl (fun i9 => nI (tx i9)))), (g 10, .inl (cI, 7, .inl (fun i9 => nI (rd1_6 i9)))), (g 11, .inl (cI, 175, .inl (fun i9 => nI (rt1_6 i9))))] _ := hP
          have hD : va_D A [(g 5, .inl (cI, 7, .inl (fun i9 => nI ((va_up kk k (kdA rr1_6 rd1_6 k)) i9)))), (g 7, .inl (cI, 175, .inl (fun i9 => nI (t i9)))), (g 12, .inl (cI, 50, .inl (upd (upd (upd (upd pq k (-9)) (7 + k) (-9)) (14 + k) (nI 0)) (21 + k) (nI 0)))), (g 19, .inl (cZ, 2, .inl (fun i9 => nI (zz i9)))), (g 0, .inr (10, [.int (nI 0), .ref (g 1), .int (nI ts), .int (nI p1_6), .int (nI rr1_6), .ref (g 5), .int (nI rs1_6), .ref (g 7), .int (nI rr1_6), .int (nI rs1_6), .ref (g 10), .ref (g 11), .ref (g 12), .long sd, .ref (g 14), .ref (g 15), .int (nI ac), .ref (g 17), .ref (g 18), .ref (g 19), .int (nI tc), .ref (g 21), .ref (g 22), .ref (g 23), .ref (g 24), .long td9, .ref (g 26), .ref (g 27), .ref (g 28), .ref (g 29), .ref (g 30)])), (g 1, .inl (cI, 64, .inl (fun i9 => nI (tx i9)))), (g 10, .inl (cI, 7, .inl (fun i9 => nI (rd1_6 i9)))), (g 11, .inl (cI, 175, .inl (fun i9 => nI (rt1_6 i9))))] := hD
          refine lv_aload_n hx hb dX10_army_131 rfl (lv_at hl 1 rfl) ?_
          refine va_get (D := G) (ci := 10) (v := .ref (g 12)) (C := RX10) (T := TX10) (N := 31) hx hb hts hin10 hown hK.1 hP 4 rfl rfl 12 (by decide) k_5 (fun _ h9 => h9) rfl dX10_army_132 ?_
          refine lv_bipush (v := nI 28) hx hb dX10_army_135 (by decide) ?_
          refine lv_iload_n hx hb dX10_army_137 rfl (lv_at hl 0 rfl) ?_
          refine lv_iadd hx hb dX10_army_138 ?_
          refine top_i (y := nI (28 + k)) (nI_add _ _) ?_
          refine lv_iconst (v := nI 0) hx hb dX10_army_139 (by decide) ?_
          refine ast (f' := upd (upd (upd (upd (upd pq k (-9)) (7 + k) (-9)) (14 + k) (nI 0)) (21 + k) (nI 0)) (28 + k) (nI 0)) hx hb hK hP hD hS 2 0 rfl rfl (j := 28 + k) (by omega) (by omega) (rfl) dX10_army_140 (fun H locs hP hD hS => ?_)
          have hP : va_P G vwCl [(g 5, .inl (cI, 7, .inl (fun i9 => nI ((va_up kk k (kdA rr1_6 rd1_6 k)) i9)))), (g 7, .inl (cI, 175, .inl (fun i9 => nI (t i9)))), (g 12, .inl (cI, 50, .inl (upd (upd (upd (upd (upd pq k (-9)) (7 + k) (-9)) (14 + k) (nI 0)) (21 + k) (nI 0)) (28 + k) (nI 0)))), (g 19, .inl (cZ, 2, .inl (fun i9 => nI (zz i9)))), (g 0, .inr (10, [.int (nI 0), .ref (g 1), .int (nI ts), .int (nI p1_6), .int (nI rr1_6), .ref (g 5), .int (nI rs1_6), .ref (g 7), .int (nI rr1_6), .int (nI rs1_6), .ref (g 10), .ref (g 11), .ref (g 12), .long sd, .ref (g 14), .ref (g 15), .int (nI ac), .ref (g 17), .ref (g 18), .ref (g 19), .int (nI tc), .ref (g 21), .ref (g 22), .ref (g 23), .ref (g 24), .long td9, .ref (g 26), .ref (g 27), .ref (g 28), .ref (g 29), .ref (g 30)])), (g 1, .inl (cI, 64, .inl (fun i9 => nI (tx i9)))), (g 10, .inl (cI, 7, .inl (fun i9 => nI (rd1_6 i9)))), (g 11, .inl (cI, 175, .inl (fun i9 => nI (rt1_6 i9))))] _ := hP
          have hD : va_D A [(g 5, .inl (cI, 7, .inl (fun i9 => nI ((va_up kk k (kdA rr1_6 rd1_6 k)) i9)))), (g 7, .inl (cI, 175, .inl (fun i9 => nI (t i9)))), (g 12, .inl (cI, 50, .inl (upd (upd (upd (upd (upd pq k (-9)) (7 + k) (-9)) (14 + k) (nI 0)) (21 + k) (nI 0)) (28 + k) (nI 0)))), (g 19, .inl (cZ, 2, .inl (fun i9 => nI (zz i9)))), (g 0, .inr (10, [.int (nI 0), .ref (g 1), .int (nI ts), .int (nI p1_6), .int (nI rr1_6), .ref (g 5), .int (nI rs1_6), .ref (g 7), .int (nI rr1_6), .int (nI rs1_6), .ref (g 10), .ref (g 11), .ref (g 12), .long sd, .ref (g 14), .ref (g 15), .int (nI ac), .ref (g 17), .ref (g 18), .ref (g 19), .int (nI tc), .ref (g 21), .ref (g 22), .ref (g 23), .ref (g 24), .long td9, .ref (g 26), .ref (g 27), .ref (g 28), .ref (g 29), .ref (g 30)])), (g 1, .inl (cI, 64, .inl (fun i9 => nI (tx i9)))), (g 10, .inl (cI, 7, .inl (fun i9 => nI (rd1_6 i9)))), (g 11, .inl (cI, 175, .inl (fun i9 => nI (rt1_6 i9))))] := hD
          refine lv_aload_n hx hb dX10_army_141 rfl (lv_at hl 1 rfl) ?_
          refine va_get (D := G) (ci := 10) (v := .ref (g 12)) (C := RX10) (T := TX10) (N := 31) hx hb hts hin10 hown hK.1 hP 4 rfl rfl 12 (by decide) k_5 (fun _ h9 => h9) rfl dX10_army_142 ?_
          refine lv_bipush (v := nI 35) hx hb dX10_army_145 (by decide) ?_
          refine lv_iload_n hx hb dX10_army_147 rfl (lv_at hl 0 rfl) ?_
          refine lv_iadd hx hb dX10_army_148 ?_
          refine top_i (y := nI (35 + k)) (nI_add _ _) ?_
          refine lv_bipush (v := (-9)) hx hb dX10_army_149 (by decide) ?_
          refine ast (f' := upd (upd (upd (upd (upd (upd pq k (-9)) (7 + k) (-9)) (14 + k) (nI 0)) (21 + k) (nI 0)) (28 + k) (nI 0)) (35 + k) (-9)) hx hb hK hP hD hS 2 0 rfl rfl (j := 35 + k) (by omega) (by omega) (rfl) dX10_army_151 (fun H locs hP hD hS => ?_)
          have hP : va_P G vwCl [(g 5, .inl (cI, 7, .inl (fun i9 => nI ((va_up kk k (kdA rr1_6 rd1_6 k)) i9)))), (g 7, .inl (cI, 175, .inl (fun i9 => nI (t i9)))), (g 12, .inl (cI, 50, .inl (upd (upd (upd (upd (upd (upd pq k (-9)) (7 + k) (-9)) (14 + k) (nI 0)) (21 + k) (nI 0)) (28 + k) (nI 0)) (35 + k) (-9)))), (g 19, .inl (cZ, 2, .inl (fun i9 => nI (zz i9)))), (g 0, .inr (10, [.int (nI 0), .ref (g 1), .int (nI ts), .int (nI p1_6), .int (nI rr1_6), .ref (g 5), .int (nI rs1_6), .ref (g 7), .int (nI rr1_6), .int (nI rs1_6), .ref (g 10), .ref (g 11), .ref (g 12), .long sd, .ref (g 14), .ref (g 15), .int (nI ac), .ref (g 17), .ref (g 18), .ref (g 19), .int (nI tc), .ref (g 21), .ref (g 22), .ref (g 23), .ref (g 24), .long td9, .ref (g 26), .ref (g 27), .ref (g 28), .ref (g 29), .ref (g 30)])), (g 1, .inl (cI, 64, .inl (fun i9 => nI (tx i9)))), (g 10, .inl (cI, 7, .inl (fun i9 => nI (rd1_6 i9)))), (g 11, .inl (cI, 175, .inl (fun i9 => nI (rt1_6 i9))))] _ := hP
          have hD : va_D A [(g 5, .inl (cI, 7, .inl (fun i9 => nI ((va_up kk k (kdA rr1_6 rd1_6 k)) i9)))), (g 7, .inl (cI, 175, .inl (fun i9 => nI (t i9)))), (g 12, .inl (cI, 50, .inl (upd (upd (upd (upd (upd (upd pq k (-9)) (7 + k) (-9)) (14 + k) (nI 0)) (21 + k) (nI 0)) (28 + k) (nI 0)) (35 + k) (-9)))), (g 19, .inl (cZ, 2, .inl (fun i9 => nI (zz i9)))), (g 0, .inr (10, [.int (nI 0), .ref (g 1), .int (nI ts), .int (nI p1_6), .int (nI rr1_6), .ref (g 5), .int (nI rs1_6), .ref (g 7), .int (nI rr1_6), .int (nI rs1_6), .ref (g 10), .ref (g 11), .ref (g 12), .long sd, .ref (g 14), .ref (g 15), .int (nI ac), .ref (g 17), .ref (g 18), .ref (g 19), .int (nI tc), .ref (g 21), .ref (g 22), .ref (g 23), .ref (g 24), .long td9, .ref (g 26), .ref (g 27), .ref (g 28), .ref (g 29), .ref (g 30)])), (g 1, .inl (cI, 64, .inl (fun i9 => nI (tx i9)))), (g 10, .inl (cI, 7, .inl (fun i9 => nI (rd1_6 i9)))), (g 11, .inl (cI, 175, .inl (fun i9 => nI (rt1_6 i9))))] := hD
          refine lv_aload_n hx hb dX10_army_152 rfl (lv_at hl 1 rfl) ?_
          refine va_get (D := G) (ci := 10) (v := .ref (g 12)) (C := RX10) (T := TX10) (N := 31) hx hb hts hin10 hown hK.1 hP 4 rfl rfl 12 (by decide) k_5 (fun _ h9 => h9) rfl dX10_army_153 ?_
          refine lv_bipush (v := nI 42) hx hb dX10_army_156 (by decide) ?_
          refine lv_iload_n hx hb dX10_army_158 rfl (lv_at hl 0 rfl) ?_
          refine lv_iadd hx hb dX10_army_159 ?_
          refine top_i (y := nI (42 + k)) (nI_add _ _) ?_
          refine lv_iload_n hx hb dX10_army_160 rfl (lv_at hl 0 rfl) ?_
          refine lv_aload_n hx hb dX10_army_161 rfl (lv_at hl 1 rfl) ?_
          refine va_get (D := G) (ci := 10) (v := .int (nI rr1_6)) (C := RX10) (T := TX10) (N := 31) hx hb hts hin10 hown hK.1 hP 4 rfl rfl 4 (by decide) k_2 (fun _ h9 => h9) rfl dX10_army_162 ?_
          refine lv_icmp_ge (tgt := 182) hx hb dX10_army_165 (by decide) (fun c_165 => ?_) (fun c_165 => ?_)
          · skip
            have c_165 := n_geT c_165 (by omega) (by omega)
            refine lv_iconst (v := nI 0) hx hb dX10_army_182 (by decide) ?_
            refine top_i (y := nI (slA rr1_6 rd1_6 k)) (by rw [slA, if_neg (by omega)]) ?_
            refine ast (f' := upd (upd (upd (upd (upd (upd (upd pq k (-9)) (7 + k) (-9)) (14 + k) (nI 0)) (21 + k) (nI 0)) (28 + k) (nI 0)) (35 + k) (-9)) (42 + k) (nI (slA rr1_6 rd1_6 k))) hx hb hK hP hD hS 2 0 rfl rfl (j := 42 + k) (by omega) (by omega) (rfl) dX10_army_183 (fun H locs hP hD hS => ?_)
            have hP : va_P G vwCl [(g 5, .inl (cI, 7, .inl (fun i9 => nI ((va_up kk k (kdA rr1_6 rd1_6 k)) i9)))), (g 7, .inl (cI, 175, .inl (fun i9 => nI (t i9)))), (g 12, .inl (cI, 50, .inl (upd (upd (upd (upd (upd (upd (upd pq k (-9)) (7 + k) (-9)) (14 + k) (nI 0)) (21 + k) (nI 0)) (28 + k) (nI 0)) (35 + k) (-9)) (42 + k) (nI (slA rr1_6 rd1_6 k))))), (g 19, .inl (cZ, 2, .inl (fun i9 => nI (zz i9)))), (g 0, .inr (10, [.int (nI 0), .ref (g 1), .int (nI ts), .int (nI p1_6), .int (nI rr1_6), .ref (g 5), .int (nI rs1_6), .ref (g 7), .int (nI rr1_6), .int (nI rs1_6), .ref (g 10), .ref (g 11), .ref (g 12), .long sd, .ref (g 14), .ref (g 15), .int (nI ac), .ref (g 17), .ref (g 18), .ref (g 19), .int (nI tc), .ref (g 21), .ref (g 22), .ref (g 23), .ref (g 24), .long td9, .ref (g 26), .ref (g 27), .ref (g 28), .ref (g 29), .ref (g 30)])), (g 1, .inl (cI, 64, .inl (fun i9 => nI (tx i9)))), (g 10, .inl (cI, 7, .inl (fun i9 => nI (rd1_6 i9)))), (g 11, .inl (cI, 175, .inl (fun i9 => nI (rt1_6 i9))))] _ := hP
            have hD : va_D A [(g 5, .inl (cI, 7, .inl (fun i9 => nI ((va_up kk k (kdA rr1_6 rd1_6 k)) i9)))), (g 7, .inl (cI, 175, .inl (fun i9 => nI (t i9)))), (g 12, .inl (cI, 50, .inl (upd (upd (upd (upd (upd (upd (upd pq k (-9)) (7 + k) (-9)) (14 + k) (nI 0)) (21 + k) (nI 0)) (28 + k) (nI 0)) (35 + k) (-9)) (42 + k) (nI (slA rr1_6 rd1_6 k))))), (g 19, .inl (cZ, 2, .inl (fun i9 => nI (zz i9)))), (g 0, .inr (10, [.int (nI 0), .ref (g 1), .int (nI ts), .int (nI p1_6), .int (nI rr1_6), .ref (g 5), .int (nI rs1_6), .ref (g 7), .int (nI rr1_6), .int (nI rs1_6), .ref (g 10), .ref (g 11), .ref (g 12), .long sd, .ref (g 14), .ref (g 15), .int (nI ac), .ref (g 17), .ref (g 18), .ref (g 19), .int (nI tc), .ref (g 21), .ref (g 22), .ref (g 23), .ref (g 24), .long td9, .ref (g 26), .ref (g 27), .ref (g 28), .ref (g 29), .ref (g 30)])), (g 1, .inl (cI, 64, .inl (fun i9 => nI (tx i9)))), (g 10, .inl (cI, 7, .inl (fun i9 => nI (rd1_6 i9)))), (g 11, .inl (cI, 175, .inl (fun i9 => nI (rt1_6 i9))))] := hD
            refine lv_iinc (v := nI (k + 1)) (lv' := [(1, .int (nI (k + 1))), (0, .ref (g 0))]) hx hb dX10_army_184 hl (k := 0) rfl (nI_inc _ 1 1 (by decide)) (by decide) rfl (fun ls hl => ?_)
            refine lv_goto (tgt := 62) hx hb dX10_army_187 (by decide) ?_
            exact ih_62 (k + 1, va_up kk k (kdA rr1_6 rd1_6 k), upd (upd (upd (upd (upd (upd (upd pq k (-9)) (7 + k) (-9)) (14 + k) (nI 0)) (21 + k) (nI 0)) (28 + k) (nI 0)) (35 + k) (-9)) (42 + k) (nI (slA rr1_6 rd1_6 k))) _ _ _ (by first | omega | (simp only []; omega) | (show _ < _; omega)) ⟨by first | assumption | omega | (simp; done), fun j hj => by by_cases e : j = k; (rw [e, va_up_self]); rw [va_up_ne _ _ e]; exact hkk j (by omega), PgI_s hpq (by omega), hP.sub [0, 1, 2, 3, 4, 5, 6, 7] rfl, hD.sub [0, 1, 2, 3, 4, 5, 6, 7] (by decide) rfl, hS, lv_sub hl [0, 1] rfl⟩
          · skip
            have c_165 := n_geF c_165 (by omega) (by omega)
            refine lv_aload_n hx hb dX10_army_168 rfl (lv_at hl 1 rfl) ?_
            refine va_get (D := G) (ci := 10) (v := .ref (g 5)) (C := RX10) (T := TX10) (N := 31) hx hb hts hin10 hown hK.1 hP 4 rfl rfl 5 (by decide) k_8 (fun _ h9 => h9) rfl dX10_army_169 ?_
            refine lv_iload_n hx hb dX10_army_172 rfl (lv_at hl 0 rfl) ?_
            refine ald hx hb hK hP 0 0 rfl rfl (j := k) (by omega) (by omega) dX10_army_173 ?_
            refine top_i (y := nI (rd1_6 k)) (by rw [va_up_self, kdA, if_pos (by omega)]) ?_
            have hk4 : rd1_6 k < 4 := by rw [hm3 k (by omega)]; exact hri.2.2.2.2.2.2.2.2.2.2 k (by omega)
            refine lv_iconst (v := nI 3) hx hb dX10_army_174 (by decide) ?_
            refine lv_icmp_ne (tgt := 182) hx hb dX10_army_175 (by decide) (fun c_175 => ?_) (fun c_175 => ?_)
            · skip
              have c_175 := n_neT c_175 (by omega) (by omega)
              refine lv_iconst (v := nI 0) hx hb dX10_army_182 (by decide) ?_
              refine top_i (y := nI (slA rr1_6 rd1_6 k)) (by rw [slA, if_neg (by omega)]) ?_
              refine ast (f' := upd (upd (upd (upd (upd (upd (upd pq k (-9)) (7 + k) (-9)) (14 + k) (nI 0)) (21 + k) (nI 0)) (28 + k) (nI 0)) (35 + k) (-9)) (42 + k) (nI (slA rr1_6 rd1_6 k))) hx hb hK hP hD hS 2 0 rfl rfl (j := 42 + k) (by omega) (by omega) (rfl) dX10_army_183 (fun H locs hP hD hS => ?_)
              have hP : va_P G vwCl [(g 5, .inl (cI, 7, .inl (fun i9 => nI ((va_up kk k (kdA rr1_6 rd1_6 k)) i9)))), (g 7, .inl (cI, 175, .inl (fun i9 => nI (t i9)))), (g 12, .inl (cI, 50, .inl (upd (upd (upd (upd (upd (upd (upd pq k (-9)) (7 + k) (-9)) (14 + k) (nI 0)) (21 + k) (nI 0)) (28 + k) (nI 0)) (35 + k) (-9)) (42 + k) (nI (slA rr1_6 rd1_6 k))))), (g 19, .inl (cZ, 2, .inl (fun i9 => nI (zz i9)))), (g 0, .inr (10, [.int (nI 0), .ref (g 1), .int (nI ts), .int (nI p1_6), .int (nI rr1_6), .ref (g 5), .int (nI rs1_6), .ref (g 7), .int (nI rr1_6), .int (nI rs1_6), .ref (g 10), .ref (g 11), .ref (g 12), .long sd, .ref (g 14), .ref (g 15), .int (nI ac), .ref (g 17), .ref (g 18), .ref (g 19), .int (nI tc), .ref (g 21), .ref (g 22), .ref (g 23), .ref (g 24), .long td9, .ref (g 26), .ref (g 27), .ref (g 28), .ref (g 29), .ref (g 30)])), (g 1, .inl (cI, 64, .inl (fun i9 => nI (tx i9)))), (g 10, .inl (cI, 7, .inl (fun i9 => nI (rd1_6 i9)))), (g 11, .inl (cI, 175, .inl (fun i9 => nI (rt1_6 i9))))] _ := hP
              have hD : va_D A [(g 5, .inl (cI, 7, .inl (fun i9 => nI ((va_up kk k (kdA rr1_6 rd1_6 k)) i9)))), (g 7, .inl (cI, 175, .inl (fun i9 => nI (t i9)))), (g 12, .inl (cI, 50, .inl (upd (upd (upd (upd (upd (upd (upd pq k (-9)) (7 + k) (-9)) (14 + k) (nI 0)) (21 + k) (nI 0)) (28 + k) (nI 0)) (35 + k) (-9)) (42 + k) (nI (slA rr1_6 rd1_6 k))))), (g 19, .inl (cZ, 2, .inl (fun i9 => nI (zz i9)))), (g 0, .inr (10, [.int (nI 0), .ref (g 1), .int (nI ts), .int (nI p1_6), .int (nI rr1_6), .ref (g 5), .int (nI rs1_6), .ref (g 7), .int (nI rr1_6), .int (nI rs1_6), .ref (g 10), .ref (g 11), .ref (g 12), .long sd, .ref (g 14), .ref (g 15), .int (nI ac), .ref (g 17), .ref (g 18), .ref (g 19), .int (nI tc), .ref (g 21), .ref (g 22), .ref (g 23), .ref (g 24), .long td9, .ref (g 26), .ref (g 27), .ref (g 28), .ref (g 29), .ref (g 30)])), (g 1, .inl (cI, 64, .inl (fun i9 => nI (tx i9)))), (g 10, .inl (cI, 7, .inl (fun i9 => nI (rd1_6 i9)))), (g 11, .inl (cI, 175, .inl (fun i9 => nI (rt1_6 i9))))] := hD
              refine lv_iinc (v := nI (k + 1)) (lv' := [(1, .int (nI (k + 1))), (0, .ref (g 0))]) hx hb dX10_army_184 hl (k := 0) rfl (nI_inc _ 1 1 (by decide)) (by decide) rfl (fun ls hl => ?_)
              refine lv_goto (tgt := 62) hx hb dX10_army_187 (by decide) ?_
              exact ih_62 (k + 1, va_up kk k (kdA rr1_6 rd1_6 k), upd (upd (upd (upd (upd (upd (upd pq k (-9)) (7 + k) (-9)) (14 + k) (nI 0)) (21 + k) (nI 0)) (28 + k) (nI 0)) (35 + k) (-9)) (42 + k) (nI (slA rr1_6 rd1_6 k))) _ _ _ (by first | omega | (simp only []; omega) | (show _ < _; omega)) ⟨by first | assumption | omega | (simp; done), fun j hj => by by_cases e : j = k; (rw [e, va_up_self]); rw [va_up_ne _ _ e]; exact hkk j (by omega), PgI_s hpq (by omega), hP.sub [0, 1, 2, 3, 4, 5, 6, 7] rfl, hD.sub [0, 1, 2, 3, 4, 5, 6, 7] (by decide) rfl, hS, lv_sub hl [0, 1] rfl⟩
            · skip
              have c_175 := n_neF c_175 (by omega) (by omega)
              refine lv_iconst (v := nI 1) hx hb dX10_army_178 (by decide) ?_
              refine lv_goto (tgt := 183) hx hb dX10_army_179 (by decide) ?_
              refine top_i (y := nI (slA rr1_6 rd1_6 k)) (by rw [slA, if_pos ⟨by omega, by omega⟩]) ?_
              refine ast (f' := upd (upd (upd (upd (upd (upd (upd pq k (-9)) (7 + k) (-9)) (14 + k) (nI 0)) (21 + k) (nI 0)) (28 + k) (nI 0)) (35 + k) (-9)) (42 + k) (nI (slA rr1_6 rd1_6 k))) hx hb hK hP hD hS 2 0 rfl rfl (j := 42 + k) (by omega) (by omega) (rfl) dX10_army_183 (fun H locs hP hD hS => ?_)
              have hP : va_P G vwCl [(g 5, .inl (cI, 7, .inl (fun i9 => nI ((va_up kk k (kdA rr1_6 rd1_6 k)) i9)))), (g 7, .inl (cI, 175, .inl (fun i9 => nI (t i9)))), (g 12, .inl (cI, 50, .inl (upd (upd (upd (upd (upd (upd (upd pq k (-9)) (7 + k) (-9)) (14 + k) (nI 0)) (21 + k) (nI 0)) (28 + k) (nI 0)) (35 + k) (-9)) (42 + k) (nI (slA rr1_6 rd1_6 k))))), (g 19, .inl (cZ, 2, .inl (fun i9 => nI (zz i9)))), (g 0, .inr (10, [.int (nI 0), .ref (g 1), .int (nI ts), .int (nI p1_6), .int (nI rr1_6), .ref (g 5), .int (nI rs1_6), .ref (g 7), .int (nI rr1_6), .int (nI rs1_6), .ref (g 10), .ref (g 11), .ref (g 12), .long sd, .ref (g 14), .ref (g 15), .int (nI ac), .ref (g 17), .ref (g 18), .ref (g 19), .int (nI tc), .ref (g 21), .ref (g 22), .ref (g 23), .ref (g 24), .long td9, .ref (g 26), .ref (g 27), .ref (g 28), .ref (g 29), .ref (g 30)])), (g 1, .inl (cI, 64, .inl (fun i9 => nI (tx i9)))), (g 10, .inl (cI, 7, .inl (fun i9 => nI (rd1_6 i9)))), (g 11, .inl (cI, 175, .inl (fun i9 => nI (rt1_6 i9))))] _ := hP
              have hD : va_D A [(g 5, .inl (cI, 7, .inl (fun i9 => nI ((va_up kk k (kdA rr1_6 rd1_6 k)) i9)))), (g 7, .inl (cI, 175, .inl (fun i9 => nI (t i9)))), (g 12, .inl (cI, 50, .inl (upd (upd (upd (upd (upd (upd (upd pq k (-9)) (7 + k) (-9)) (14 + k) (nI 0)) (21 + k) (nI 0)) (28 + k) (nI 0)) (35 + k) (-9)) (42 + k) (nI (slA rr1_6 rd1_6 k))))), (g 19, .inl (cZ, 2, .inl (fun i9 => nI (zz i9)))), (g 0, .inr (10, [.int (nI 0), .ref (g 1), .int (nI ts), .int (nI p1_6), .int (nI rr1_6), .ref (g 5), .int (nI rs1_6), .ref (g 7), .int (nI rr1_6), .int (nI rs1_6), .ref (g 10), .ref (g 11), .ref (g 12), .long sd, .ref (g 14), .ref (g 15), .int (nI ac), .ref (g 17), .ref (g 18), .ref (g 19), .int (nI tc), .ref (g 21), .ref (g 22), .ref (g 23), .ref (g 24), .long td9, .ref (g 26), .ref (g 27), .ref (g 28), .ref (g 29), .ref (g 30)])), (g 1, .inl (cI, 64, .inl (fun i9 => nI (tx i9)))), (g 10, .inl (cI, 7, .inl (fun i9 => nI (rd1_6 i9)))), (g 11, .inl (cI, 175, .inl (fun i9 => nI (rt1_6 i9))))] := hD
              refine lv_iinc (v := nI (k + 1)) (lv' := [(1, .int (nI (k + 1))), (0, .ref (g 0))]) hx hb dX10_army_184 hl (k := 0) rfl (nI_inc _ 1 1 (by decide)) (by decide) rfl (fun ls hl => ?_)
              refine lv_goto (tgt := 62) hx hb dX10_army_187 (by decide) ?_
              exact ih_62 (k + 1, va_up kk k (kdA rr1_6 rd1_6 k), upd (upd (upd (upd (upd (upd (upd pq k (-9)) (7 + k) (-9)) (14 + k) (nI 0)) (21 + k) (nI 0)) (28 + k) (nI 0)) (35 + k) (-9)) (42 + k) (nI (slA rr1_6 rd1_6 k))) _ _ _ (by first | omega | (simp only []; omega) | (show _ < _; omega)) ⟨by first | assumption | omega | (simp; done), fun j hj => by by_cases e : j = k; (rw [e, va_up_self]); rw [va_up_ne _ _ e]; exact hkk j (by omega), PgI_s hpq (by omega), hP.sub [0, 1, 2, 3, 4, 5, 6, 7] rfl, hD.sub [0, 1, 2, 3, 4, 5, 6, 7] (by decide) rfl, hS, lv_sub hl [0, 1] rfl⟩
    · skip
      have c_39 := n_geF c_39 (by omega) (by omega)
      refine lv_aload_n hx hb dX10_army_42 rfl (lv_at hl 1 rfl) ?_
      refine va_get (D := G) (ci := 10) (v := .ref (g 7)) (C := RX10) (T := TX10) (N := 31) hx hb hts hin10 hown hK.1 hP 4 rfl rfl 7 (by decide) k_10 (fun _ h9 => h9) rfl dX10_army_43 ?_
      refine lv_iload_n hx hb dX10_army_46 rfl (lv_at hl 0 rfl) ?_
      refine lv_aload_n hx hb dX10_army_47 rfl (lv_at hl 1 rfl) ?_
      refine va_get (D := G) (ci := 10) (v := .ref (g 11)) (C := RX10) (T := TX10) (N := 31) hx hb hts hin10 hown hK.1 hP 4 rfl rfl 11 (by decide) k_11 (fun _ h9 => h9) rfl dX10_army_48 ?_
      refine lv_iload_n hx hb dX10_army_51 rfl (lv_at hl 0 rfl) ?_
      refine ald hx hb hK hP 7 0 rfl rfl (j := i) (by omega) (by omega) dX10_army_52 ?_
      refine ast (f' := fun i9 => nI ((va_up t i (rt1_6 i)) i9)) hx hb hK hP hD hS 1 0 rfl rfl (j := i) (by omega) (by omega) (upd_nat) dX10_army_53 (fun H locs hP hD hS => ?_)
      have hP : va_P G vwCl [(g 5, .inl (cI, 7, .inl (fun i9 => nI (kd i9)))), (g 7, .inl (cI, 175, .inl (fun i9 => nI ((va_up t i (rt1_6 i)) i9)))), (g 12, .inl (cI, 50, .inl pg)), (g 19, .inl (cZ, 2, .inl (fun i9 => nI (zz i9)))), (g 0, .inr (10, [.int (nI 0), .ref (g 1), .int (nI ts), .int (nI p1_6), .int (nI rr1_6), .ref (g 5), .int (nI rs1_6), .ref (g 7), .int (nI rr1_6), .int (nI rs1_6), .ref (g 10), .ref (g 11), .ref (g 12), .long sd, .ref (g 14), .ref (g 15), .int (nI ac), .ref (g 17), .ref (g 18), .ref (g 19), .int (nI tc), .ref (g 21), .ref (g 22), .ref (g 23), .ref (g 24), .long td9, .ref (g 26), .ref (g 27), .ref (g 28), .ref (g 29), .ref (g 30)])), (g 1, .inl (cI, 64, .inl (fun i9 => nI (tx i9)))), (g 10, .inl (cI, 7, .inl (fun i9 => nI (rd1_6 i9)))), (g 11, .inl (cI, 175, .inl (fun i9 => nI (rt1_6 i9))))] _ := hP
      have hD : va_D A [(g 5, .inl (cI, 7, .inl (fun i9 => nI (kd i9)))), (g 7, .inl (cI, 175, .inl (fun i9 => nI ((va_up t i (rt1_6 i)) i9)))), (g 12, .inl (cI, 50, .inl pg)), (g 19, .inl (cZ, 2, .inl (fun i9 => nI (zz i9)))), (g 0, .inr (10, [.int (nI 0), .ref (g 1), .int (nI ts), .int (nI p1_6), .int (nI rr1_6), .ref (g 5), .int (nI rs1_6), .ref (g 7), .int (nI rr1_6), .int (nI rs1_6), .ref (g 10), .ref (g 11), .ref (g 12), .long sd, .ref (g 14), .ref (g 15), .int (nI ac), .ref (g 17), .ref (g 18), .ref (g 19), .int (nI tc), .ref (g 21), .ref (g 22), .ref (g 23), .ref (g 24), .long td9, .ref (g 26), .ref (g 27), .ref (g 28), .ref (g 29), .ref (g 30)])), (g 1, .inl (cI, 64, .inl (fun i9 => nI (tx i9)))), (g 10, .inl (cI, 7, .inl (fun i9 => nI (rd1_6 i9)))), (g 11, .inl (cI, 175, .inl (fun i9 => nI (rt1_6 i9))))] := hD
      refine lv_iinc (v := nI (i + 1)) (lv' := [(1, .int (nI (i + 1))), (0, .ref (g 0))]) hx hb dX10_army_54 hl (k := 0) rfl (nI_inc _ 1 1 (by decide)) (by decide) rfl (fun ls hl => ?_)
      refine lv_goto (tgt := 35) hx hb dX10_army_57 (by decide) ?_
      exact ih_35 (i + 1, va_up t i (rt1_6 i)) _ _ _ (by first | omega | (simp only []; omega) | (show _ < _; omega)) ⟨by first | assumption | omega | (simp; done), fun j hj => by by_cases e : j = i; (rw [e, va_up_self]); rw [va_up_ne _ _ e]; exact ht j (by omega), hP.sub [0, 1, 2, 3, 4, 5, 6, 7] rfl, hD.sub [0, 1, 2, 3, 4, 5, 6, 7] (by decide) rfl, hS, lv_sub hl [0, 1] rfl⟩
  · skip
    refine lv_bipush (v := (-3)) hx hb dX10_army_14 (by decide) ?_
    exact endI hx hb hr hlocks ((p1_6, rr1_6, rs1_6, rd1_6, rt1_6, rk, sl, kd, tn, pg, ac, zz)) (⟨r_6, hf6, Or.inl ⟨c_11, rfl, rfl, rfl, rfl, rfl, rfl, rfl, rfl⟩⟩) (hP.sub [4, 5, 6, 7, 0, 1, 2, 3] rfl) (hD.sub [4, 5, 6, 7, 0, 1, 2, 3] (by decide) rfl) hS dX10_army_16

set_option maxHeartbeats 4000000 in
set_option maxRecDepth 100000 in
theorem c_X10_about {l : Launch} {G : va_G} {cI cJ cZ cS : ClassId} (g : Nat → Nat) (ts : Nat) (pl : Nat) (rk : Nat) (sl : Nat) (rr : Nat) (rs : Nat) (ac : Nat) (tc : Nat) (sd : Int64) (td9 : Int64) (pg : Nat → Int32) (q : Int32) (hrk : rk < 8) (hz : ∀ j, j < rk → vOf pg 6 j = nI 0 ∨ vOf pg 6 j = nI 1) : CI l G (kT cI cJ cZ cS) (S := Unit) yX10_about wsX10_about { frames := 0, cells := 0, slots := 0, locals := 0 } [.ref (g 0), .int q] [(g 0, .inr (10, [.int (nI 0), .ref (g 1), .int (nI ts), .int (nI pl), .int (nI rk), .ref (g 5), .int (nI sl), .ref (g 7), .int (nI rr), .int (nI rs), .ref (g 10), .ref (g 11), .ref (g 12), .long sd, .ref (g 14), .ref (g 15), .int (nI ac), .ref (g 17), .ref (g 18), .ref (g 19), .int (nI tc), .ref (g 21), .ref (g 22), .ref (g 23), .ref (g 24), .long td9, .ref (g 26), .ref (g 27), .ref (g 28), .ref (g 29), .ref (g 30)])), (g 12, .inl (cI, 50, .inl pg))] (fun res _ => res = abI q rk sl (pg 49) (slpI (vOf pg) rk) (hrsI (vOf pg) rk) ac tc ts) (fun _ => [(g 0, .inr (10, [.int (nI 0), .ref (g 1), .int (nI ts), .int (nI pl), .int (nI rk), .ref (g 5), .int (nI sl), .ref (g 7), .int (nI rr), .int (nI rs), .ref (g 10), .ref (g 11), .ref (g 12), .long sd, .ref (g 14), .ref (g 15), .int (nI ac), .ref (g 17), .ref (g 18), .ref (g 19), .int (nI tc), .ref (g 21), .ref (g 22), .ref (g 23), .ref (g 24), .long td9, .ref (g 26), .ref (g 27), .ref (g 28), .ref (g 29), .ref (g 30)])), (g 12, .inl (cI, 50, .inl pg))]) := by
  refine CI.of (cc := cX10_about) (maxL := 5) (by decide) rfl (Nat.le_of_ble_eq_true rfl) ?_
  intro p9 e9 s m below meth co9 A ls hB
  obtain ⟨hx, hb, hml, hr, hts, hown, hlocks, hmn, hK, hP, hD, hS, hA, hl⟩ := hB
  have hP : va_P G vwCl [(g 0, .inr (10, [.int (nI 0), .ref (g 1), .int (nI ts), .int (nI pl), .int (nI rk), .ref (g 5), .int (nI sl), .ref (g 7), .int (nI rr), .int (nI rs), .ref (g 10), .ref (g 11), .ref (g 12), .long sd, .ref (g 14), .ref (g 15), .int (nI ac), .ref (g 17), .ref (g 18), .ref (g 19), .int (nI tc), .ref (g 21), .ref (g 22), .ref (g 23), .ref (g 24), .long td9, .ref (g 26), .ref (g 27), .ref (g 28), .ref (g 29), .ref (g 30)])), (g 12, .inl (cI, 50, .inl pg))] s.heap := hP
  have hD : va_D A [(g 0, .inr (10, [.int (nI 0), .ref (g 1), .int (nI ts), .int (nI pl), .int (nI rk), .ref (g 5), .int (nI sl), .ref (g 7), .int (nI rr), .int (nI rs), .ref (g 10), .ref (g 11), .ref (g 12), .long sd, .ref (g 14), .ref (g 15), .int (nI ac), .ref (g 17), .ref (g 18), .ref (g 19), .int (nI tc), .ref (g 21), .ref (g 22), .ref (g 23), .ref (g 24), .long td9, .ref (g 26), .ref (g 27), .ref (g 28), .ref (g 29), .ref (g 30)])), (g 12, .inl (cI, 50, .inl pg))] := hD
  have hl : lv_has ls 5 [(0, .ref (g 0)), (1, .int q)] := hl
  have k_0 := hts (.fieldLink RX10 72 "HearsayMarchModel" "thrown" "I") (by decide +kernel)
  have k_1 := hts (.fieldLink RX10 76 "HearsayMarchModel" "ranks" "I") (by decide +kernel)
  have k_2 := hts (.fieldLink RX10 130 "HearsayMarchModel" "slips" "I") (by decide +kernel)
  have k_3 := hts (.fieldLink RX10 25 "HearsayMarchModel" "page" "[I") (by decide +kernel)
  have k_4 := hts (.fieldLink RX10 133 "HearsayMarchModel" "acts" "I") (by decide +kernel)
  have k_5 := hts (.fieldLink RX10 136 "HearsayMarchModel" "traced" "I") (by decide +kernel)
  have k_6 := hts (.fieldLink RX10 87 "HearsayMarchModel" "textSize" "I") (by decide +kernel)
  have hin10 : ∀ w ∈ wsX100, w ∈ wsX10_about := by decide +kernel
  refine lv_aload_n hx hb dX10_about_0 rfl (lv_at hl 0 rfl) ?_
  refine lv_iconst (v := nI 0) hx hb dX10_about_1 (by decide) ?_
  refine va_put (D := G) (ci := 10) (v := .int (nI 0)) (ty := tyX10 0) (C := RX10) (T := TX10) (N := 31) hx hb hts hin10 tyX10 tyX10_ok nmX10 hown hK.1 hP hD hS 0 rfl rfl 0 (by decide) k_0 (fun _ h9 => h9) rfl (by decide +kernel) rfl rfl (Nat.le_of_ble_eq_true rfl) dX10_about_2 (fun H locs hP hD hS => ?_)
  have hP : va_P G vwCl [(g 0, .inr (10, [.int (nI 0), .ref (g 1), .int (nI ts), .int (nI pl), .int (nI rk), .ref (g 5), .int (nI sl), .ref (g 7), .int (nI rr), .int (nI rs), .ref (g 10), .ref (g 11), .ref (g 12), .long sd, .ref (g 14), .ref (g 15), .int (nI ac), .ref (g 17), .ref (g 18), .ref (g 19), .int (nI tc), .ref (g 21), .ref (g 22), .ref (g 23), .ref (g 24), .long td9, .ref (g 26), .ref (g 27), .ref (g 28), .ref (g 29), .ref (g 30)])), (g 12, .inl (cI, 50, .inl pg))] _ := hP
  have hD : va_D A [(g 0, .inr (10, [.int (nI 0), .ref (g 1), .int (nI ts), .int (nI pl), .int (nI rk), .ref (g 5), .int (nI sl), .ref (g 7), .int (nI rr), .int (nI rs), .ref (g 10), .ref (g 11), .ref (g 12), .long sd, .ref (g 14), .ref (g 15), .int (nI ac), .ref (g 17), .ref (g 18), .ref (g 19), .int (nI tc), .ref (g 21), .ref (g 22), .ref (g 23), .ref (g 24), .long td9, .ref (g 26), .ref (g 27), .ref (g 28), .ref (g 29), .ref (g 30)])), (g 12, .inl (cI, 50, .inl pg))] := hD
  refine lv_iconst (v := nI 0) hx hb dX10_about_5 (by decide) ?_
  refine top_i (y := slpI (vOf pg) 0) (rfl) ?_
  refine lv_istore_n (lv' := [(2, .int (slpI (vOf pg) 0)), (0, .ref (g 0)), (1, .int q)]) hx hb dX10_about_6 rfl hl (by decide) rfl (fun ls hl => ?_)
  refine lv_iconst (v := nI 0) hx hb dX10_about_7 (by decide) ?_
  refine top_i (y := hrsI (vOf pg) 0) (rfl) ?_
  refine lv_istore_n (lv' := [(3, .int (hrsI (vOf pg) 0)), (2, .int (slpI (vOf pg) 0)), (0, .ref (g 0)), (1, .int q)]) hx hb dX10_about_8 rfl hl (by decide) rfl (fun ls hl => ?_)
  refine lv_iconst (v := nI 0) hx hb dX10_about_9 (by decide) ?_
  refine lv_istore (lv' := [(4, .int (nI 0)), (3, .int (hrsI (vOf pg) 0)), (2, .int (slpI (vOf pg) 0)), (0, .ref (g 0)), (1, .int q)]) hx hb dX10_about_10 hl (by decide) rfl (fun ls hl => ?_)
  refine loopW (σ := Nat) 12 (fun (i : Nat) H locs ls => (i ≤ rk) ∧ va_P G vwCl [(g 0, .inr (10, [.int (nI 0), .ref (g 1), .int (nI ts), .int (nI pl), .int (nI rk), .ref (g 5), .int (nI sl), .ref (g 7), .int (nI rr), .int (nI rs), .ref (g 10), .ref (g 11), .ref (g 12), .long sd, .ref (g 14), .ref (g 15), .int (nI ac), .ref (g 17), .ref (g 18), .ref (g 19), .int (nI tc), .ref (g 21), .ref (g 22), .ref (g 23), .ref (g 24), .long td9, .ref (g 26), .ref (g 27), .ref (g 28), .ref (g 29), .ref (g 30)])), (g 12, .inl (cI, 50, .inl pg))] H ∧ va_D A [(g 0, .inr (10, [.int (nI 0), .ref (g 1), .int (nI ts), .int (nI pl), .int (nI rk), .ref (g 5), .int (nI sl), .ref (g 7), .int (nI rr), .int (nI rs), .ref (g 10), .ref (g 11), .ref (g 12), .long sd, .ref (g 14), .ref (g 15), .int (nI ac), .ref (g 17), .ref (g 18), .ref (g 19), .int (nI tc), .ref (g 21), .ref (g 22), .ref (g 23), .ref (g 24), .long td9, .ref (g 26), .ref (g 27), .ref (g 28), .ref (g 29), .ref (g 30)])), (g 12, .inl (cI, 50, .inl pg))] ∧ va_S A s.heap H locs ∧ lv_has ls 5 [(4, .int (nI i)), (3, .int (hrsI (vOf pg) i)), (2, .int (slpI (vOf pg) i)), (0, .ref (g 0)), (1, .int q)]) (fun (i : Nat) => []) (fun (i : Nat) => rk - i) ?_ 0 ⟨by first | assumption | omega | (simp; done), hP.sub [0, 1] rfl, hD.sub [0, 1] (by decide) rfl, hS, lv_sub hl [0, 1, 2, 3, 4] rfl⟩
  intro xx9 H locs ls hI ih_12
  obtain ⟨i, rfl⟩ : ∃ z, z = xx9 := ⟨_, rfl⟩
  obtain ⟨hi, hP, hD, hS, hl⟩ := hI
  have hi : i ≤ rk := hi
  have hP : va_P G vwCl [(g 0, .inr (10, [.int (nI 0), .ref (g 1), .int (nI ts), .int (nI pl), .int (nI rk), .ref (g 5), .int (nI sl), .ref (g 7), .int (nI rr), .int (nI rs), .ref (g 10), .ref (g 11), .ref (g 12), .long sd, .ref (g 14), .ref (g 15), .int (nI ac), .ref (g 17), .ref (g 18), .ref (g 19), .int (nI tc), .ref (g 21), .ref (g 22), .ref (g 23), .ref (g 24), .long td9, .ref (g 26), .ref (g 27), .ref (g 28), .ref (g 29), .ref (g 30)])), (g 12, .inl (cI, 50, .inl pg))] _ := hP
  have hD : va_D A [(g 0, .inr (10, [.int (nI 0), .ref (g 1), .int (nI ts), .int (nI pl), .int (nI rk), .ref (g 5), .int (nI sl), .ref (g 7), .int (nI rr), .int (nI rs), .ref (g 10), .ref (g 11), .ref (g 12), .long sd, .ref (g 14), .ref (g 15), .int (nI ac), .ref (g 17), .ref (g 18), .ref (g 19), .int (nI tc), .ref (g 21), .ref (g 22), .ref (g 23), .ref (g 24), .long td9, .ref (g 26), .ref (g 27), .ref (g 28), .ref (g 29), .ref (g 30)])), (g 12, .inl (cI, 50, .inl pg))] := hD
  have hl : lv_has ls 5 [(4, .int (nI i)), (3, .int (hrsI (vOf pg) i)), (2, .int (slpI (vOf pg) i)), (0, .ref (g 0)), (1, .int q)] := hl
  refine lv_iload hx hb dX10_about_12 (lv_at hl 0 rfl) ?_
  refine lv_aload_n hx hb dX10_about_14 rfl (lv_at hl 3 rfl) ?_
  refine va_get (D := G) (ci := 10) (v := .int (nI rk)) (C := RX10) (T := TX10) (N := 31) hx hb hts hin10 hown hK.1 hP 0 rfl rfl 4 (by decide) k_1 (fun _ h9 => h9) rfl dX10_about_15 ?_
  refine lv_icmp_ge (tgt := 69) hx hb dX10_about_18 (by decide) (fun c_18 => ?_) (fun c_18 => ?_)
  · skip
    have c_18 := n_geT c_18 (by omega) (by omega)
    have hi9 : i = rk := by omega
    subst hi9
    refine lv_iload_n hx hb dX10_about_69 rfl (lv_at hl 4 rfl) ?_
    by_cases w_0 : q = nI 0
    · skip
      subst w_0
      refine lv_tableIn (tgt := 116) (off := 46) hx hb dX10_about_70 (by decide) (by decide) (by decide) (by decide) ?_
      refine lv_aload_n hx hb dX10_about_116 rfl (lv_at hl 3 rfl) ?_
      refine va_get (D := G) (ci := 10) (v := .int (nI i)) (C := RX10) (T := TX10) (N := 31) hx hb hts hin10 hown hK.1 hP 0 rfl rfl 4 (by decide) k_1 (fun _ h9 => h9) rfl dX10_about_117 ?_
      exact endI hx hb hr hlocks (()) (by unfold abI; repeat (first | rw [if_pos rfl] | rw [if_neg (by decide)])) (hP.sub [0, 1] rfl) (hD.sub [0, 1] (by decide) rfl) hS dX10_about_120
    by_cases w_1 : q = nI 1
    · skip
      subst w_1
      refine lv_tableIn (tgt := 121) (off := 51) hx hb dX10_about_70 (by decide) (by decide) (by decide) (by decide) ?_
      refine lv_aload_n hx hb dX10_about_121 rfl (lv_at hl 3 rfl) ?_
      refine va_get (D := G) (ci := 10) (v := .int (nI sl)) (C := RX10) (T := TX10) (N := 31) hx hb hts hin10 hown hK.1 hP 0 rfl rfl 6 (by decide) k_2 (fun _ h9 => h9) rfl dX10_about_122 ?_
      exact endI hx hb hr hlocks (()) (by unfold abI; repeat (first | rw [if_pos rfl] | rw [if_neg (by decide)])) (hP.sub [0, 1] rfl) (hD.sub [0, 1] (by decide) rfl) hS dX10_about_125
    by_cases w_2 : q = nI 2
    · skip
      subst w_2
      refine lv_tableIn (tgt := 126) (off := 56) hx hb dX10_about_70 (by decide) (by decide) (by decide) (by decide) ?_
      refine lv_aload_n hx hb dX10_about_126 rfl (lv_at hl 3 rfl) ?_
      refine va_get (D := G) (ci := 10) (v := .ref (g 12)) (C := RX10) (T := TX10) (N := 31) hx hb hts hin10 hown hK.1 hP 0 rfl rfl 12 (by decide) k_3 (fun _ h9 => h9) rfl dX10_about_127 ?_
      refine lv_bipush (v := nI 49) hx hb dX10_about_130 (by decide) ?_
      refine ald hx hb hK hP 1 0 rfl rfl (j := 49) (by omega) (by omega) dX10_about_132 ?_
      exact endI hx hb hr hlocks (()) (by unfold abI; repeat (first | rw [if_pos rfl] | rw [if_neg (by decide)])) (hP.sub [0, 1] rfl) (hD.sub [0, 1] (by decide) rfl) hS dX10_about_133
    by_cases w_3 : q = nI 3
    · skip
      subst w_3
      refine lv_tableIn (tgt := 134) (off := 64) hx hb dX10_about_70 (by decide) (by decide) (by decide) (by decide) ?_
      refine lv_iload_n hx hb dX10_about_134 rfl (lv_at hl 2 rfl) ?_
      exact endI hx hb hr hlocks (()) (by unfold abI; repeat (first | rw [if_pos rfl] | rw [if_neg (by decide)])) (hP.sub [0, 1] rfl) (hD.sub [0, 1] (by decide) rfl) hS dX10_about_135
    by_cases w_4 : q = nI 4
    · skip
      subst w_4
      refine lv_tableIn (tgt := 136) (off := 66) hx hb dX10_about_70 (by decide) (by decide) (by decide) (by decide) ?_
      refine lv_iload_n hx hb dX10_about_136 rfl (lv_at hl 1 rfl) ?_
      exact endI hx hb hr hlocks (()) (by unfold abI; repeat (first | rw [if_pos rfl] | rw [if_neg (by decide)])) (hP.sub [0, 1] rfl) (hD.sub [0, 1] (by decide) rfl) hS dX10_about_137
    by_cases w_5 : q = nI 5
    · skip
      subst w_5
      refine lv_tableIn (tgt := 138) (off := 68) hx hb dX10_about_70 (by decide) (by decide) (by decide) (by decide) ?_
      refine lv_aload_n hx hb dX10_about_138 rfl (lv_at hl 3 rfl) ?_
      refine va_get (D := G) (ci := 10) (v := .int (nI ac)) (C := RX10) (T := TX10) (N := 31) hx hb hts hin10 hown hK.1 hP 0 rfl rfl 16 (by decide) k_4 (fun _ h9 => h9) rfl dX10_about_139 ?_
      exact endI hx hb hr hlocks (()) (by unfold abI; repeat (first | rw [if_pos rfl] | rw [if_neg (by decide)])) (hP.sub [0, 1] rfl) (hD.sub [0, 1] (by decide) rfl) hS dX10_about_142
    by_cases w_6 : q = nI 6
    · skip
      subst w_6
      refine lv_tableIn (tgt := 143) (off := 73) hx hb dX10_about_70 (by decide) (by decide) (by decide) (by decide) ?_
      refine lv_aload_n hx hb dX10_about_143 rfl (lv_at hl 3 rfl) ?_
      refine va_get (D := G) (ci := 10) (v := .int (nI tc)) (C := RX10) (T := TX10) (N := 31) hx hb hts hin10 hown hK.1 hP 0 rfl rfl 20 (by decide) k_5 (fun _ h9 => h9) rfl dX10_about_144 ?_
      exact endI hx hb hr hlocks (()) (by unfold abI; repeat (first | rw [if_pos rfl] | rw [if_neg (by decide)])) (hP.sub [0, 1] rfl) (hD.sub [0, 1] (by decide) rfl) hS dX10_about_147
    by_cases w_7 : q = nI 7
    · skip
      subst w_7
      refine lv_tableIn (tgt := 148) (off := 78) hx hb dX10_about_70 (by decide) (by decide) (by decide) (by decide) ?_
      refine lv_aload_n hx hb dX10_about_148 rfl (lv_at hl 3 rfl) ?_
      refine va_get (D := G) (ci := 10) (v := .int (nI ts)) (C := RX10) (T := TX10) (N := 31) hx hb hts hin10 hown hK.1 hP 0 rfl rfl 2 (by decide) k_6 (fun _ h9 => h9) rfl dX10_about_149 ?_
      exact endI hx hb hr hlocks (()) (by unfold abI; repeat (first | rw [if_pos rfl] | rw [if_neg (by decide)])) (hP.sub [0, 1] rfl) (hD.sub [0, 1] (by decide) rfl) hS dX10_about_152
    refine lv_tableOut (tgt := 153) hx hb dX10_about_70 (sw_out (hi := 7) 8 (by omega) (by decide) (by decide) (fun j hj => by rcases (show j = 0 ∨ j = 1 ∨ j = 2 ∨ j = 3 ∨ j = 4 ∨ j = 5 ∨ j = 6 ∨ j = 7 by omega) with rfl | rfl | rfl | rfl | rfl | rfl | rfl | rfl <;> assumption)) (by decide) ?_
    refine lv_bipush (v := (-2)) hx hb dX10_about_153 (by decide) ?_
    exact endI hx hb hr hlocks (()) ((abI_no w_0 w_1 w_2 w_3 w_4 w_5 w_6 w_7).symm) (hP.sub [0, 1] rfl) (hD.sub [0, 1] (by decide) rfl) hS dX10_about_155
  · skip
    have c_18 := n_geF c_18 (by omega) (by omega)
    refine lv_iload_n hx hb dX10_about_21 rfl (lv_at hl 2 rfl) ?_
    refine lv_aload_n hx hb dX10_about_22 rfl (lv_at hl 3 rfl) ?_
    refine va_get (D := G) (ci := 10) (v := .ref (g 12)) (C := RX10) (T := TX10) (N := 31) hx hb hts hin10 hown hK.1 hP 0 rfl rfl 12 (by decide) k_3 (fun _ h9 => h9) rfl dX10_about_23 ?_
    refine lv_bipush (v := nI 42) hx hb dX10_about_26 (by decide) ?_
    refine lv_iload hx hb dX10_about_28 (lv_at hl 0 rfl) ?_
    refine lv_iadd hx hb dX10_about_30 ?_
    refine top_i (y := nI (42 + i)) (nI_add _ _) ?_
    refine ald hx hb hK hP 1 0 rfl rfl (j := 42 + i) (by omega) (by omega) dX10_about_31 ?_
    refine lv_iload hx hb dX10_about_32 (lv_at hl 0 rfl) ?_
    refine lv_ishl hx hb dX10_about_34 ?_
    refine lv_ior hx hb dX10_about_35 ?_
    refine top_i (y := slpI (vOf pg) (i + 1)) (slp_m (hz i (by omega)) (by omega)) ?_
    refine lv_istore_n (lv' := [(2, .int (slpI (vOf pg) (i + 1))), (4, .int (nI i)), (3, .int (hrsI (vOf pg) i)), (0, .ref (g 0)), (1, .int q)]) hx hb dX10_about_36 rfl hl (by decide) rfl (fun ls hl => ?_)
    refine lv_iload_n hx hb dX10_about_37 rfl (lv_at hl 2 rfl) ?_
    refine lv_aload_n hx hb dX10_about_38 rfl (lv_at hl 3 rfl) ?_
    refine va_get (D := G) (ci := 10) (v := .ref (g 12)) (C := RX10) (T := TX10) (N := 31) hx hb hts hin10 hown hK.1 hP 0 rfl rfl 12 (by decide) k_3 (fun _ h9 => h9) rfl dX10_about_39 ?_
    refine lv_bipush (v := nI 35) hx hb dX10_about_42 (by decide) ?_
    refine lv_iload hx hb dX10_about_44 (lv_at hl 1 rfl) ?_
    refine lv_iadd hx hb dX10_about_46 ?_
    refine top_i (y := nI (35 + i)) (nI_add _ _) ?_
    refine ald hx hb hK hP 1 0 rfl rfl (j := 35 + i) (by omega) (by omega) dX10_about_47 ?_
    refine lv_bipush (v := (-9)) hx hb dX10_about_48 (by decide) ?_
    refine lv_icmp_ne (tgt := 57) hx hb dX10_about_50 (by decide) (fun c_50 => ?_) (fun c_50 => ?_)
    · skip
      refine lv_iconst (v := nI 1) hx hb dX10_about_57 (by decide) ?_
      refine lv_iload hx hb dX10_about_58 (lv_at hl 1 rfl) ?_
      refine lv_ishl hx hb dX10_about_60 ?_
      refine lv_ior hx hb dX10_about_61 ?_
      refine top_i (y := hrsI (vOf pg) (i + 1)) (by first | exact (hrsI_y ((vp5 (by omega)).trans c_50)).symm | exact (hrsI_n (fun z => c_50 ((vp5 (by omega)).symm.trans z))).symm) ?_
      refine lv_istore_n (lv' := [(3, .int (hrsI (vOf pg) (i + 1))), (2, .int (slpI (vOf pg) (i + 1))), (4, .int (nI i)), (0, .ref (g 0)), (1, .int q)]) hx hb dX10_about_62 rfl hl (by decide) rfl (fun ls hl => ?_)
      refine lv_iinc (v := nI (i + 1)) (lv' := [(4, .int (nI (i + 1))), (3, .int (hrsI (vOf pg) (i + 1))), (2, .int (slpI (vOf pg) (i + 1))), (0, .ref (g 0)), (1, .int q)]) hx hb dX10_about_63 hl (k := 2) rfl (nI_inc _ 1 1 (by decide)) (by decide) rfl (fun ls hl => ?_)
      refine lv_goto (tgt := 12) hx hb dX10_about_66 (by decide) ?_
      exact ih_12 (i + 1) _ _ _ (by first | omega | (simp only []; omega) | (show _ < _; omega)) ⟨by first | assumption | omega | (simp; done), hP.sub [0, 1] rfl, hD.sub [0, 1] (by decide) rfl, hS, lv_sub hl [0, 1, 2, 3, 4] rfl⟩
    · skip
      refine lv_iconst (v := nI 0) hx hb dX10_about_53 (by decide) ?_
      refine lv_goto (tgt := 61) hx hb dX10_about_54 (by decide) ?_
      refine lv_ior hx hb dX10_about_61 ?_
      refine top_i (y := hrsI (vOf pg) (i + 1)) (by first | exact (hrsI_y ((vp5 (by omega)).trans c_50)).symm | exact (hrsI_n (fun z => c_50 ((vp5 (by omega)).symm.trans z))).symm) ?_
      refine lv_istore_n (lv' := [(3, .int (hrsI (vOf pg) (i + 1))), (2, .int (slpI (vOf pg) (i + 1))), (4, .int (nI i)), (0, .ref (g 0)), (1, .int q)]) hx hb dX10_about_62 rfl hl (by decide) rfl (fun ls hl => ?_)
      refine lv_iinc (v := nI (i + 1)) (lv' := [(4, .int (nI (i + 1))), (3, .int (hrsI (vOf pg) (i + 1))), (2, .int (slpI (vOf pg) (i + 1))), (0, .ref (g 0)), (1, .int q)]) hx hb dX10_about_63 hl (k := 2) rfl (nI_inc _ 1 1 (by decide)) (by decide) rfl (fun ls hl => ?_)
      refine lv_goto (tgt := 12) hx hb dX10_about_66 (by decide) ?_
      exact ih_12 (i + 1) _ _ _ (by first | omega | (simp only []; omega) | (show _ < _; omega)) ⟨by first | assumption | omega | (simp; done), hP.sub [0, 1] rfl, hD.sub [0, 1] (by decide) rfl, hS, lv_sub hl [0, 1, 2, 3, 4] rfl⟩

set_option maxHeartbeats 4000000 in
set_option maxRecDepth 100000 in
theorem c_X10_rank {l : Launch} {G : va_G} {cI cJ cZ cS : ClassId} (g : Nat → Nat) (ts : Nat) (pl : Nat) (rk : Nat) (sl : Nat) (rr : Nat) (rs : Nat) (ac : Nat) (tc : Nat) (sd : Int64) (td9 : Int64) (kd : Nat → Nat) (pg : Nat → Int32) (r : Int32) (q : Int32) (hrk : rk < 8) : CI l G (kT cI cJ cZ cS) (S := Unit) yX10_rank wsX10_rank { frames := 2, cells := 0, slots := 0, locals := 46 } [.ref (g 0), .int r, .int q] [(g 0, .inr (10, [.int (nI 0), .ref (g 1), .int (nI ts), .int (nI pl), .int (nI rk), .ref (g 5), .int (nI sl), .ref (g 7), .int (nI rr), .int (nI rs), .ref (g 10), .ref (g 11), .ref (g 12), .long sd, .ref (g 14), .ref (g 15), .int (nI ac), .ref (g 17), .ref (g 18), .ref (g 19), .int (nI tc), .ref (g 21), .ref (g 22), .ref (g 23), .ref (g 24), .long td9, .ref (g 26), .ref (g 27), .ref (g 28), .ref (g 29), .ref (g 30)])), (g 5, .inl (cI, 7, .inl (fun i9 => nI (kd i9)))), (g 12, .inl (cI, 50, .inl pg))] (fun res _ => An1 rk r (fun k9 => rkI kd (vOf pg) k9 q) (-1) res) (fun _ => [(g 0, .inr (10, [.int (nI 0), .ref (g 1), .int (nI ts), .int (nI pl), .int (nI rk), .ref (g 5), .int (nI sl), .ref (g 7), .int (nI rr), .int (nI rs), .ref (g 10), .ref (g 11), .ref (g 12), .long sd, .ref (g 14), .ref (g 15), .int (nI ac), .ref (g 17), .ref (g 18), .ref (g 19), .int (nI tc), .ref (g 21), .ref (g 22), .ref (g 23), .ref (g 24), .long td9, .ref (g 26), .ref (g 27), .ref (g 28), .ref (g 29), .ref (g 30)])), (g 5, .inl (cI, 7, .inl (fun i9 => nI (kd i9)))), (g 12, .inl (cI, 50, .inl pg))]) := by
  refine CI.of (cc := cX10_rank) (maxL := 3) (by decide) rfl (Nat.le_of_ble_eq_true rfl) ?_
  intro p9 e9 s m below meth co9 A ls hB
  obtain ⟨hx, hb, hml, hr, hts, hown, hlocks, hmn, hK, hP, hD, hS, hA, hl⟩ := hB
  have hP : va_P G vwCl [(g 0, .inr (10, [.int (nI 0), .ref (g 1), .int (nI ts), .int (nI pl), .int (nI rk), .ref (g 5), .int (nI sl), .ref (g 7), .int (nI rr), .int (nI rs), .ref (g 10), .ref (g 11), .ref (g 12), .long sd, .ref (g 14), .ref (g 15), .int (nI ac), .ref (g 17), .ref (g 18), .ref (g 19), .int (nI tc), .ref (g 21), .ref (g 22), .ref (g 23), .ref (g 24), .long td9, .ref (g 26), .ref (g 27), .ref (g 28), .ref (g 29), .ref (g 30)])), (g 5, .inl (cI, 7, .inl (fun i9 => nI (kd i9)))), (g 12, .inl (cI, 50, .inl pg))] s.heap := hP
  have hD : va_D A [(g 0, .inr (10, [.int (nI 0), .ref (g 1), .int (nI ts), .int (nI pl), .int (nI rk), .ref (g 5), .int (nI sl), .ref (g 7), .int (nI rr), .int (nI rs), .ref (g 10), .ref (g 11), .ref (g 12), .long sd, .ref (g 14), .ref (g 15), .int (nI ac), .ref (g 17), .ref (g 18), .ref (g 19), .int (nI tc), .ref (g 21), .ref (g 22), .ref (g 23), .ref (g 24), .long td9, .ref (g 26), .ref (g 27), .ref (g 28), .ref (g 29), .ref (g 30)])), (g 5, .inl (cI, 7, .inl (fun i9 => nI (kd i9)))), (g 12, .inl (cI, 50, .inl pg))] := hD
  have hl : lv_has ls 3 [(0, .ref (g 0)), (1, .int r), (2, .int q)] := hl
  have k_0 := hts (.fieldLink RX10 72 "HearsayMarchModel" "thrown" "I") (by decide +kernel)
  have k_1 := hts (.fieldLink RX10 13 "HearsayMarchModel" "kind" "[I") (by decide +kernel)
  have k_2 := hts (.fieldLink RX10 25 "HearsayMarchModel" "page" "[I") (by decide +kernel)
  have hin10 : ∀ w ∈ wsX100, w ∈ wsX10_rank := by decide +kernel
  refine lv_aload_n hx hb dX10_rank_0 rfl (lv_at hl 0 rfl) ?_
  refine lv_iconst (v := nI 0) hx hb dX10_rank_1 (by decide) ?_
  refine va_put (D := G) (ci := 10) (v := .int (nI 0)) (ty := tyX10 0) (C := RX10) (T := TX10) (N := 31) hx hb hts hin10 tyX10 tyX10_ok nmX10 hown hK.1 hP hD hS 0 rfl rfl 0 (by decide) k_0 (fun _ h9 => h9) rfl (by decide +kernel) rfl rfl (Nat.le_of_ble_eq_true rfl) dX10_rank_2 (fun H locs hP hD hS => ?_)
  have hP : va_P G vwCl [(g 0, .inr (10, [.int (nI 0), .ref (g 1), .int (nI ts), .int (nI pl), .int (nI rk), .ref (g 5), .int (nI sl), .ref (g 7), .int (nI rr), .int (nI rs), .ref (g 10), .ref (g 11), .ref (g 12), .long sd, .ref (g 14), .ref (g 15), .int (nI ac), .ref (g 17), .ref (g 18), .ref (g 19), .int (nI tc), .ref (g 21), .ref (g 22), .ref (g 23), .ref (g 24), .long td9, .ref (g 26), .ref (g 27), .ref (g 28), .ref (g 29), .ref (g 30)])), (g 5, .inl (cI, 7, .inl (fun i9 => nI (kd i9)))), (g 12, .inl (cI, 50, .inl pg))] _ := hP
  have hD : va_D A [(g 0, .inr (10, [.int (nI 0), .ref (g 1), .int (nI ts), .int (nI pl), .int (nI rk), .ref (g 5), .int (nI sl), .ref (g 7), .int (nI rr), .int (nI rs), .ref (g 10), .ref (g 11), .ref (g 12), .long sd, .ref (g 14), .ref (g 15), .int (nI ac), .ref (g 17), .ref (g 18), .ref (g 19), .int (nI tc), .ref (g 21), .ref (g 22), .ref (g 23), .ref (g 24), .long td9, .ref (g 26), .ref (g 27), .ref (g 28), .ref (g 29), .ref (g 30)])), (g 5, .inl (cI, 7, .inl (fun i9 => nI (kd i9)))), (g 12, .inl (cI, 50, .inl pg))] := hD
  refine lv_aload_n hx hb dX10_rank_5 rfl (lv_at hl 0 rfl) ?_
  refine lv_iload_n hx hb dX10_rank_6 rfl (lv_at hl 1 rfl) ?_
  refine aft_i (wr := [(g 5, .inl (cI, 7, .inl (fun i9 => nI (kd i9)))), (g 12, .inl (cI, 50, .inl pg))]) (va_runV (As := [.int r]) (rest := []) ⟨hx, hb, hml, hown, hts⟩ (c_X10_noRank (g := g) (ts := ts) (pl := pl) (rk := rk) (sl := sl) (rr := rr) (rs := rs) (ac := ac) (tc := tc) (sd := sd) (td9 := td9) (r := r) (hrk := by first | assumption | omega | exact hok.1 _ (by omega) | exact hok.2.2 _ _ (by omega) (by omega) | exact hok.2.1) _) (cwV 1 hts gX10_rank_X10_noRank rfl rfl rfl (by decide +kernel) ⟨Nat.le_of_ble_eq_true rfl, Nat.le_of_ble_eq_true rfl⟩) (preV (cq := (RX10, TX10, 31)) (q0 := 0) (ci := 10) hK hP hD [0] rfl rfl rfl rfl) rfl rfl hl.1 rfl (lv_room (Nat.le_of_ble_eq_true rfl)) dX10_rank_7 ⟨Nat.le_of_ble_eq_true rfl, Nat.le_of_ble_eq_true rfl⟩) hP hD hS hA [0] [1, 2] rfl rfl rfl (by decide) (fun r_7 uu9 H locs hw hP hD hS => ?_)
  have hP : va_P G vwCl [(g 5, .inl (cI, 7, .inl (fun i9 => nI (kd i9)))), (g 12, .inl (cI, 50, .inl pg)), (g 0, .inr (10, [.int (nI 0), .ref (g 1), .int (nI ts), .int (nI pl), .int (nI rk), .ref (g 5), .int (nI sl), .ref (g 7), .int (nI rr), .int (nI rs), .ref (g 10), .ref (g 11), .ref (g 12), .long sd, .ref (g 14), .ref (g 15), .int (nI ac), .ref (g 17), .ref (g 18), .ref (g 19), .int (nI tc), .ref (g 21), .ref (g 22), .ref (g 23), .ref (g 24), .long td9, .ref (g 26), .ref (g 27), .ref (g 28), .ref (g 29), .ref (g 30)]))] _ := hP
  have hD : va_D A [(g 5, .inl (cI, 7, .inl (fun i9 => nI (kd i9)))), (g 12, .inl (cI, 50, .inl pg)), (g 0, .inr (10, [.int (nI 0), .ref (g 1), .int (nI ts), .int (nI pl), .int (nI rk), .ref (g 5), .int (nI sl), .ref (g 7), .int (nI rr), .int (nI rs), .ref (g 10), .ref (g 11), .ref (g 12), .long sd, .ref (g 14), .ref (g 15), .int (nI ac), .ref (g 17), .ref (g 18), .ref (g 19), .int (nI tc), .ref (g 21), .ref (g 22), .ref (g 23), .ref (g 24), .long td9, .ref (g 26), .ref (g 27), .ref (g 28), .ref (g 29), .ref (g 30)]))] := hD
  obtain rfl := hw
  refine top_i (y := bI (¬ isR rk r)) rfl ?_
  refine lv_if_eq (tgt := 15) hx hb dX10_rank_10 (by decide) (fun c_10 => ?_) (fun c_10 => ?_)
  · skip
    have c_10 := bI_f c_10
    have c_10 := Classical.not_not.mp c_10
    obtain ⟨k, hk, rfl⟩ := c_10
    refine lv_iload_n hx hb dX10_rank_15 rfl (lv_at hl 2 rfl) ?_
    by_cases w_0 : q = nI 0
    · skip
      subst w_0
      refine lv_tableIn (tgt := 60) (off := 44) hx hb dX10_rank_16 (by decide) (by decide) (by decide) (by decide) ?_
      refine lv_aload_n hx hb dX10_rank_60 rfl (lv_at hl 0 rfl) ?_
      refine va_get (D := G) (ci := 10) (v := .ref (g 5)) (C := RX10) (T := TX10) (N := 31) hx hb hts hin10 hown hK.1 hP 2 rfl rfl 5 (by decide) k_1 (fun _ h9 => h9) rfl dX10_rank_61 ?_
      refine lv_iload_n hx hb dX10_rank_64 rfl (lv_at hl 1 rfl) ?_
      refine ald hx hb hK hP 0 0 rfl rfl (j := k) (by omega) (by omega) dX10_rank_65 ?_
      exact endI hx hb hr hlocks (()) (An1_ok (by omega) hk (by unfold rkI; repeat (first | rw [if_pos rfl] | rw [if_neg (by decide)]))) (hP.sub [2, 0, 1] rfl) (hD.sub [2, 0, 1] (by decide) rfl) hS dX10_rank_66
    by_cases w_1 : q = nI 1
    · skip
      subst w_1
      refine lv_tableIn (tgt := 67) (off := 51) hx hb dX10_rank_16 (by decide) (by decide) (by decide) (by decide) ?_
      refine lv_aload_n hx hb dX10_rank_67 rfl (lv_at hl 0 rfl) ?_
      refine va_get (D := G) (ci := 10) (v := .ref (g 12)) (C := RX10) (T := TX10) (N := 31) hx hb hts hin10 hown hK.1 hP 2 rfl rfl 12 (by decide) k_2 (fun _ h9 => h9) rfl dX10_rank_68 ?_
      refine lv_iload_n hx hb dX10_rank_71 rfl (lv_at hl 1 rfl) ?_
      refine ald hx hb hK hP 1 0 rfl rfl (j := k) (by omega) (by omega) dX10_rank_72 ?_
      exact endI hx hb hr hlocks (()) (An1_ok (by omega) hk ((rki1.trans (vp0 (by omega))).symm)) (hP.sub [2, 0, 1] rfl) (hD.sub [2, 0, 1] (by decide) rfl) hS dX10_rank_73
    by_cases w_2 : q = nI 2
    · skip
      subst w_2
      refine lv_tableIn (tgt := 74) (off := 58) hx hb dX10_rank_16 (by decide) (by decide) (by decide) (by decide) ?_
      refine lv_aload_n hx hb dX10_rank_74 rfl (lv_at hl 0 rfl) ?_
      refine va_get (D := G) (ci := 10) (v := .ref (g 12)) (C := RX10) (T := TX10) (N := 31) hx hb hts hin10 hown hK.1 hP 2 rfl rfl 12 (by decide) k_2 (fun _ h9 => h9) rfl dX10_rank_75 ?_
      refine lv_bipush (v := nI 7) hx hb dX10_rank_78 (by decide) ?_
      refine lv_iload_n hx hb dX10_rank_80 rfl (lv_at hl 1 rfl) ?_
      refine lv_iadd hx hb dX10_rank_81 ?_
      refine top_i (y := nI (7 + k)) (nI_add _ _) ?_
      refine ald hx hb hK hP 1 0 rfl rfl (j := 7 + k) (by omega) (by omega) dX10_rank_82 ?_
      exact endI hx hb hr hlocks (()) (An1_ok (by omega) hk ((rki2.trans (vp1 (by omega))).symm)) (hP.sub [2, 0, 1] rfl) (hD.sub [2, 0, 1] (by decide) rfl) hS dX10_rank_83
    by_cases w_3 : q = nI 3
    · skip
      subst w_3
      refine lv_tableIn (tgt := 84) (off := 68) hx hb dX10_rank_16 (by decide) (by decide) (by decide) (by decide) ?_
      refine lv_aload_n hx hb dX10_rank_84 rfl (lv_at hl 0 rfl) ?_
      refine va_get (D := G) (ci := 10) (v := .ref (g 12)) (C := RX10) (T := TX10) (N := 31) hx hb hts hin10 hown hK.1 hP 2 rfl rfl 12 (by decide) k_2 (fun _ h9 => h9) rfl dX10_rank_85 ?_
      refine lv_bipush (v := nI 14) hx hb dX10_rank_88 (by decide) ?_
      refine lv_iload_n hx hb dX10_rank_90 rfl (lv_at hl 1 rfl) ?_
      refine lv_iadd hx hb dX10_rank_91 ?_
      refine top_i (y := nI (14 + k)) (nI_add _ _) ?_
      refine ald hx hb hK hP 1 0 rfl rfl (j := 14 + k) (by omega) (by omega) dX10_rank_92 ?_
      exact endI hx hb hr hlocks (()) (An1_ok (by omega) hk ((rki3.trans (vp2 (by omega))).symm)) (hP.sub [2, 0, 1] rfl) (hD.sub [2, 0, 1] (by decide) rfl) hS dX10_rank_93
    by_cases w_4 : q = nI 4
    · skip
      subst w_4
      refine lv_tableIn (tgt := 94) (off := 78) hx hb dX10_rank_16 (by decide) (by decide) (by decide) (by decide) ?_
      refine lv_sipush (v := nI 1000) hx hb dX10_rank_94 (by decide) ?_
      refine lv_aload_n hx hb dX10_rank_97 rfl (lv_at hl 0 rfl) ?_
      refine va_get (D := G) (ci := 10) (v := .ref (g 12)) (C := RX10) (T := TX10) (N := 31) hx hb hts hin10 hown hK.1 hP 2 rfl rfl 12 (by decide) k_2 (fun _ h9 => h9) rfl dX10_rank_98 ?_
      refine lv_bipush (v := nI 21) hx hb dX10_rank_101 (by decide) ?_
      refine lv_iload_n hx hb dX10_rank_103 rfl (lv_at hl 1 rfl) ?_
      refine lv_iadd hx hb dX10_rank_104 ?_
      refine top_i (y := nI (21 + k)) (nI_add _ _) ?_
      refine ald hx hb hK hP 1 0 rfl rfl (j := 21 + k) (by omega) (by omega) dX10_rank_105 ?_
      refine lv_iadd hx hb dX10_rank_106 ?_
      exact endI hx hb hr hlocks (()) (An1_ok (by omega) hk ((rki4.trans (by rw [vp3 (by omega)])).symm)) (hP.sub [2, 0, 1] rfl) (hD.sub [2, 0, 1] (by decide) rfl) hS dX10_rank_107
    by_cases w_5 : q = nI 5
    · skip
      subst w_5
      refine lv_tableIn (tgt := 108) (off := 92) hx hb dX10_rank_16 (by decide) (by decide) (by decide) (by decide) ?_
      refine lv_aload_n hx hb dX10_rank_108 rfl (lv_at hl 0 rfl) ?_
      refine va_get (D := G) (ci := 10) (v := .ref (g 12)) (C := RX10) (T := TX10) (N := 31) hx hb hts hin10 hown hK.1 hP 2 rfl rfl 12 (by decide) k_2 (fun _ h9 => h9) rfl dX10_rank_109 ?_
      refine lv_bipush (v := nI 28) hx hb dX10_rank_112 (by decide) ?_
      refine lv_iload_n hx hb dX10_rank_114 rfl (lv_at hl 1 rfl) ?_
      refine lv_iadd hx hb dX10_rank_115 ?_
      refine top_i (y := nI (28 + k)) (nI_add _ _) ?_
      refine ald hx hb hK hP 1 0 rfl rfl (j := 28 + k) (by omega) (by omega) dX10_rank_116 ?_
      exact endI hx hb hr hlocks (()) (An1_ok (by omega) hk ((rki5.trans (vp4 (by omega))).symm)) (hP.sub [2, 0, 1] rfl) (hD.sub [2, 0, 1] (by decide) rfl) hS dX10_rank_117
    by_cases w_6 : q = nI 6
    · skip
      subst w_6
      refine lv_tableIn (tgt := 118) (off := 102) hx hb dX10_rank_16 (by decide) (by decide) (by decide) (by decide) ?_
      refine lv_aload_n hx hb dX10_rank_118 rfl (lv_at hl 0 rfl) ?_
      refine va_get (D := G) (ci := 10) (v := .ref (g 12)) (C := RX10) (T := TX10) (N := 31) hx hb hts hin10 hown hK.1 hP 2 rfl rfl 12 (by decide) k_2 (fun _ h9 => h9) rfl dX10_rank_119 ?_
      refine lv_bipush (v := nI 35) hx hb dX10_rank_122 (by decide) ?_
      refine lv_iload_n hx hb dX10_rank_124 rfl (lv_at hl 1 rfl) ?_
      refine lv_iadd hx hb dX10_rank_125 ?_
      refine top_i (y := nI (35 + k)) (nI_add _ _) ?_
      refine ald hx hb hK hP 1 0 rfl rfl (j := 35 + k) (by omega) (by omega) dX10_rank_126 ?_
      exact endI hx hb hr hlocks (()) (An1_ok (by omega) hk ((rki6.trans (vp5 (by omega))).symm)) (hP.sub [2, 0, 1] rfl) (hD.sub [2, 0, 1] (by decide) rfl) hS dX10_rank_127
    refine lv_tableOut (tgt := 128) hx hb dX10_rank_16 (sw_out (hi := 6) 7 (by omega) (by decide) (by decide) (fun j hj => by rcases (show j = 0 ∨ j = 1 ∨ j = 2 ∨ j = 3 ∨ j = 4 ∨ j = 5 ∨ j = 6 by omega) with rfl | rfl | rfl | rfl | rfl | rfl | rfl <;> assumption)) (by decide) ?_
    refine lv_bipush (v := (-2)) hx hb dX10_rank_128 (by decide) ?_
    exact endI hx hb hr hlocks (()) (An1_ok (by omega) hk (rkI_no w_0 w_1 w_2 w_3 w_4 w_5 w_6).symm) (hP.sub [2, 0, 1] rfl) (hD.sub [2, 0, 1] (by decide) rfl) hS dX10_rank_130
  · skip
    have c_10 := bI_t c_10
    refine lv_iconst (v := (-1)) hx hb dX10_rank_13 (by decide) ?_
    exact endI hx hb hr hlocks (()) (An1_no c_10) (hP.sub [2, 0, 1] rfl) (hD.sub [2, 0, 1] (by decide) rfl) hS dX10_rank_14

set_option maxHeartbeats 4000000 in
set_option maxRecDepth 100000 in
theorem c_X10_tenthsOf {l : Launch} {G : va_G} {cI cJ cZ cS : ClassId} (g : Nat → Nat) (ts : Nat) (pl : Nat) (rk : Nat) (sl : Nat) (rr : Nat) (rs : Nat) (ac : Nat) (tc : Nat) (sd : Int64) (td9 : Int64) (tn : Nat → Nat) (k : Nat) (u : Nat) (v : Nat) (hk : k < 7) (hu : u < 5) (hv : v < 5) (hs : sumN (slT tn k u) 5 ≤ 10) : CI l G (kT cI cJ cZ cS) (S := Unit) yX10_tenthsOf wsX10_tenthsOf { frames := 0, cells := 0, slots := 0, locals := 0 } [.ref (g 0), .int (nI k), .int (nI u), .int (nI v)] [(g 0, .inr (10, [.int (nI 0), .ref (g 1), .int (nI ts), .int (nI pl), .int (nI rk), .ref (g 5), .int (nI sl), .ref (g 7), .int (nI rr), .int (nI rs), .ref (g 10), .ref (g 11), .ref (g 12), .long sd, .ref (g 14), .ref (g 15), .int (nI ac), .ref (g 17), .ref (g 18), .ref (g 19), .int (nI tc), .ref (g 21), .ref (g 22), .ref (g 23), .ref (g 24), .long td9, .ref (g 26), .ref (g 27), .ref (g 28), .ref (g 29), .ref (g 30)])), (g 7, .inl (cI, 175, .inl (fun i9 => nI (tn i9))))] (fun res _ => res = nI (wayT tn k u v)) (fun _ => [(g 0, .inr (10, [.int (nI 0), .ref (g 1), .int (nI ts), .int (nI pl), .int (nI rk), .ref (g 5), .int (nI sl), .ref (g 7), .int (nI rr), .int (nI rs), .ref (g 10), .ref (g 11), .ref (g 12), .long sd, .ref (g 14), .ref (g 15), .int (nI ac), .ref (g 17), .ref (g 18), .ref (g 19), .int (nI tc), .ref (g 21), .ref (g 22), .ref (g 23), .ref (g 24), .long td9, .ref (g 26), .ref (g 27), .ref (g 28), .ref (g 29), .ref (g 30)])), (g 7, .inl (cI, 175, .inl (fun i9 => nI (tn i9))))]) := by
  refine CI.of (cc := cX10_tenthsOf) (maxL := 6) (by decide) rfl (Nat.le_of_ble_eq_true rfl) ?_
  intro p9 e9 s m below meth co9 A ls hB
  obtain ⟨hx, hb, hml, hr, hts, hown, hlocks, hmn, hK, hP, hD, hS, hA, hl⟩ := hB
  have hP : va_P G vwCl [(g 0, .inr (10, [.int (nI 0), .ref (g 1), .int (nI ts), .int (nI pl), .int (nI rk), .ref (g 5), .int (nI sl), .ref (g 7), .int (nI rr), .int (nI rs), .ref (g 10), .ref (g 11), .ref (g 12), .long sd, .ref (g 14), .ref (g 15), .int (nI ac), .ref (g 17), .ref (g 18), .ref (g 19), .int (nI tc), .ref (g 21), .ref (g 22), .ref (g 23), .ref (g 24), .long td9, .ref (g 26), .ref (g 27), .ref (g 28), .ref (g 29), .ref (g 30)])), (g 7, .inl (cI, 175, .inl (fun i9 => nI (tn i9))))] s.heap := hP
  have hD : va_D A [(g 0, .inr (10, [.int (nI 0), .ref (g 1), .int (nI ts), .int (nI pl), .int (nI rk), .ref (g 5), .int (nI sl), .ref (g 7), .int (nI rr), .int (nI rs), .ref (g 10), .ref (g 11), .ref (g 12), .long sd, .ref (g 14), .ref (g 15), .int (nI ac), .ref (g 17), .ref (g 18), .ref (g 19), .int (nI tc), .ref (g 21), .ref (g 22), .ref (g 23), .ref (g 24), .long td9, .ref (g 26), .ref (g 27), .ref (g 28), .ref (g 29), .ref (g 30)])), (g 7, .inl (cI, 175, .inl (fun i9 => nI (tn i9))))] := hD
  have hl : lv_has ls 6 [(0, .ref (g 0)), (1, .int (nI k)), (2, .int (nI u)), (3, .int (nI v))] := hl
  have k_0 := hts (.fieldLink RX10 16 "HearsayMarchModel" "tenths" "[I") (by decide +kernel)
  have hin10 : ∀ w ∈ wsX100, w ∈ wsX10_tenthsOf := by decide +kernel
  refine lv_iload_n hx hb dX10_tenthsOf_0 rfl (lv_at hl 2 rfl) ?_
  refine lv_iload_n hx hb dX10_tenthsOf_1 rfl (lv_at hl 3 rfl) ?_
  refine lv_icmp_eq (tgt := 21) hx hb dX10_tenthsOf_2 (by decide) (fun c_2 => ?_) (fun c_2 => ?_)
  · skip
    have c_2 := n_eqT c_2 (by omega) (by omega)
    refine lv_bipush (v := nI 10) hx hb dX10_tenthsOf_21 (by decide) ?_
    refine lv_istore (lv' := [(4, .int (nI 10)), (0, .ref (g 0)), (1, .int (nI k)), (2, .int (nI u)), (3, .int (nI v))]) hx hb dX10_tenthsOf_23 hl (by decide) rfl (fun ls hl => ?_)
    refine lv_iconst (v := nI 0) hx hb dX10_tenthsOf_25 (by decide) ?_
    refine lv_istore (lv' := [(5, .int (nI 0)), (4, .int (nI 10)), (0, .ref (g 0)), (1, .int (nI k)), (2, .int (nI u)), (3, .int (nI v))]) hx hb dX10_tenthsOf_26 hl (by decide) rfl (fun ls hl => ?_)
    have hl : lv_has ls 6 [(5, .int (nI 0)), (4, .int (nI (10 - sumN (slT tn k u) 0))), (0, .ref (g 0)), (1, .int (nI k)), (2, .int (nI u)), (3, .int (nI v))] := hl
    refine loopW (σ := Nat) 28 (fun (i : Nat) H locs ls => (i ≤ 5) ∧ va_P G vwCl [(g 0, .inr (10, [.int (nI 0), .ref (g 1), .int (nI ts), .int (nI pl), .int (nI rk), .ref (g 5), .int (nI sl), .ref (g 7), .int (nI rr), .int (nI rs), .ref (g 10), .ref (g 11), .ref (g 12), .long sd, .ref (g 14), .ref (g 15), .int (nI ac), .ref (g 17), .ref (g 18), .ref (g 19), .int (nI tc), .ref (g 21), .ref (g 22), .ref (g 23), .ref (g 24), .long td9, .ref (g 26), .ref (g 27), .ref (g 28), .ref (g 29), .ref (g 30)])), (g 7, .inl (cI, 175, .inl (fun i9 => nI (tn i9))))] H ∧ va_D A [(g 0, .inr (10, [.int (nI 0), .ref (g 1), .int (nI ts), .int (nI pl), .int (nI rk), .ref (g 5), .int (nI sl), .ref (g 7), .int (nI rr), .int (nI rs), .ref (g 10), .ref (g 11), .ref (g 12), .long sd, .ref (g 14), .ref (g 15), .int (nI ac), .ref (g 17), .ref (g 18), .ref (g 19), .int (nI tc), .ref (g 21), .ref (g 22), .ref (g 23), .ref (g 24), .long td9, .ref (g 26), .ref (g 27), .ref (g 28), .ref (g 29), .ref (g 30)])), (g 7, .inl (cI, 175, .inl (fun i9 => nI (tn i9))))] ∧ va_S A s.heap H locs ∧ lv_has ls 6 [(5, .int (nI i)), (4, .int (nI (10 - sumN (slT tn k u) i))), (0, .ref (g 0)), (1, .int (nI k)), (2, .int (nI u)), (3, .int (nI v))]) (fun (i : Nat) => []) (fun (i : Nat) => 5 - i) ?_ 0 ⟨by first | assumption | omega | (simp; done), hP.sub [0, 1] rfl, hD.sub [0, 1] (by decide) rfl, hS, lv_sub hl [0, 1, 2, 3, 4, 5] rfl⟩
    intro xx9 H locs ls hI ih_28
    obtain ⟨i, rfl⟩ : ∃ z, z = xx9 := ⟨_, rfl⟩
    obtain ⟨hi, hP, hD, hS, hl⟩ := hI
    have hi : i ≤ 5 := hi
    have hP : va_P G vwCl [(g 0, .inr (10, [.int (nI 0), .ref (g 1), .int (nI ts), .int (nI pl), .int (nI rk), .ref (g 5), .int (nI sl), .ref (g 7), .int (nI rr), .int (nI rs), .ref (g 10), .ref (g 11), .ref (g 12), .long sd, .ref (g 14), .ref (g 15), .int (nI ac), .ref (g 17), .ref (g 18), .ref (g 19), .int (nI tc), .ref (g 21), .ref (g 22), .ref (g 23), .ref (g 24), .long td9, .ref (g 26), .ref (g 27), .ref (g 28), .ref (g 29), .ref (g 30)])), (g 7, .inl (cI, 175, .inl (fun i9 => nI (tn i9))))] _ := hP
    have hD : va_D A [(g 0, .inr (10, [.int (nI 0), .ref (g 1), .int (nI ts), .int (nI pl), .int (nI rk), .ref (g 5), .int (nI sl), .ref (g 7), .int (nI rr), .int (nI rs), .ref (g 10), .ref (g 11), .ref (g 12), .long sd, .ref (g 14), .ref (g 15), .int (nI ac), .ref (g 17), .ref (g 18), .ref (g 19), .int (nI tc), .ref (g 21), .ref (g 22), .ref (g 23), .ref (g 24), .long td9, .ref (g 26), .ref (g 27), .ref (g 28), .ref (g 29), .ref (g 30)])), (g 7, .inl (cI, 175, .inl (fun i9 => nI (tn i9))))] := hD
    have hl : lv_has ls 6 [(5, .int (nI i)), (4, .int (nI (10 - sumN (slT tn k u) i))), (0, .ref (g 0)), (1, .int (nI k)), (2, .int (nI u)), (3, .int (nI v))] := hl
    refine lv_iload hx hb dX10_tenthsOf_28 (lv_at hl 0 rfl) ?_
    refine lv_iconst (v := nI 5) hx hb dX10_tenthsOf_30 (by decide) ?_
    refine lv_icmp_ge (tgt := 61) hx hb dX10_tenthsOf_31 (by decide) (fun c_31 => ?_) (fun c_31 => ?_)
    · skip
      have c_31 := n_geT c_31 (by omega) (by omega)
      refine lv_iload hx hb dX10_tenthsOf_61 (lv_at hl 1 rfl) ?_
      exact endI hx hb hr hlocks (()) (by rw [wayT, if_pos c_2, show i = 5 by omega]) (hP.sub [0, 1] rfl) (hD.sub [0, 1] (by decide) rfl) hS dX10_tenthsOf_63
    · skip
      have c_31 := n_geF c_31 (by omega) (by omega)
      refine lv_iload hx hb dX10_tenthsOf_34 (lv_at hl 1 rfl) ?_
      refine lv_aload_n hx hb dX10_tenthsOf_36 rfl (lv_at hl 2 rfl) ?_
      refine va_get (D := G) (ci := 10) (v := .ref (g 7)) (C := RX10) (T := TX10) (N := 31) hx hb hts hin10 hown hK.1 hP 0 rfl rfl 7 (by decide) k_0 (fun _ h9 => h9) rfl dX10_tenthsOf_37 ?_
      refine lv_bipush (v := nI 25) hx hb dX10_tenthsOf_40 (by decide) ?_
      refine lv_iload_n hx hb dX10_tenthsOf_42 rfl (lv_at hl 3 rfl) ?_
      refine lv_imul hx hb dX10_tenthsOf_43 ?_
      refine top_i (y := nI (25 * k)) (pk_mul _ _) ?_
      refine lv_iconst (v := nI 5) hx hb dX10_tenthsOf_44 (by decide) ?_
      refine lv_iload_n hx hb dX10_tenthsOf_45 rfl (lv_at hl 4 rfl) ?_
      refine lv_imul hx hb dX10_tenthsOf_46 ?_
      refine top_i (y := nI (5 * u)) (pk_mul _ _) ?_
      refine lv_iadd hx hb dX10_tenthsOf_47 ?_
      refine top_i (y := nI (25 * k + (5 * u))) (nI_add _ _) ?_
      refine lv_iload hx hb dX10_tenthsOf_48 (lv_at hl 0 rfl) ?_
      refine lv_iadd hx hb dX10_tenthsOf_50 ?_
      refine top_i (y := nI (25 * k + (5 * u) + i)) (nI_add _ _) ?_
      refine ald hx hb hK hP 1 0 rfl rfl (j := 25 * k + (5 * u) + i) (by omega) (by omega) dX10_tenthsOf_51 ?_
      refine top_i (y := nI (slT tn k u i)) (by rw [slT, show (k * 5 + u) * 5 + i = 25 * k + 5 * u + i by omega]) ?_
      have hw9 : sumN (slT tn k u) i + slT tn k u i ≤ sumN (slT tn k u) 5 := sumN_le5 (slT tn k u) (n := i + 1) (by omega)
      refine lv_isub hx hb dX10_tenthsOf_52 ?_
      refine top_i (y := nI ((10 - sumN (slT tn k u) i) - (slT tn k u i))) (pk_sub (by omega)) ?_
      refine top_i (y := nI (10 - sumN (slT tn k u) (i + 1))) (by rw [Nat.sub_sub]; rfl) ?_
      refine lv_istore (lv' := [(4, .int (nI (10 - sumN (slT tn k u) (i + 1)))), (5, .int (nI i)), (0, .ref (g 0)), (1, .int (nI k)), (2, .int (nI u)), (3, .int (nI v))]) hx hb dX10_tenthsOf_53 hl (by decide) rfl (fun ls hl => ?_)
      refine lv_iinc (v := nI (i + 1)) (lv' := [(5, .int (nI (i + 1))), (4, .int (nI (10 - sumN (slT tn k u) (i + 1)))), (0, .ref (g 0)), (1, .int (nI k)), (2, .int (nI u)), (3, .int (nI v))]) hx hb dX10_tenthsOf_55 hl (k := 1) rfl (nI_inc _ 1 1 (by decide)) (by decide) rfl (fun ls hl => ?_)
      refine lv_goto (tgt := 28) hx hb dX10_tenthsOf_58 (by decide) ?_
      exact ih_28 (i + 1) _ _ _ (by first | omega | (simp only []; omega) | (show _ < _; omega)) ⟨by first | assumption | omega | (simp; done), hP.sub [0, 1] rfl, hD.sub [0, 1] (by decide) rfl, hS, lv_sub hl [0, 1, 2, 3, 4, 5] rfl⟩
  · skip
    have c_2 := n_eqF c_2 (by omega) (by omega)
    refine lv_aload_n hx hb dX10_tenthsOf_5 rfl (lv_at hl 0 rfl) ?_
    refine va_get (D := G) (ci := 10) (v := .ref (g 7)) (C := RX10) (T := TX10) (N := 31) hx hb hts hin10 hown hK.1 hP 0 rfl rfl 7 (by decide) k_0 (fun _ h9 => h9) rfl dX10_tenthsOf_6 ?_
    refine lv_bipush (v := nI 25) hx hb dX10_tenthsOf_9 (by decide) ?_
    refine lv_iload_n hx hb dX10_tenthsOf_11 rfl (lv_at hl 1 rfl) ?_
    refine lv_imul hx hb dX10_tenthsOf_12 ?_
    refine top_i (y := nI (25 * k)) (pk_mul _ _) ?_
    refine lv_iconst (v := nI 5) hx hb dX10_tenthsOf_13 (by decide) ?_
    refine lv_iload_n hx hb dX10_tenthsOf_14 rfl (lv_at hl 2 rfl) ?_
    refine lv_imul hx hb dX10_tenthsOf_15 ?_
    refine top_i (y := nI (5 * u)) (pk_mul _ _) ?_
    refine lv_iadd hx hb dX10_tenthsOf_16 ?_
    refine top_i (y := nI (25 * k + (5 * u))) (nI_add _ _) ?_
    refine lv_iload_n hx hb dX10_tenthsOf_17 rfl (lv_at hl 3 rfl) ?_
    refine lv_iadd hx hb dX10_tenthsOf_18 ?_
    refine top_i (y := nI (25 * k + (5 * u) + v)) (nI_add _ _) ?_
    refine ald hx hb hK hP 1 0 rfl rfl (j := 25 * k + (5 * u) + v) (by omega) (by omega) dX10_tenthsOf_19 ?_
    refine top_i (y := nI (slT tn k u v)) (by rw [slT, show (k * 5 + u) * 5 + v = 25 * k + 5 * u + v by omega]) ?_
    exact endI hx hb hr hlocks (()) (by rw [wayT, if_neg c_2]) (hP.sub [0, 1] rfl) (hD.sub [0, 1] (by decide) rfl) hS dX10_tenthsOf_20

set_option maxHeartbeats 4000000 in
set_option maxRecDepth 100000 in
theorem c_X10_slip {l : Launch} {G : va_G} {cI cJ cZ cS : ClassId} (g : Nat → Nat) (ts : Nat) (pl : Nat) (rk : Nat) (sl : Nat) (rr : Nat) (rs : Nat) (ac : Nat) (tc : Nat) (sd : Int64) (td9 : Int64) (kd : Nat → Nat) (tn : Nat → Nat) (r : Int32) (u : Int32) (w : Int32) (hrk : rk < 8) (hok : ArmyOk kd tn) : CI l G (kT cI cJ cZ cS) (S := Unit) yX10_slip wsX10_slip { frames := 2, cells := 0, slots := 0, locals := 46 } [.ref (g 0), .int r, .int u, .int w] [(g 0, .inr (10, [.int (nI 0), .ref (g 1), .int (nI ts), .int (nI pl), .int (nI rk), .ref (g 5), .int (nI sl), .ref (g 7), .int (nI rr), .int (nI rs), .ref (g 10), .ref (g 11), .ref (g 12), .long sd, .ref (g 14), .ref (g 15), .int (nI ac), .ref (g 17), .ref (g 18), .ref (g 19), .int (nI tc), .ref (g 21), .ref (g 22), .ref (g 23), .ref (g 24), .long td9, .ref (g 26), .ref (g 27), .ref (g 28), .ref (g 29), .ref (g 30)])), (g 7, .inl (cI, 175, .inl (fun i9 => nI (tn i9))))] (fun res _ => An3 rk r u w (fun k9 o9 w9 => nI (wayT tn k9 o9 w9)) (-1) res) (fun _ => [(g 0, .inr (10, [.int (nI 0), .ref (g 1), .int (nI ts), .int (nI pl), .int (nI rk), .ref (g 5), .int (nI sl), .ref (g 7), .int (nI rr), .int (nI rs), .ref (g 10), .ref (g 11), .ref (g 12), .long sd, .ref (g 14), .ref (g 15), .int (nI ac), .ref (g 17), .ref (g 18), .ref (g 19), .int (nI tc), .ref (g 21), .ref (g 22), .ref (g 23), .ref (g 24), .long td9, .ref (g 26), .ref (g 27), .ref (g 28), .ref (g 29), .ref (g 30)])), (g 7, .inl (cI, 175, .inl (fun i9 => nI (tn i9))))]) := by
  refine CI.of (cc := cX10_slip) (maxL := 4) (by decide) rfl (Nat.le_of_ble_eq_true rfl) ?_
  intro p9 e9 s m below meth co9 A ls hB
  obtain ⟨hx, hb, hml, hr, hts, hown, hlocks, hmn, hK, hP, hD, hS, hA, hl⟩ := hB
  have hP : va_P G vwCl [(g 0, .inr (10, [.int (nI 0), .ref (g 1), .int (nI ts), .int (nI pl), .int (nI rk), .ref (g 5), .int (nI sl), .ref (g 7), .int (nI rr), .int (nI rs), .ref (g 10), .ref (g 11), .ref (g 12), .long sd, .ref (g 14), .ref (g 15), .int (nI ac), .ref (g 17), .ref (g 18), .ref (g 19), .int (nI tc), .ref (g 21), .ref (g 22), .ref (g 23), .ref (g 24), .long td9, .ref (g 26), .ref (g 27), .ref (g 28), .ref (g 29), .ref (g 30)])), (g 7, .inl (cI, 175, .inl (fun i9 => nI (tn i9))))] s.heap := hP
  have hD : va_D A [(g 0, .inr (10, [.int (nI 0), .ref (g 1), .int (nI ts), .int (nI pl), .int (nI rk), .ref (g 5), .int (nI sl), .ref (g 7), .int (nI rr), .int (nI rs), .ref (g 10), .ref (g 11), .ref (g 12), .long sd, .ref (g 14), .ref (g 15), .int (nI ac), .ref (g 17), .ref (g 18), .ref (g 19), .int (nI tc), .ref (g 21), .ref (g 22), .ref (g 23), .ref (g 24), .long td9, .ref (g 26), .ref (g 27), .ref (g 28), .ref (g 29), .ref (g 30)])), (g 7, .inl (cI, 175, .inl (fun i9 => nI (tn i9))))] := hD
  have hl : lv_has ls 4 [(0, .ref (g 0)), (1, .int r), (2, .int u), (3, .int w)] := hl
  have k_0 := hts (.fieldLink RX10 72 "HearsayMarchModel" "thrown" "I") (by decide +kernel)
  have hin10 : ∀ w ∈ wsX100, w ∈ wsX10_slip := by decide +kernel
  refine lv_aload_n hx hb dX10_slip_0 rfl (lv_at hl 0 rfl) ?_
  refine lv_iconst (v := nI 0) hx hb dX10_slip_1 (by decide) ?_
  refine va_put (D := G) (ci := 10) (v := .int (nI 0)) (ty := tyX10 0) (C := RX10) (T := TX10) (N := 31) hx hb hts hin10 tyX10 tyX10_ok nmX10 hown hK.1 hP hD hS 0 rfl rfl 0 (by decide) k_0 (fun _ h9 => h9) rfl (by decide +kernel) rfl rfl (Nat.le_of_ble_eq_true rfl) dX10_slip_2 (fun H locs hP hD hS => ?_)
  have hP : va_P G vwCl [(g 0, .inr (10, [.int (nI 0), .ref (g 1), .int (nI ts), .int (nI pl), .int (nI rk), .ref (g 5), .int (nI sl), .ref (g 7), .int (nI rr), .int (nI rs), .ref (g 10), .ref (g 11), .ref (g 12), .long sd, .ref (g 14), .ref (g 15), .int (nI ac), .ref (g 17), .ref (g 18), .ref (g 19), .int (nI tc), .ref (g 21), .ref (g 22), .ref (g 23), .ref (g 24), .long td9, .ref (g 26), .ref (g 27), .ref (g 28), .ref (g 29), .ref (g 30)])), (g 7, .inl (cI, 175, .inl (fun i9 => nI (tn i9))))] _ := hP
  have hD : va_D A [(g 0, .inr (10, [.int (nI 0), .ref (g 1), .int (nI ts), .int (nI pl), .int (nI rk), .ref (g 5), .int (nI sl), .ref (g 7), .int (nI rr), .int (nI rs), .ref (g 10), .ref (g 11), .ref (g 12), .long sd, .ref (g 14), .ref (g 15), .int (nI ac), .ref (g 17), .ref (g 18), .ref (g 19), .int (nI tc), .ref (g 21), .ref (g 22), .ref (g 23), .ref (g 24), .long td9, .ref (g 26), .ref (g 27), .ref (g 28), .ref (g 29), .ref (g 30)])), (g 7, .inl (cI, 175, .inl (fun i9 => nI (tn i9))))] := hD
  refine lv_aload_n hx hb dX10_slip_5 rfl (lv_at hl 0 rfl) ?_
  refine lv_iload_n hx hb dX10_slip_6 rfl (lv_at hl 1 rfl) ?_
  refine aft_i (wr := [(g 7, .inl (cI, 175, .inl (fun i9 => nI (tn i9))))]) (va_runV (As := [.int r]) (rest := []) ⟨hx, hb, hml, hown, hts⟩ (c_X10_noRank (g := g) (ts := ts) (pl := pl) (rk := rk) (sl := sl) (rr := rr) (rs := rs) (ac := ac) (tc := tc) (sd := sd) (td9 := td9) (r := r) (hrk := by first | assumption | omega | exact hok.1 _ (by omega) | exact hok.2.2 _ _ (by omega) (by omega) | exact hok.2.1) _) (cwV 1 hts gX10_slip_X10_noRank rfl rfl rfl (by decide +kernel) ⟨Nat.le_of_ble_eq_true rfl, Nat.le_of_ble_eq_true rfl⟩) (preV (cq := (RX10, TX10, 31)) (q0 := 0) (ci := 10) hK hP hD [0] rfl rfl rfl rfl) rfl rfl hl.1 rfl (lv_room (Nat.le_of_ble_eq_true rfl)) dX10_slip_7 ⟨Nat.le_of_ble_eq_true rfl, Nat.le_of_ble_eq_true rfl⟩) hP hD hS hA [0] [1] rfl rfl rfl (by decide) (fun r_7 uu9 H locs hw hP hD hS => ?_)
  have hP : va_P G vwCl [(g 7, .inl (cI, 175, .inl (fun i9 => nI (tn i9)))), (g 0, .inr (10, [.int (nI 0), .ref (g 1), .int (nI ts), .int (nI pl), .int (nI rk), .ref (g 5), .int (nI sl), .ref (g 7), .int (nI rr), .int (nI rs), .ref (g 10), .ref (g 11), .ref (g 12), .long sd, .ref (g 14), .ref (g 15), .int (nI ac), .ref (g 17), .ref (g 18), .ref (g 19), .int (nI tc), .ref (g 21), .ref (g 22), .ref (g 23), .ref (g 24), .long td9, .ref (g 26), .ref (g 27), .ref (g 28), .ref (g 29), .ref (g 30)]))] _ := hP
  have hD : va_D A [(g 7, .inl (cI, 175, .inl (fun i9 => nI (tn i9)))), (g 0, .inr (10, [.int (nI 0), .ref (g 1), .int (nI ts), .int (nI pl), .int (nI rk), .ref (g 5), .int (nI sl), .ref (g 7), .int (nI rr), .int (nI rs), .ref (g 10), .ref (g 11), .ref (g 12), .long sd, .ref (g 14), .ref (g 15), .int (nI ac), .ref (g 17), .ref (g 18), .ref (g 19), .int (nI tc), .ref (g 21), .ref (g 22), .ref (g 23), .ref (g 24), .long td9, .ref (g 26), .ref (g 27), .ref (g 28), .ref (g 29), .ref (g 30)]))] := hD
  obtain rfl := hw
  refine top_i (y := bI (¬ isR rk r)) rfl ?_
  refine lv_if_ne (tgt := 27) hx hb dX10_slip_10 (by decide) (fun c_10 => ?_) (fun c_10 => ?_)
  · skip
    have c_10 := bI_t c_10
    refine lv_iconst (v := (-1)) hx hb dX10_slip_27 (by decide) ?_
    refine lv_goto (tgt := 38) hx hb dX10_slip_28 (by decide) ?_
    exact endI hx hb hr hlocks (()) (An3_no (fun h => c_10 h.1)) (hP.sub [1, 0] rfl) (hD.sub [1, 0] (by decide) rfl) hS dX10_slip_38
  · skip
    have c_10 := bI_f c_10
    have c_10 := Classical.not_not.mp c_10
    obtain ⟨k, hk, rfl⟩ := c_10
    refine lv_iload_n hx hb dX10_slip_13 rfl (lv_at hl 2 rfl) ?_
    refine aft_i (wr := [(g 7, .inl (cI, 175, .inl (fun i9 => nI (tn i9)))), (g 0, .inr (10, [.int (nI 0), .ref (g 1), .int (nI ts), .int (nI pl), .int (nI rk), .ref (g 5), .int (nI sl), .ref (g 7), .int (nI rr), .int (nI rs), .ref (g 10), .ref (g 11), .ref (g 12), .long sd, .ref (g 14), .ref (g 15), .int (nI ac), .ref (g 17), .ref (g 18), .ref (g 19), .int (nI tc), .ref (g 21), .ref (g 22), .ref (g 23), .ref (g 24), .long td9, .ref (g 26), .ref (g 27), .ref (g 28), .ref (g 29), .ref (g 30)]))]) (va_runS (As := [.int u]) (rest := []) ⟨hx, hb, hml, hown, hts⟩ (c_X10_noOrder (r := u) _) (va_cwS 1 hts gX10_slip_X10_noOrder rfl rfl rfl (by decide +kernel) ⟨Nat.le_of_ble_eq_true rfl, Nat.le_of_ble_eq_true rfl⟩) (preS hK hP hD [] rfl rfl) rfl rfl hl.1 rfl (lv_room (Nat.le_of_ble_eq_true rfl)) dX10_slip_14 ⟨Nat.le_of_ble_eq_true rfl, Nat.le_of_ble_eq_true rfl⟩) hP hD hS hA [] [0, 1] rfl rfl rfl (by decide) (fun r_14 uu9 H locs hw hP hD hS => ?_)
    have hP : va_P G vwCl [(g 7, .inl (cI, 175, .inl (fun i9 => nI (tn i9)))), (g 0, .inr (10, [.int (nI 0), .ref (g 1), .int (nI ts), .int (nI pl), .int (nI rk), .ref (g 5), .int (nI sl), .ref (g 7), .int (nI rr), .int (nI rs), .ref (g 10), .ref (g 11), .ref (g 12), .long sd, .ref (g 14), .ref (g 15), .int (nI ac), .ref (g 17), .ref (g 18), .ref (g 19), .int (nI tc), .ref (g 21), .ref (g 22), .ref (g 23), .ref (g 24), .long td9, .ref (g 26), .ref (g 27), .ref (g 28), .ref (g 29), .ref (g 30)]))] _ := hP
    have hD : va_D A [(g 7, .inl (cI, 175, .inl (fun i9 => nI (tn i9)))), (g 0, .inr (10, [.int (nI 0), .ref (g 1), .int (nI ts), .int (nI pl), .int (nI rk), .ref (g 5), .int (nI sl), .ref (g 7), .int (nI rr), .int (nI rs), .ref (g 10), .ref (g 11), .ref (g 12), .long sd, .ref (g 14), .ref (g 15), .int (nI ac), .ref (g 17), .ref (g 18), .ref (g 19), .int (nI tc), .ref (g 21), .ref (g 22), .ref (g 23), .ref (g 24), .long td9, .ref (g 26), .ref (g 27), .ref (g 28), .ref (g 29), .ref (g 30)]))] := hD
    obtain rfl := hw
    refine top_i (y := bI (¬ isR 5 u)) rfl ?_
    refine lv_if_ne (tgt := 27) hx hb dX10_slip_17 (by decide) (fun c_17 => ?_) (fun c_17 => ?_)
    · skip
      have c_17 := bI_t c_17
      refine lv_iconst (v := (-1)) hx hb dX10_slip_27 (by decide) ?_
      refine lv_goto (tgt := 38) hx hb dX10_slip_28 (by decide) ?_
      exact endI hx hb hr hlocks (()) (An3_no (fun h => c_17 h.2.1)) (hP.sub [1, 0] rfl) (hD.sub [1, 0] (by decide) rfl) hS dX10_slip_38
    · skip
      have c_17 := bI_f c_17
      have c_17 := Classical.not_not.mp c_17
      obtain ⟨o, ho, rfl⟩ := c_17
      refine lv_iload_n hx hb dX10_slip_20 rfl (lv_at hl 3 rfl) ?_
      refine aft_i (wr := [(g 7, .inl (cI, 175, .inl (fun i9 => nI (tn i9)))), (g 0, .inr (10, [.int (nI 0), .ref (g 1), .int (nI ts), .int (nI pl), .int (nI rk), .ref (g 5), .int (nI sl), .ref (g 7), .int (nI rr), .int (nI rs), .ref (g 10), .ref (g 11), .ref (g 12), .long sd, .ref (g 14), .ref (g 15), .int (nI ac), .ref (g 17), .ref (g 18), .ref (g 19), .int (nI tc), .ref (g 21), .ref (g 22), .ref (g 23), .ref (g 24), .long td9, .ref (g 26), .ref (g 27), .ref (g 28), .ref (g 29), .ref (g 30)]))]) (va_runS (As := [.int w]) (rest := []) ⟨hx, hb, hml, hown, hts⟩ (c_X10_noOrder (r := w) _) (va_cwS 1 hts gX10_slip_X10_noOrder rfl rfl rfl (by decide +kernel) ⟨Nat.le_of_ble_eq_true rfl, Nat.le_of_ble_eq_true rfl⟩) (preS hK hP hD [] rfl rfl) rfl rfl hl.1 rfl (lv_room (Nat.le_of_ble_eq_true rfl)) dX10_slip_21 ⟨Nat.le_of_ble_eq_true rfl, Nat.le_of_ble_eq_true rfl⟩) hP hD hS hA [] [0, 1] rfl rfl rfl (by decide) (fun r_21 uu9 H locs hw hP hD hS => ?_)
      have hP : va_P G vwCl [(g 7, .inl (cI, 175, .inl (fun i9 => nI (tn i9)))), (g 0, .inr (10, [.int (nI 0), .ref (g 1), .int (nI ts), .int (nI pl), .int (nI rk), .ref (g 5), .int (nI sl), .ref (g 7), .int (nI rr), .int (nI rs), .ref (g 10), .ref (g 11), .ref (g 12), .long sd, .ref (g 14), .ref (g 15), .int (nI ac), .ref (g 17), .ref (g 18), .ref (g 19), .int (nI tc), .ref (g 21), .ref (g 22), .ref (g 23), .ref (g 24), .long td9, .ref (g 26), .ref (g 27), .ref (g 28), .ref (g 29), .ref (g 30)]))] _ := hP
      have hD : va_D A [(g 7, .inl (cI, 175, .inl (fun i9 => nI (tn i9)))), (g 0, .inr (10, [.int (nI 0), .ref (g 1), .int (nI ts), .int (nI pl), .int (nI rk), .ref (g 5), .int (nI sl), .ref (g 7), .int (nI rr), .int (nI rs), .ref (g 10), .ref (g 11), .ref (g 12), .long sd, .ref (g 14), .ref (g 15), .int (nI ac), .ref (g 17), .ref (g 18), .ref (g 19), .int (nI tc), .ref (g 21), .ref (g 22), .ref (g 23), .ref (g 24), .long td9, .ref (g 26), .ref (g 27), .ref (g 28), .ref (g 29), .ref (g 30)]))] := hD
      obtain rfl := hw
      refine top_i (y := bI (¬ isR 5 w)) rfl ?_
      refine lv_if_eq (tgt := 31) hx hb dX10_slip_24 (by decide) (fun c_24 => ?_) (fun c_24 => ?_)
      · skip
        have c_24 := bI_f c_24
        have c_24 := Classical.not_not.mp c_24
        obtain ⟨x, hx9, rfl⟩ := c_24
        refine lv_aload_n hx hb dX10_slip_31 rfl (lv_at hl 0 rfl) ?_
        refine lv_iload_n hx hb dX10_slip_32 rfl (lv_at hl 1 rfl) ?_
        refine lv_iload_n hx hb dX10_slip_33 rfl (lv_at hl 2 rfl) ?_
        refine lv_iload_n hx hb dX10_slip_34 rfl (lv_at hl 3 rfl) ?_
        refine aft_i (wr := []) (va_runV (As := [.int (nI k), .int (nI o), .int (nI x)]) (rest := []) ⟨hx, hb, hml, hown, hts⟩ (c_X10_tenthsOf (g := g) (ts := ts) (pl := pl) (rk := rk) (sl := sl) (rr := rr) (rs := rs) (ac := ac) (tc := tc) (sd := sd) (td9 := td9) (tn := tn) (k := k) (u := o) (v := x) (hk := by omega) (hu := by first | assumption | omega | exact hok.1 _ (by omega) | exact hok.2.2 _ _ (by omega) (by omega) | exact hok.2.1) (hv := by first | assumption | omega | exact hok.1 _ (by omega) | exact hok.2.2 _ _ (by omega) (by omega) | exact hok.2.1) (hs := hok.2.2 _ _ (by omega) ho) _) (cwV 3 hts gX10_slip_X10_tenthsOf rfl rfl rfl (by decide +kernel) ⟨Nat.le_of_ble_eq_true rfl, Nat.le_of_ble_eq_true rfl⟩) (preV (cq := (RX10, TX10, 31)) (q0 := 1) (ci := 10) hK hP hD [1, 0] rfl rfl rfl rfl) rfl rfl hl.1 rfl (lv_room (Nat.le_of_ble_eq_true rfl)) dX10_slip_35 ⟨Nat.le_of_ble_eq_true rfl, Nat.le_of_ble_eq_true rfl⟩) hP hD hS hA [1, 0] [] rfl rfl rfl (by decide) (fun r_35 uu9 H locs hw hP hD hS => ?_)
        have hP : va_P G vwCl [(g 0, .inr (10, [.int (nI 0), .ref (g 1), .int (nI ts), .int (nI pl), .int (nI rk), .ref (g 5), .int (nI sl), .ref (g 7), .int (nI rr), .int (nI rs), .ref (g 10), .ref (g 11), .ref (g 12), .long sd, .ref (g 14), .ref (g 15), .int (nI ac), .ref (g 17), .ref (g 18), .ref (g 19), .int (nI tc), .ref (g 21), .ref (g 22), .ref (g 23), .ref (g 24), .long td9, .ref (g 26), .ref (g 27), .ref (g 28), .ref (g 29), .ref (g 30)])), (g 7, .inl (cI, 175, .inl (fun i9 => nI (tn i9))))] _ := hP
        have hD : va_D A [(g 0, .inr (10, [.int (nI 0), .ref (g 1), .int (nI ts), .int (nI pl), .int (nI rk), .ref (g 5), .int (nI sl), .ref (g 7), .int (nI rr), .int (nI rs), .ref (g 10), .ref (g 11), .ref (g 12), .long sd, .ref (g 14), .ref (g 15), .int (nI ac), .ref (g 17), .ref (g 18), .ref (g 19), .int (nI tc), .ref (g 21), .ref (g 22), .ref (g 23), .ref (g 24), .long td9, .ref (g 26), .ref (g 27), .ref (g 28), .ref (g 29), .ref (g 30)])), (g 7, .inl (cI, 175, .inl (fun i9 => nI (tn i9))))] := hD
        obtain rfl := hw
        refine top_i (y := nI (wayT tn k o x)) rfl ?_
        exact endI hx hb hr hlocks (()) (An3_ok (by omega) hk ho hx9 rfl) (hP.sub [0, 1] rfl) (hD.sub [0, 1] (by decide) rfl) hS dX10_slip_38
      · skip
        have c_24 := bI_t c_24
        refine lv_iconst (v := (-1)) hx hb dX10_slip_27 (by decide) ?_
        refine lv_goto (tgt := 38) hx hb dX10_slip_28 (by decide) ?_
        exact endI hx hb hr hlocks (()) (An3_no (fun h => c_24 h.2.2)) (hP.sub [1, 0] rfl) (hD.sub [1, 0] (by decide) rfl) hS dX10_slip_38

set_option maxHeartbeats 4000000 in
set_option maxRecDepth 100000 in
theorem c_X10_seed {l : Launch} {G : va_G} {cI cJ cZ cS : ClassId} (g : Nat → Nat) (ts : Nat) (pl : Nat) (rk : Nat) (sl : Nat) (rr : Nat) (rs : Nat) (ac : Nat) (tc : Nat) (sd : Int64) (td9 : Int64) (z : Int64) : CL l G (kT cI cJ cZ cS) (S := Unit) yX10_seed wsX10_seed { frames := 0, cells := 0, slots := 0, locals := 0 } [.ref (g 0), .long z] [(g 0, .inr (10, [.int (nI 0), .ref (g 1), .int (nI ts), .int (nI pl), .int (nI rk), .ref (g 5), .int (nI sl), .ref (g 7), .int (nI rr), .int (nI rs), .ref (g 10), .ref (g 11), .ref (g 12), .long sd, .ref (g 14), .ref (g 15), .int (nI ac), .ref (g 17), .ref (g 18), .ref (g 19), .int (nI tc), .ref (g 21), .ref (g 22), .ref (g 23), .ref (g 24), .long td9, .ref (g 26), .ref (g 27), .ref (g 28), .ref (g 29), .ref (g 30)]))] (fun res _ => res = sd) (fun _ => [(g 0, .inr (10, [.int (nI 0), .ref (g 1), .int (nI ts), .int (nI pl), .int (nI rk), .ref (g 5), .int (nI sl), .ref (g 7), .int (nI rr), .int (nI rs), .ref (g 10), .ref (g 11), .ref (g 12), .long z, .ref (g 14), .ref (g 15), .int (nI ac), .ref (g 17), .ref (g 18), .ref (g 19), .int (nI tc), .ref (g 21), .ref (g 22), .ref (g 23), .ref (g 24), .long td9, .ref (g 26), .ref (g 27), .ref (g 28), .ref (g 29), .ref (g 30)]))]) := by
  refine CL.of (cc := cX10_seed) (maxL := 5) (by decide) rfl (Nat.le_of_ble_eq_true rfl) ?_
  intro p9 e9 s m below meth co9 A ls hB
  obtain ⟨hx, hb, hml, hr, hts, hown, hlocks, hmn, hK, hP, hD, hS, hA, hl⟩ := hB
  have hP : va_P G vwCl [(g 0, .inr (10, [.int (nI 0), .ref (g 1), .int (nI ts), .int (nI pl), .int (nI rk), .ref (g 5), .int (nI sl), .ref (g 7), .int (nI rr), .int (nI rs), .ref (g 10), .ref (g 11), .ref (g 12), .long sd, .ref (g 14), .ref (g 15), .int (nI ac), .ref (g 17), .ref (g 18), .ref (g 19), .int (nI tc), .ref (g 21), .ref (g 22), .ref (g 23), .ref (g 24), .long td9, .ref (g 26), .ref (g 27), .ref (g 28), .ref (g 29), .ref (g 30)]))] s.heap := hP
  have hD : va_D A [(g 0, .inr (10, [.int (nI 0), .ref (g 1), .int (nI ts), .int (nI pl), .int (nI rk), .ref (g 5), .int (nI sl), .ref (g 7), .int (nI rr), .int (nI rs), .ref (g 10), .ref (g 11), .ref (g 12), .long sd, .ref (g 14), .ref (g 15), .int (nI ac), .ref (g 17), .ref (g 18), .ref (g 19), .int (nI tc), .ref (g 21), .ref (g 22), .ref (g 23), .ref (g 24), .long td9, .ref (g 26), .ref (g 27), .ref (g 28), .ref (g 29), .ref (g 30)]))] := hD
  have hl : lv_has ls 5 [(0, .ref (g 0)), (1, .long z)] := hl
  have k_0 := hts (.fieldLink RX10 72 "HearsayMarchModel" "thrown" "I") (by decide +kernel)
  have k_1 := hts (.fieldLink RX10 146 "HearsayMarchModel" "seed" "J") (by decide +kernel)
  have hin10 : ∀ w ∈ wsX100, w ∈ wsX10_seed := by decide +kernel
  refine lv_aload_n hx hb dX10_seed_0 rfl (lv_at hl 0 rfl) ?_
  refine lv_iconst (v := nI 0) hx hb dX10_seed_1 (by decide) ?_
  refine va_put (D := G) (ci := 10) (v := .int (nI 0)) (ty := tyX10 0) (C := RX10) (T := TX10) (N := 31) hx hb hts hin10 tyX10 tyX10_ok nmX10 hown hK.1 hP hD hS 0 rfl rfl 0 (by decide) k_0 (fun _ h9 => h9) rfl (by decide +kernel) rfl rfl (Nat.le_of_ble_eq_true rfl) dX10_seed_2 (fun H locs hP hD hS => ?_)
  have hP : va_P G vwCl [(g 0, .inr (10, [.int (nI 0), .ref (g 1), .int (nI ts), .int (nI pl), .int (nI rk), .ref (g 5), .int (nI sl), .ref (g 7), .int (nI rr), .int (nI rs), .ref (g 10), .ref (g 11), .ref (g 12), .long sd, .ref (g 14), .ref (g 15), .int (nI ac), .ref (g 17), .ref (g 18), .ref (g 19), .int (nI tc), .ref (g 21), .ref (g 22), .ref (g 23), .ref (g 24), .long td9, .ref (g 26), .ref (g 27), .ref (g 28), .ref (g 29), .ref (g 30)]))] _ := hP
  have hD : va_D A [(g 0, .inr (10, [.int (nI 0), .ref (g 1), .int (nI ts), .int (nI pl), .int (nI rk), .ref (g 5), .int (nI sl), .ref (g 7), .int (nI rr), .int (nI rs), .ref (g 10), .ref (g 11), .ref (g 12), .long sd, .ref (g 14), .ref (g 15), .int (nI ac), .ref (g 17), .ref (g 18), .ref (g 19), .int (nI tc), .ref (g 21), .ref (g 22), .ref (g 23), .ref (g 24), .long td9, .ref (g 26), .ref (g 27), .ref (g 28), .ref (g 29), .ref (g 30)]))] := hD
  refine lv_aload_n hx hb dX10_seed_5 rfl (lv_at hl 0 rfl) ?_
  refine va_get (D := G) (ci := 10) (v := .long sd) (C := RX10) (T := TX10) (N := 31) hx hb hts hin10 hown hK.1 hP 0 rfl rfl 13 (by decide) k_1 (fun _ h9 => h9) rfl dX10_seed_6 ?_
  refine lv_lstore_n (lv' := [(3, .long sd), (0, .ref (g 0)), (1, .long z)]) hx hb dX10_seed_9 rfl hl (by decide) rfl (fun ls hl => ?_)
  refine lv_aload_n hx hb dX10_seed_10 rfl (lv_at hl 1 rfl) ?_
  refine lv_lload_n hx hb dX10_seed_11 rfl (lv_at hl 2 rfl) ?_
  refine va_put (D := G) (ci := 10) (v := .long z) (ty := tyX10 13) (C := RX10) (T := TX10) (N := 31) hx hb hts hin10 tyX10 tyX10_ok nmX10 hown hK.1 hP hD hS 0 rfl rfl 13 (by decide) k_1 (fun _ h9 => h9) rfl (by decide +kernel) rfl rfl (Nat.le_of_ble_eq_true rfl) dX10_seed_12 (fun H locs hP hD hS => ?_)
  have hP : va_P G vwCl [(g 0, .inr (10, [.int (nI 0), .ref (g 1), .int (nI ts), .int (nI pl), .int (nI rk), .ref (g 5), .int (nI sl), .ref (g 7), .int (nI rr), .int (nI rs), .ref (g 10), .ref (g 11), .ref (g 12), .long z, .ref (g 14), .ref (g 15), .int (nI ac), .ref (g 17), .ref (g 18), .ref (g 19), .int (nI tc), .ref (g 21), .ref (g 22), .ref (g 23), .ref (g 24), .long td9, .ref (g 26), .ref (g 27), .ref (g 28), .ref (g 29), .ref (g 30)]))] _ := hP
  have hD : va_D A [(g 0, .inr (10, [.int (nI 0), .ref (g 1), .int (nI ts), .int (nI pl), .int (nI rk), .ref (g 5), .int (nI sl), .ref (g 7), .int (nI rr), .int (nI rs), .ref (g 10), .ref (g 11), .ref (g 12), .long z, .ref (g 14), .ref (g 15), .int (nI ac), .ref (g 17), .ref (g 18), .ref (g 19), .int (nI tc), .ref (g 21), .ref (g 22), .ref (g 23), .ref (g 24), .long td9, .ref (g 26), .ref (g 27), .ref (g 28), .ref (g 29), .ref (g 30)]))] := hD
  refine lv_lload_n hx hb dX10_seed_15 rfl (lv_at hl 0 rfl) ?_
  exact endL hx hb hr hlocks (()) (rfl) (hP.sub [0] rfl) (hD.sub [0] (by decide) rfl) hS dX10_seed_16

set_option maxHeartbeats 4000000 in
set_option maxRecDepth 100000 in
theorem c_X10_turned {l : Launch} {G : va_G} {cI cJ cZ cS : ClassId} (g : Nat → Nat) (ts : Nat) (pl : Nat) (rk : Nat) (sl : Nat) (rr : Nat) (rs : Nat) (ac : Nat) (tc : Nat) (sd : Int64) (td9 : Int64) (kd : Nat → Nat) (k : Nat) (o : Nat) (hk : k < 7) (hkd : kd k < 4) (ho : o < 5) : CI l G (kT cI cJ cZ cS) (S := Unit) yX10_turned wsX10_turned { frames := 0, cells := 0, slots := 0, locals := 0 } [.ref (g 0), .int (nI k), .int (nI o)] [(g 0, .inr (10, [.int (nI 0), .ref (g 1), .int (nI ts), .int (nI pl), .int (nI rk), .ref (g 5), .int (nI sl), .ref (g 7), .int (nI rr), .int (nI rs), .ref (g 10), .ref (g 11), .ref (g 12), .long sd, .ref (g 14), .ref (g 15), .int (nI ac), .ref (g 17), .ref (g 18), .ref (g 19), .int (nI tc), .ref (g 21), .ref (g 22), .ref (g 23), .ref (g 24), .long td9, .ref (g 26), .ref (g 27), .ref (g 28), .ref (g 29), .ref (g 30)])), (g 5, .inl (cI, 7, .inl (fun i9 => nI (kd i9))))] (fun res _ => res = nI (turnN (kd k) o)) (fun _ => [(g 0, .inr (10, [.int (nI 0), .ref (g 1), .int (nI ts), .int (nI pl), .int (nI rk), .ref (g 5), .int (nI sl), .ref (g 7), .int (nI rr), .int (nI rs), .ref (g 10), .ref (g 11), .ref (g 12), .long sd, .ref (g 14), .ref (g 15), .int (nI ac), .ref (g 17), .ref (g 18), .ref (g 19), .int (nI tc), .ref (g 21), .ref (g 22), .ref (g 23), .ref (g 24), .long td9, .ref (g 26), .ref (g 27), .ref (g 28), .ref (g 29), .ref (g 30)])), (g 5, .inl (cI, 7, .inl (fun i9 => nI (kd i9))))]) := by
  refine CI.of (cc := cX10_turned) (maxL := 3) (by decide) rfl (Nat.le_of_ble_eq_true rfl) ?_
  intro p9 e9 s m below meth co9 A ls hB
  obtain ⟨hx, hb, hml, hr, hts, hown, hlocks, hmn, hK, hP, hD, hS, hA, hl⟩ := hB
  have hP : va_P G vwCl [(g 0, .inr (10, [.int (nI 0), .ref (g 1), .int (nI ts), .int (nI pl), .int (nI rk), .ref (g 5), .int (nI sl), .ref (g 7), .int (nI rr), .int (nI rs), .ref (g 10), .ref (g 11), .ref (g 12), .long sd, .ref (g 14), .ref (g 15), .int (nI ac), .ref (g 17), .ref (g 18), .ref (g 19), .int (nI tc), .ref (g 21), .ref (g 22), .ref (g 23), .ref (g 24), .long td9, .ref (g 26), .ref (g 27), .ref (g 28), .ref (g 29), .ref (g 30)])), (g 5, .inl (cI, 7, .inl (fun i9 => nI (kd i9))))] s.heap := hP
  have hD : va_D A [(g 0, .inr (10, [.int (nI 0), .ref (g 1), .int (nI ts), .int (nI pl), .int (nI rk), .ref (g 5), .int (nI sl), .ref (g 7), .int (nI rr), .int (nI rs), .ref (g 10), .ref (g 11), .ref (g 12), .long sd, .ref (g 14), .ref (g 15), .int (nI ac), .ref (g 17), .ref (g 18), .ref (g 19), .int (nI tc), .ref (g 21), .ref (g 22), .ref (g 23), .ref (g 24), .long td9, .ref (g 26), .ref (g 27), .ref (g 28), .ref (g 29), .ref (g 30)])), (g 5, .inl (cI, 7, .inl (fun i9 => nI (kd i9))))] := hD
  have hl : lv_has ls 3 [(0, .ref (g 0)), (1, .int (nI k)), (2, .int (nI o))] := hl
  have k_0 := hts (.fieldLink RX10 13 "HearsayMarchModel" "kind" "[I") (by decide +kernel)
  have hin10 : ∀ w ∈ wsX100, w ∈ wsX10_turned := by decide +kernel
  refine lv_aload_n hx hb dX10_turned_0 rfl (lv_at hl 0 rfl) ?_
  refine va_get (D := G) (ci := 10) (v := .ref (g 5)) (C := RX10) (T := TX10) (N := 31) hx hb hts hin10 hown hK.1 hP 0 rfl rfl 5 (by decide) k_0 (fun _ h9 => h9) rfl dX10_turned_1 ?_
  refine lv_iload_n hx hb dX10_turned_4 rfl (lv_at hl 1 rfl) ?_
  refine ald hx hb hK hP 1 0 rfl rfl (j := k) (by omega) (by omega) dX10_turned_5 ?_
  refine lv_iconst (v := nI 2) hx hb dX10_turned_6 (by decide) ?_
  refine lv_icmp_ne (tgt := 19) hx hb dX10_turned_7 (by decide) (fun c_7 => ?_) (fun c_7 => ?_)
  · skip
    have c_7 := n_neT c_7 (by omega) (by omega)
    refine lv_aload_n hx hb dX10_turned_19 rfl (lv_at hl 0 rfl) ?_
    refine va_get (D := G) (ci := 10) (v := .ref (g 5)) (C := RX10) (T := TX10) (N := 31) hx hb hts hin10 hown hK.1 hP 0 rfl rfl 5 (by decide) k_0 (fun _ h9 => h9) rfl dX10_turned_20 ?_
    refine lv_iload_n hx hb dX10_turned_23 rfl (lv_at hl 1 rfl) ?_
    refine ald hx hb hK hP 1 0 rfl rfl (j := k) (by omega) (by omega) dX10_turned_24 ?_
    refine lv_iconst (v := nI 2) hx hb dX10_turned_25 (by decide) ?_
    refine lv_icmp_ne (tgt := 38) hx hb dX10_turned_26 (by decide) (fun c_26 => ?_) (fun c_26 => ?_)
    · skip
      have c_26 := n_neT c_26 (by omega) (by omega)
      refine lv_iload_n hx hb dX10_turned_38 rfl (lv_at hl 2 rfl) ?_
      exact endI hx hb hr hlocks (()) (by first | (exfalso; omega) | (unfold turnN; repeat (first | rw [if_pos (by omega)] | rw [if_neg (by omega)]))) (hP.sub [0, 1] rfl) (hD.sub [0, 1] (by decide) rfl) hS dX10_turned_39
    · skip
      have c_26 := n_neF c_26 (by omega) (by omega)
      refine lv_iload_n hx hb dX10_turned_29 rfl (lv_at hl 2 rfl) ?_
      refine lv_iconst (v := nI 3) hx hb dX10_turned_30 (by decide) ?_
      refine lv_icmp_ne (tgt := 38) hx hb dX10_turned_31 (by decide) (fun c_31 => ?_) (fun c_31 => ?_)
      · skip
        have c_31 := n_neT c_31 (by omega) (by omega)
        refine lv_iload_n hx hb dX10_turned_38 rfl (lv_at hl 2 rfl) ?_
        exact endI hx hb hr hlocks (()) (by first | (exfalso; omega) | (unfold turnN; repeat (first | rw [if_pos (by omega)] | rw [if_neg (by omega)]))) (hP.sub [0, 1] rfl) (hD.sub [0, 1] (by decide) rfl) hS dX10_turned_39
      · skip
        have c_31 := n_neF c_31 (by omega) (by omega)
        refine lv_iconst (v := nI 2) hx hb dX10_turned_34 (by decide) ?_
        refine lv_goto (tgt := 39) hx hb dX10_turned_35 (by decide) ?_
        exact endI hx hb hr hlocks (()) (by first | (exfalso; omega) | (unfold turnN; repeat (first | rw [if_pos (by omega)] | rw [if_neg (by omega)]))) (hP.sub [0, 1] rfl) (hD.sub [0, 1] (by decide) rfl) hS dX10_turned_39
  · skip
    have c_7 := n_neF c_7 (by omega) (by omega)
    refine lv_iload_n hx hb dX10_turned_10 rfl (lv_at hl 2 rfl) ?_
    refine lv_iconst (v := nI 2) hx hb dX10_turned_11 (by decide) ?_
    refine lv_icmp_ne (tgt := 19) hx hb dX10_turned_12 (by decide) (fun c_12 => ?_) (fun c_12 => ?_)
    · skip
      have c_12 := n_neT c_12 (by omega) (by omega)
      refine lv_aload_n hx hb dX10_turned_19 rfl (lv_at hl 0 rfl) ?_
      refine va_get (D := G) (ci := 10) (v := .ref (g 5)) (C := RX10) (T := TX10) (N := 31) hx hb hts hin10 hown hK.1 hP 0 rfl rfl 5 (by decide) k_0 (fun _ h9 => h9) rfl dX10_turned_20 ?_
      refine lv_iload_n hx hb dX10_turned_23 rfl (lv_at hl 1 rfl) ?_
      refine ald hx hb hK hP 1 0 rfl rfl (j := k) (by omega) (by omega) dX10_turned_24 ?_
      refine lv_iconst (v := nI 2) hx hb dX10_turned_25 (by decide) ?_
      refine lv_icmp_ne (tgt := 38) hx hb dX10_turned_26 (by decide) (fun c_26 => ?_) (fun c_26 => ?_)
      · skip
        have c_26 := n_neT c_26 (by omega) (by omega)
        refine lv_iload_n hx hb dX10_turned_38 rfl (lv_at hl 2 rfl) ?_
        exact endI hx hb hr hlocks (()) (by first | (exfalso; omega) | (unfold turnN; repeat (first | rw [if_pos (by omega)] | rw [if_neg (by omega)]))) (hP.sub [0, 1] rfl) (hD.sub [0, 1] (by decide) rfl) hS dX10_turned_39
      · skip
        have c_26 := n_neF c_26 (by omega) (by omega)
        refine lv_iload_n hx hb dX10_turned_29 rfl (lv_at hl 2 rfl) ?_
        refine lv_iconst (v := nI 3) hx hb dX10_turned_30 (by decide) ?_
        refine lv_icmp_ne (tgt := 38) hx hb dX10_turned_31 (by decide) (fun c_31 => ?_) (fun c_31 => ?_)
        · skip
          have c_31 := n_neT c_31 (by omega) (by omega)
          refine lv_iload_n hx hb dX10_turned_38 rfl (lv_at hl 2 rfl) ?_
          exact endI hx hb hr hlocks (()) (by first | (exfalso; omega) | (unfold turnN; repeat (first | rw [if_pos (by omega)] | rw [if_neg (by omega)]))) (hP.sub [0, 1] rfl) (hD.sub [0, 1] (by decide) rfl) hS dX10_turned_39
        · skip
          have c_31 := n_neF c_31 (by omega) (by omega)
          refine lv_iconst (v := nI 2) hx hb dX10_turned_34 (by decide) ?_
          refine lv_goto (tgt := 39) hx hb dX10_turned_35 (by decide) ?_
          exact endI hx hb hr hlocks (()) (by first | (exfalso; omega) | (unfold turnN; repeat (first | rw [if_pos (by omega)] | rw [if_neg (by omega)]))) (hP.sub [0, 1] rfl) (hD.sub [0, 1] (by decide) rfl) hS dX10_turned_39
    · skip
      have c_12 := n_neF c_12 (by omega) (by omega)
      refine lv_iconst (v := nI 3) hx hb dX10_turned_15 (by decide) ?_
      refine lv_goto (tgt := 39) hx hb dX10_turned_16 (by decide) ?_
      exact endI hx hb hr hlocks (()) (by first | (exfalso; omega) | (unfold turnN; repeat (first | rw [if_pos (by omega)] | rw [if_neg (by omega)]))) (hP.sub [0, 1] rfl) (hD.sub [0, 1] (by decide) rfl) hS dX10_turned_39

set_option maxHeartbeats 4000000 in
set_option maxRecDepth 100000 in
theorem c_X10_hear {l : Launch} {G : va_G} {cI cJ cZ cS : ClassId} (g : Nat → Nat) (ts : Nat) (pl : Nat) (rk : Nat) (sl : Nat) (rr : Nat) (rs : Nat) (ac : Nat) (tc : Nat) (sd : Int64) (td9 : Int64) (kd : Nat → Nat) (pa : Nat) (pg : Nat → Int32) (k : Nat) (o : Nat) (hk : k < 7) (hkd : kd k < 4) : CV l G (kT cI cJ cZ cS) (S := Nat → Int32) yX10_hear wsX10_hear { frames := 0, cells := 0, slots := 0, locals := 0 } [.ref (g 0), .ref pa, .int (nI k), .int (nI o)] [(g 0, .inr (10, [.int (nI 0), .ref (g 1), .int (nI ts), .int (nI pl), .int (nI rk), .ref (g 5), .int (nI sl), .ref (g 7), .int (nI rr), .int (nI rs), .ref (g 10), .ref (g 11), .ref (g 12), .long sd, .ref (g 14), .ref (g 15), .int (nI ac), .ref (g 17), .ref (g 18), .ref (g 19), .int (nI tc), .ref (g 21), .ref (g 22), .ref (g 23), .ref (g 24), .long td9, .ref (g 26), .ref (g 27), .ref (g 28), .ref (g 29), .ref (g 30)])), (g 5, .inl (cI, 7, .inl (fun i9 => nI (kd i9)))), (pa, .inl (cI, 50, .inl pg))] (fun q1 => vOf q1 = takeV (kd k) (vOf pg) k o ∧ q1 49 = pg 49) (fun q1 => [(g 0, .inr (10, [.int (nI 0), .ref (g 1), .int (nI ts), .int (nI pl), .int (nI rk), .ref (g 5), .int (nI sl), .ref (g 7), .int (nI rr), .int (nI rs), .ref (g 10), .ref (g 11), .ref (g 12), .long sd, .ref (g 14), .ref (g 15), .int (nI ac), .ref (g 17), .ref (g 18), .ref (g 19), .int (nI tc), .ref (g 21), .ref (g 22), .ref (g 23), .ref (g 24), .long td9, .ref (g 26), .ref (g 27), .ref (g 28), .ref (g 29), .ref (g 30)])), (g 5, .inl (cI, 7, .inl (fun i9 => nI (kd i9)))), (pa, .inl (cI, 50, .inl q1))]) := by
  refine CV.of (cc := cX10_hear) (maxL := 4) (by decide) rfl (Nat.le_of_ble_eq_true rfl) ?_
  intro p9 e9 s m below meth co9 A ls hB
  obtain ⟨hx, hb, hml, hr, hts, hown, hlocks, hmn, hK, hP, hD, hS, hA, hl⟩ := hB
  have hP : va_P G vwCl [(g 0, .inr (10, [.int (nI 0), .ref (g 1), .int (nI ts), .int (nI pl), .int (nI rk), .ref (g 5), .int (nI sl), .ref (g 7), .int (nI rr), .int (nI rs), .ref (g 10), .ref (g 11), .ref (g 12), .long sd, .ref (g 14), .ref (g 15), .int (nI ac), .ref (g 17), .ref (g 18), .ref (g 19), .int (nI tc), .ref (g 21), .ref (g 22), .ref (g 23), .ref (g 24), .long td9, .ref (g 26), .ref (g 27), .ref (g 28), .ref (g 29), .ref (g 30)])), (g 5, .inl (cI, 7, .inl (fun i9 => nI (kd i9)))), (pa, .inl (cI, 50, .inl pg))] s.heap := hP
  have hD : va_D A [(g 0, .inr (10, [.int (nI 0), .ref (g 1), .int (nI ts), .int (nI pl), .int (nI rk), .ref (g 5), .int (nI sl), .ref (g 7), .int (nI rr), .int (nI rs), .ref (g 10), .ref (g 11), .ref (g 12), .long sd, .ref (g 14), .ref (g 15), .int (nI ac), .ref (g 17), .ref (g 18), .ref (g 19), .int (nI tc), .ref (g 21), .ref (g 22), .ref (g 23), .ref (g 24), .long td9, .ref (g 26), .ref (g 27), .ref (g 28), .ref (g 29), .ref (g 30)])), (g 5, .inl (cI, 7, .inl (fun i9 => nI (kd i9)))), (pa, .inl (cI, 50, .inl pg))] := hD
  have hl : lv_has ls 4 [(0, .ref (g 0)), (1, .ref pa), (2, .int (nI k)), (3, .int (nI o))] := hl
  have k_0 := hts (.fieldLink RX10 13 "HearsayMarchModel" "kind" "[I") (by decide +kernel)
  have hin10 : ∀ w ∈ wsX100, w ∈ wsX10_hear := by decide +kernel
  refine lv_aload_n hx hb dX10_hear_0 rfl (lv_at hl 1 rfl) ?_
  refine lv_bipush (v := nI 7) hx hb dX10_hear_1 (by decide) ?_
  refine lv_iload_n hx hb dX10_hear_3 rfl (lv_at hl 2 rfl) ?_
  refine lv_iadd hx hb dX10_hear_4 ?_
  refine top_i (y := nI (7 + k)) (nI_add _ _) ?_
  refine lv_aload_n hx hb dX10_hear_5 rfl (lv_at hl 1 rfl) ?_
  refine lv_iload_n hx hb dX10_hear_6 rfl (lv_at hl 2 rfl) ?_
  refine ald hx hb hK hP 2 0 rfl rfl (j := k) (by omega) (by omega) dX10_hear_7 ?_
  refine ast (f' := upd pg (7 + k) (pg k)) hx hb hK hP hD hS 2 0 rfl rfl (j := 7 + k) (by omega) (by omega) (rfl) dX10_hear_8 (fun H locs hP hD hS => ?_)
  have hP : va_P G vwCl [(g 0, .inr (10, [.int (nI 0), .ref (g 1), .int (nI ts), .int (nI pl), .int (nI rk), .ref (g 5), .int (nI sl), .ref (g 7), .int (nI rr), .int (nI rs), .ref (g 10), .ref (g 11), .ref (g 12), .long sd, .ref (g 14), .ref (g 15), .int (nI ac), .ref (g 17), .ref (g 18), .ref (g 19), .int (nI tc), .ref (g 21), .ref (g 22), .ref (g 23), .ref (g 24), .long td9, .ref (g 26), .ref (g 27), .ref (g 28), .ref (g 29), .ref (g 30)])), (g 5, .inl (cI, 7, .inl (fun i9 => nI (kd i9)))), (pa, .inl (cI, 50, .inl (upd pg (7 + k) (pg k))))] _ := hP
  have hD : va_D A [(g 0, .inr (10, [.int (nI 0), .ref (g 1), .int (nI ts), .int (nI pl), .int (nI rk), .ref (g 5), .int (nI sl), .ref (g 7), .int (nI rr), .int (nI rs), .ref (g 10), .ref (g 11), .ref (g 12), .long sd, .ref (g 14), .ref (g 15), .int (nI ac), .ref (g 17), .ref (g 18), .ref (g 19), .int (nI tc), .ref (g 21), .ref (g 22), .ref (g 23), .ref (g 24), .long td9, .ref (g 26), .ref (g 27), .ref (g 28), .ref (g 29), .ref (g 30)])), (g 5, .inl (cI, 7, .inl (fun i9 => nI (kd i9)))), (pa, .inl (cI, 50, .inl (upd pg (7 + k) (pg k))))] := hD
  refine lv_aload_n hx hb dX10_hear_9 rfl (lv_at hl 1 rfl) ?_
  refine lv_iload_n hx hb dX10_hear_10 rfl (lv_at hl 2 rfl) ?_
  refine lv_iload_n hx hb dX10_hear_11 rfl (lv_at hl 3 rfl) ?_
  refine ast (f' := upd (upd pg (7 + k) (pg k)) k (nI o)) hx hb hK hP hD hS 2 0 rfl rfl (j := k) (by omega) (by omega) (rfl) dX10_hear_12 (fun H locs hP hD hS => ?_)
  have hP : va_P G vwCl [(g 0, .inr (10, [.int (nI 0), .ref (g 1), .int (nI ts), .int (nI pl), .int (nI rk), .ref (g 5), .int (nI sl), .ref (g 7), .int (nI rr), .int (nI rs), .ref (g 10), .ref (g 11), .ref (g 12), .long sd, .ref (g 14), .ref (g 15), .int (nI ac), .ref (g 17), .ref (g 18), .ref (g 19), .int (nI tc), .ref (g 21), .ref (g 22), .ref (g 23), .ref (g 24), .long td9, .ref (g 26), .ref (g 27), .ref (g 28), .ref (g 29), .ref (g 30)])), (g 5, .inl (cI, 7, .inl (fun i9 => nI (kd i9)))), (pa, .inl (cI, 50, .inl (upd (upd pg (7 + k) (pg k)) k (nI o))))] _ := hP
  have hD : va_D A [(g 0, .inr (10, [.int (nI 0), .ref (g 1), .int (nI ts), .int (nI pl), .int (nI rk), .ref (g 5), .int (nI sl), .ref (g 7), .int (nI rr), .int (nI rs), .ref (g 10), .ref (g 11), .ref (g 12), .long sd, .ref (g 14), .ref (g 15), .int (nI ac), .ref (g 17), .ref (g 18), .ref (g 19), .int (nI tc), .ref (g 21), .ref (g 22), .ref (g 23), .ref (g 24), .long td9, .ref (g 26), .ref (g 27), .ref (g 28), .ref (g 29), .ref (g 30)])), (g 5, .inl (cI, 7, .inl (fun i9 => nI (kd i9)))), (pa, .inl (cI, 50, .inl (upd (upd pg (7 + k) (pg k)) k (nI o))))] := hD
  refine lv_aload_n hx hb dX10_hear_13 rfl (lv_at hl 1 rfl) ?_
  refine lv_bipush (v := nI 14) hx hb dX10_hear_14 (by decide) ?_
  refine lv_iload_n hx hb dX10_hear_16 rfl (lv_at hl 2 rfl) ?_
  refine lv_iadd hx hb dX10_hear_17 ?_
  refine top_i (y := nI (14 + k)) (nI_add _ _) ?_
  refine lv_aload_n hx hb dX10_hear_18 rfl (lv_at hl 0 rfl) ?_
  refine va_get (D := G) (ci := 10) (v := .ref (g 5)) (C := RX10) (T := TX10) (N := 31) hx hb hts hin10 hown hK.1 hP 0 rfl rfl 5 (by decide) k_0 (fun _ h9 => h9) rfl dX10_hear_19 ?_
  refine lv_iload_n hx hb dX10_hear_22 rfl (lv_at hl 2 rfl) ?_
  refine ald hx hb hK hP 1 0 rfl rfl (j := k) (by omega) (by omega) dX10_hear_23 ?_
  refine lv_iconst (v := nI 1) hx hb dX10_hear_24 (by decide) ?_
  refine lv_icmp_ne (tgt := 47) hx hb dX10_hear_25 (by decide) (fun c_25 => ?_) (fun c_25 => ?_)
  · skip
    have c_25 := n_neT c_25 (by omega) (by omega)
    refine lv_iload_n hx hb dX10_hear_47 rfl (lv_at hl 3 rfl) ?_
    refine ast (f' := upd (upd (upd pg (7 + k) (pg k)) k (nI o)) (14 + k) (nI o)) hx hb hK hP hD hS 2 0 rfl rfl (j := 14 + k) (by omega) (by omega) (rfl) dX10_hear_48 (fun H locs hP hD hS => ?_)
    have hP : va_P G vwCl [(g 0, .inr (10, [.int (nI 0), .ref (g 1), .int (nI ts), .int (nI pl), .int (nI rk), .ref (g 5), .int (nI sl), .ref (g 7), .int (nI rr), .int (nI rs), .ref (g 10), .ref (g 11), .ref (g 12), .long sd, .ref (g 14), .ref (g 15), .int (nI ac), .ref (g 17), .ref (g 18), .ref (g 19), .int (nI tc), .ref (g 21), .ref (g 22), .ref (g 23), .ref (g 24), .long td9, .ref (g 26), .ref (g 27), .ref (g 28), .ref (g 29), .ref (g 30)])), (g 5, .inl (cI, 7, .inl (fun i9 => nI (kd i9)))), (pa, .inl (cI, 50, .inl (upd (upd (upd pg (7 + k) (pg k)) k (nI o)) (14 + k) (nI o))))] _ := hP
    have hD : va_D A [(g 0, .inr (10, [.int (nI 0), .ref (g 1), .int (nI ts), .int (nI pl), .int (nI rk), .ref (g 5), .int (nI sl), .ref (g 7), .int (nI rr), .int (nI rs), .ref (g 10), .ref (g 11), .ref (g 12), .long sd, .ref (g 14), .ref (g 15), .int (nI ac), .ref (g 17), .ref (g 18), .ref (g 19), .int (nI tc), .ref (g 21), .ref (g 22), .ref (g 23), .ref (g 24), .long td9, .ref (g 26), .ref (g 27), .ref (g 28), .ref (g 29), .ref (g 30)])), (g 5, .inl (cI, 7, .inl (fun i9 => nI (kd i9)))), (pa, .inl (cI, 50, .inl (upd (upd (upd pg (7 + k) (pg k)) k (nI o)) (14 + k) (nI o))))] := hD
    exact endV hx hb hr hlocks (upd (upd (upd pg (7 + k) (pg k)) k (nI o)) (14 + k) (nI o)) (by first | exact ⟨hr_n hk (fun z => c_25 z.1), hr_49 hk⟩ | exact ⟨hr_n hk (fun z => z.2 ((vp0 hk).trans c_35)), hr_49 hk⟩ | exact ⟨hr_y hk c_25 (fun z => c_35 ((vp0 hk).symm.trans z)), hr_49 hk⟩) (hP.sub [0, 1, 2] rfl) (hD.sub [0, 1, 2] (by decide) rfl) hS dX10_hear_49
  · skip
    have c_25 := n_neF c_25 (by omega) (by omega)
    refine lv_aload_n hx hb dX10_hear_28 rfl (lv_at hl 1 rfl) ?_
    refine lv_bipush (v := nI 7) hx hb dX10_hear_29 (by decide) ?_
    refine lv_iload_n hx hb dX10_hear_31 rfl (lv_at hl 2 rfl) ?_
    refine lv_iadd hx hb dX10_hear_32 ?_
    refine top_i (y := nI (7 + k)) (nI_add _ _) ?_
    refine ald hx hb hK hP 2 0 rfl rfl (j := 7 + k) (by omega) (by omega) dX10_hear_33 ?_
    refine top_i (y := pg k) (hr_7 hk) ?_
    refine lv_iload_n hx hb dX10_hear_34 rfl (lv_at hl 3 rfl) ?_
    refine lv_icmp_eq (tgt := 47) hx hb dX10_hear_35 (by decide) (fun c_35 => ?_) (fun c_35 => ?_)
    · skip
      refine lv_iload_n hx hb dX10_hear_47 rfl (lv_at hl 3 rfl) ?_
      refine ast (f' := upd (upd (upd pg (7 + k) (pg k)) k (nI o)) (14 + k) (nI o)) hx hb hK hP hD hS 2 0 rfl rfl (j := 14 + k) (by omega) (by omega) (rfl) dX10_hear_48 (fun H locs hP hD hS => ?_)
      have hP : va_P G vwCl [(g 0, .inr (10, [.int (nI 0), .ref (g 1), .int (nI ts), .int (nI pl), .int (nI rk), .ref (g 5), .int (nI sl), .ref (g 7), .int (nI rr), .int (nI rs), .ref (g 10), .ref (g 11), .ref (g 12), .long sd, .ref (g 14), .ref (g 15), .int (nI ac), .ref (g 17), .ref (g 18), .ref (g 19), .int (nI tc), .ref (g 21), .ref (g 22), .ref (g 23), .ref (g 24), .long td9, .ref (g 26), .ref (g 27), .ref (g 28), .ref (g 29), .ref (g 30)])), (g 5, .inl (cI, 7, .inl (fun i9 => nI (kd i9)))), (pa, .inl (cI, 50, .inl (upd (upd (upd pg (7 + k) (pg k)) k (nI o)) (14 + k) (nI o))))] _ := hP
      have hD : va_D A [(g 0, .inr (10, [.int (nI 0), .ref (g 1), .int (nI ts), .int (nI pl), .int (nI rk), .ref (g 5), .int (nI sl), .ref (g 7), .int (nI rr), .int (nI rs), .ref (g 10), .ref (g 11), .ref (g 12), .long sd, .ref (g 14), .ref (g 15), .int (nI ac), .ref (g 17), .ref (g 18), .ref (g 19), .int (nI tc), .ref (g 21), .ref (g 22), .ref (g 23), .ref (g 24), .long td9, .ref (g 26), .ref (g 27), .ref (g 28), .ref (g 29), .ref (g 30)])), (g 5, .inl (cI, 7, .inl (fun i9 => nI (kd i9)))), (pa, .inl (cI, 50, .inl (upd (upd (upd pg (7 + k) (pg k)) k (nI o)) (14 + k) (nI o))))] := hD
      exact endV hx hb hr hlocks (upd (upd (upd pg (7 + k) (pg k)) k (nI o)) (14 + k) (nI o)) (by first | exact ⟨hr_n hk (fun z => c_25 z.1), hr_49 hk⟩ | exact ⟨hr_n hk (fun z => z.2 ((vp0 hk).trans c_35)), hr_49 hk⟩ | exact ⟨hr_y hk c_25 (fun z => c_35 ((vp0 hk).symm.trans z)), hr_49 hk⟩) (hP.sub [0, 1, 2] rfl) (hD.sub [0, 1, 2] (by decide) rfl) hS dX10_hear_49
    · skip
      refine lv_aload_n hx hb dX10_hear_38 rfl (lv_at hl 1 rfl) ?_
      refine lv_bipush (v := nI 14) hx hb dX10_hear_39 (by decide) ?_
      refine lv_iload_n hx hb dX10_hear_41 rfl (lv_at hl 2 rfl) ?_
      refine lv_iadd hx hb dX10_hear_42 ?_
      refine top_i (y := nI (14 + k)) (nI_add _ _) ?_
      refine ald hx hb hK hP 2 0 rfl rfl (j := 14 + k) (by omega) (by omega) dX10_hear_43 ?_
      refine top_i (y := pg (14 + k)) (hr_14 hk) ?_
      refine lv_goto (tgt := 48) hx hb dX10_hear_44 (by decide) ?_
      refine ast (f' := upd (upd (upd pg (7 + k) (pg k)) k (nI o)) (14 + k) (pg (14 + k))) hx hb hK hP hD hS 2 0 rfl rfl (j := 14 + k) (by omega) (by omega) (rfl) dX10_hear_48 (fun H locs hP hD hS => ?_)
      have hP : va_P G vwCl [(g 0, .inr (10, [.int (nI 0), .ref (g 1), .int (nI ts), .int (nI pl), .int (nI rk), .ref (g 5), .int (nI sl), .ref (g 7), .int (nI rr), .int (nI rs), .ref (g 10), .ref (g 11), .ref (g 12), .long sd, .ref (g 14), .ref (g 15), .int (nI ac), .ref (g 17), .ref (g 18), .ref (g 19), .int (nI tc), .ref (g 21), .ref (g 22), .ref (g 23), .ref (g 24), .long td9, .ref (g 26), .ref (g 27), .ref (g 28), .ref (g 29), .ref (g 30)])), (g 5, .inl (cI, 7, .inl (fun i9 => nI (kd i9)))), (pa, .inl (cI, 50, .inl (upd (upd (upd pg (7 + k) (pg k)) k (nI o)) (14 + k) (pg (14 + k)))))] _ := hP
      have hD : va_D A [(g 0, .inr (10, [.int (nI 0), .ref (g 1), .int (nI ts), .int (nI pl), .int (nI rk), .ref (g 5), .int (nI sl), .ref (g 7), .int (nI rr), .int (nI rs), .ref (g 10), .ref (g 11), .ref (g 12), .long sd, .ref (g 14), .ref (g 15), .int (nI ac), .ref (g 17), .ref (g 18), .ref (g 19), .int (nI tc), .ref (g 21), .ref (g 22), .ref (g 23), .ref (g 24), .long td9, .ref (g 26), .ref (g 27), .ref (g 28), .ref (g 29), .ref (g 30)])), (g 5, .inl (cI, 7, .inl (fun i9 => nI (kd i9)))), (pa, .inl (cI, 50, .inl (upd (upd (upd pg (7 + k) (pg k)) k (nI o)) (14 + k) (pg (14 + k)))))] := hD
      exact endV hx hb hr hlocks (upd (upd (upd pg (7 + k) (pg k)) k (nI o)) (14 + k) (pg (14 + k))) (by first | exact ⟨hr_n hk (fun z => c_25 z.1), hr_49 hk⟩ | exact ⟨hr_n hk (fun z => z.2 ((vp0 hk).trans c_35)), hr_49 hk⟩ | exact ⟨hr_y hk c_25 (fun z => c_35 ((vp0 hk).symm.trans z)), hr_49 hk⟩) (hP.sub [0, 1, 2] rfl) (hD.sub [0, 1, 2] (by decide) rfl) hS dX10_hear_49

set_option maxHeartbeats 4000000 in
set_option maxRecDepth 100000 in
theorem c_X10_tell {l : Launch} {G : va_G} {cI cJ cZ cS : ClassId} (g : Nat → Nat) (ts : Nat) (pl : Nat) (rk : Nat) (sl : Nat) (rr : Nat) (rs : Nat) (ac : Nat) (tc : Nat) (sd : Int64) (td9 : Int64) (kd : Nat → Nat) (pa : Nat) (pg : Nat → Int32) (k : Nat) (o : Nat) (hk : k < 7) (ho : o < 5) (hzk : vOf pg 6 k = nI 0 ∨ vOf pg 6 k = nI 1) (hkd : ∀ k, k < 7 → kd k < 4) : CI l G (kT cI cJ cZ cS) (S := Nat → Int32) yX10_tell wsX10_tell { frames := 1, cells := 0, slots := 0, locals := 23 } [.ref (g 0), .ref pa, .int (nI k), .int (nI o)] [(g 0, .inr (10, [.int (nI 0), .ref (g 1), .int (nI ts), .int (nI pl), .int (nI rk), .ref (g 5), .int (nI sl), .ref (g 7), .int (nI rr), .int (nI rs), .ref (g 10), .ref (g 11), .ref (g 12), .long sd, .ref (g 14), .ref (g 15), .int (nI ac), .ref (g 17), .ref (g 18), .ref (g 19), .int (nI tc), .ref (g 21), .ref (g 22), .ref (g 23), .ref (g 24), .long td9, .ref (g 26), .ref (g 27), .ref (g 28), .ref (g 29), .ref (g 30)])), (g 5, .inl (cI, 7, .inl (fun i9 => nI (kd i9)))), (pa, .inl (cI, 50, .inl pg))] (fun res q1 => res = tellR (kd k) (vOf pg) k o ∧ (vOf q1 = tellV (kd k) (vOf pg) k o ∧ q1 49 = pg 49)) (fun q1 => [(g 0, .inr (10, [.int (nI 0), .ref (g 1), .int (nI ts), .int (nI pl), .int (nI rk), .ref (g 5), .int (nI sl), .ref (g 7), .int (nI rr), .int (nI rs), .ref (g 10), .ref (g 11), .ref (g 12), .long sd, .ref (g 14), .ref (g 15), .int (nI ac), .ref (g 17), .ref (g 18), .ref (g 19), .int (nI tc), .ref (g 21), .ref (g 22), .ref (g 23), .ref (g 24), .long td9, .ref (g 26), .ref (g 27), .ref (g 28), .ref (g 29), .ref (g 30)])), (g 5, .inl (cI, 7, .inl (fun i9 => nI (kd i9)))), (pa, .inl (cI, 50, .inl q1))]) := by
  refine CI.of (cc := cX10_tell) (maxL := 4) (by decide) rfl (Nat.le_of_ble_eq_true rfl) ?_
  intro p9 e9 s m below meth co9 A ls hB
  obtain ⟨hx, hb, hml, hr, hts, hown, hlocks, hmn, hK, hP, hD, hS, hA, hl⟩ := hB
  have hP : va_P G vwCl [(g 0, .inr (10, [.int (nI 0), .ref (g 1), .int (nI ts), .int (nI pl), .int (nI rk), .ref (g 5), .int (nI sl), .ref (g 7), .int (nI rr), .int (nI rs), .ref (g 10), .ref (g 11), .ref (g 12), .long sd, .ref (g 14), .ref (g 15), .int (nI ac), .ref (g 17), .ref (g 18), .ref (g 19), .int (nI tc), .ref (g 21), .ref (g 22), .ref (g 23), .ref (g 24), .long td9, .ref (g 26), .ref (g 27), .ref (g 28), .ref (g 29), .ref (g 30)])), (g 5, .inl (cI, 7, .inl (fun i9 => nI (kd i9)))), (pa, .inl (cI, 50, .inl pg))] s.heap := hP
  have hD : va_D A [(g 0, .inr (10, [.int (nI 0), .ref (g 1), .int (nI ts), .int (nI pl), .int (nI rk), .ref (g 5), .int (nI sl), .ref (g 7), .int (nI rr), .int (nI rs), .ref (g 10), .ref (g 11), .ref (g 12), .long sd, .ref (g 14), .ref (g 15), .int (nI ac), .ref (g 17), .ref (g 18), .ref (g 19), .int (nI tc), .ref (g 21), .ref (g 22), .ref (g 23), .ref (g 24), .long td9, .ref (g 26), .ref (g 27), .ref (g 28), .ref (g 29), .ref (g 30)])), (g 5, .inl (cI, 7, .inl (fun i9 => nI (kd i9)))), (pa, .inl (cI, 50, .inl pg))] := hD
  have hl : lv_has ls 4 [(0, .ref (g 0)), (1, .ref pa), (2, .int (nI k)), (3, .int (nI o))] := hl
  refine lv_aload_n hx hb dX10_tell_0 rfl (lv_at hl 1 rfl) ?_
  refine lv_bipush (v := nI 42) hx hb dX10_tell_1 (by decide) ?_
  refine lv_iload_n hx hb dX10_tell_3 rfl (lv_at hl 2 rfl) ?_
  refine lv_iadd hx hb dX10_tell_4 ?_
  refine top_i (y := nI (42 + k)) (nI_add _ _) ?_
  refine ald hx hb hK hP 2 0 rfl rfl (j := 42 + k) (by omega) (by omega) dX10_tell_5 ?_
  refine lv_iconst (v := nI 1) hx hb dX10_tell_6 (by decide) ?_
  refine lv_icmp_ne (tgt := 20) hx hb dX10_tell_7 (by decide) (fun c_7 => ?_) (fun c_7 => ?_)
  · skip
    have hy7 := tl_w hk hzk c_7
    refine lv_aload_n hx hb dX10_tell_20 rfl (lv_at hl 0 rfl) ?_
    refine lv_aload_n hx hb dX10_tell_21 rfl (lv_at hl 1 rfl) ?_
    refine lv_iload_n hx hb dX10_tell_22 rfl (lv_at hl 2 rfl) ?_
    refine lv_aload_n hx hb dX10_tell_23 rfl (lv_at hl 0 rfl) ?_
    refine lv_iload_n hx hb dX10_tell_24 rfl (lv_at hl 2 rfl) ?_
    refine lv_iload_n hx hb dX10_tell_25 rfl (lv_at hl 3 rfl) ?_
    refine aft_i (wr := [(pa, .inl (cI, 50, .inl pg))]) (va_runV (As := [.int (nI k), .int (nI o)]) (rest := [.int (nI k), .ref pa, .ref (g 0)]) ⟨hx, hb, hml, hown, hts⟩ (c_X10_turned (g := g) (ts := ts) (pl := pl) (rk := rk) (sl := sl) (rr := rr) (rs := rs) (ac := ac) (tc := tc) (sd := sd) (td9 := td9) (kd := kd) (k := k) (o := o) (hk := by first | assumption | omega | exact hok.1 _ (by omega) | exact hok.2.2 _ _ (by omega) (by omega) | exact hok.2.1) (hkd := hkd k hk) (ho := by first | assumption | omega | exact hok.1 _ (by omega) | exact hok.2.2 _ _ (by omega) (by omega) | exact hok.2.1) _) (cwV 2 hts gX10_tell_X10_turned rfl rfl rfl (by decide +kernel) ⟨Nat.le_of_ble_eq_true rfl, Nat.le_of_ble_eq_true rfl⟩) (preV (cq := (RX10, TX10, 31)) (q0 := 0) (ci := 10) hK hP hD [0, 1] rfl rfl rfl rfl) rfl rfl hl.1 rfl (lv_room (Nat.le_of_ble_eq_true rfl)) dX10_tell_26 ⟨Nat.le_of_ble_eq_true rfl, Nat.le_of_ble_eq_true rfl⟩) hP hD hS hA [0, 1] [2] rfl rfl rfl (by decide) (fun r_26 uu9 H locs hw hP hD hS => ?_)
    have hP : va_P G vwCl [(pa, .inl (cI, 50, .inl pg)), (g 0, .inr (10, [.int (nI 0), .ref (g 1), .int (nI ts), .int (nI pl), .int (nI rk), .ref (g 5), .int (nI sl), .ref (g 7), .int (nI rr), .int (nI rs), .ref (g 10), .ref (g 11), .ref (g 12), .long sd, .ref (g 14), .ref (g 15), .int (nI ac), .ref (g 17), .ref (g 18), .ref (g 19), .int (nI tc), .ref (g 21), .ref (g 22), .ref (g 23), .ref (g 24), .long td9, .ref (g 26), .ref (g 27), .ref (g 28), .ref (g 29), .ref (g 30)])), (g 5, .inl (cI, 7, .inl (fun i9 => nI (kd i9))))] _ := hP
    have hD : va_D A [(pa, .inl (cI, 50, .inl pg)), (g 0, .inr (10, [.int (nI 0), .ref (g 1), .int (nI ts), .int (nI pl), .int (nI rk), .ref (g 5), .int (nI sl), .ref (g 7), .int (nI rr), .int (nI rs), .ref (g 10), .ref (g 11), .ref (g 12), .long sd, .ref (g 14), .ref (g 15), .int (nI ac), .ref (g 17), .ref (g 18), .ref (g 19), .int (nI tc), .ref (g 21), .ref (g 22), .ref (g 23), .ref (g 24), .long td9, .ref (g 26), .ref (g 27), .ref (g 28), .ref (g 29), .ref (g 30)])), (g 5, .inl (cI, 7, .inl (fun i9 => nI (kd i9))))] := hD
    obtain rfl := hw
    refine top_i (y := nI (turnN (kd k) o)) rfl ?_
    refine aft_v (wr := []) (va_runV (As := [.ref pa, .int (nI k), .int (nI (turnN (kd k) o))]) (rest := []) ⟨hx, hb, hml, hown, hts⟩ (c_X10_hear (g := g) (ts := ts) (pl := pl) (rk := rk) (sl := sl) (rr := rr) (rs := rs) (ac := ac) (tc := tc) (sd := sd) (td9 := td9) (kd := kd) (pa := pa) (pg := pg) (k := k) (o := turnN (kd k) o) (hk := by first | assumption | omega | exact hok.1 _ (by omega) | exact hok.2.2 _ _ (by omega) (by omega) | exact hok.2.1) (hkd := hkd k hk) _) (cwV 3 hts gX10_tell_X10_hear rfl rfl rfl (by decide +kernel) ⟨Nat.le_of_ble_eq_true rfl, Nat.le_of_ble_eq_true rfl⟩) (preV (cq := (RX10, TX10, 31)) (q0 := 1) (ci := 10) hK hP hD [1, 2, 0] rfl rfl rfl rfl) rfl rfl hl.1 rfl (lv_room (Nat.le_of_ble_eq_true rfl)) dX10_tell_29 ⟨Nat.le_of_ble_eq_true rfl, Nat.le_of_ble_eq_true rfl⟩) hP hD hS hA [1, 2, 0] [] rfl rfl rfl (by decide) (fun uu9 H locs hw hP hD hS => ?_)
    obtain ⟨q1_29, rfl⟩ : ∃ z, z = uu9 := ⟨_, rfl⟩
    have hP : va_P G vwCl [(g 0, .inr (10, [.int (nI 0), .ref (g 1), .int (nI ts), .int (nI pl), .int (nI rk), .ref (g 5), .int (nI sl), .ref (g 7), .int (nI rr), .int (nI rs), .ref (g 10), .ref (g 11), .ref (g 12), .long sd, .ref (g 14), .ref (g 15), .int (nI ac), .ref (g 17), .ref (g 18), .ref (g 19), .int (nI tc), .ref (g 21), .ref (g 22), .ref (g 23), .ref (g 24), .long td9, .ref (g 26), .ref (g 27), .ref (g 28), .ref (g 29), .ref (g 30)])), (g 5, .inl (cI, 7, .inl (fun i9 => nI (kd i9)))), (pa, .inl (cI, 50, .inl q1_29))] _ := hP
    have hD : va_D A [(g 0, .inr (10, [.int (nI 0), .ref (g 1), .int (nI ts), .int (nI pl), .int (nI rk), .ref (g 5), .int (nI sl), .ref (g 7), .int (nI rr), .int (nI rs), .ref (g 10), .ref (g 11), .ref (g 12), .long sd, .ref (g 14), .ref (g 15), .int (nI ac), .ref (g 17), .ref (g 18), .ref (g 19), .int (nI tc), .ref (g 21), .ref (g 22), .ref (g 23), .ref (g 24), .long td9, .ref (g 26), .ref (g 27), .ref (g 28), .ref (g 29), .ref (g 30)])), (g 5, .inl (cI, 7, .inl (fun i9 => nI (kd i9)))), (pa, .inl (cI, 50, .inl q1_29))] := hD
    have hw_29 : vOf q1_29 = takeV (kd k) (vOf pg) k (turnN (kd k) o) ∧ q1_29 49 = pg 49 := hw
    refine lv_aload_n hx hb dX10_tell_32 rfl (lv_at hl 0 rfl) ?_
    refine lv_iload_n hx hb dX10_tell_33 rfl (lv_at hl 2 rfl) ?_
    refine lv_iload_n hx hb dX10_tell_34 rfl (lv_at hl 3 rfl) ?_
    refine aft_i (wr := [(pa, .inl (cI, 50, .inl q1_29))]) (va_runV (As := [.int (nI k), .int (nI o)]) (rest := []) ⟨hx, hb, hml, hown, hts⟩ (c_X10_turned (g := g) (ts := ts) (pl := pl) (rk := rk) (sl := sl) (rr := rr) (rs := rs) (ac := ac) (tc := tc) (sd := sd) (td9 := td9) (kd := kd) (k := k) (o := o) (hk := by first | assumption | omega | exact hok.1 _ (by omega) | exact hok.2.2 _ _ (by omega) (by omega) | exact hok.2.1) (hkd := hkd k hk) (ho := by first | assumption | omega | exact hok.1 _ (by omega) | exact hok.2.2 _ _ (by omega) (by omega) | exact hok.2.1) _) (cwV 2 hts gX10_tell_X10_turned rfl rfl rfl (by decide +kernel) ⟨Nat.le_of_ble_eq_true rfl, Nat.le_of_ble_eq_true rfl⟩) (preV (cq := (RX10, TX10, 31)) (q0 := 0) (ci := 10) hK hP hD [0, 1] rfl rfl rfl rfl) rfl rfl hl.1 rfl (lv_room (Nat.le_of_ble_eq_true rfl)) dX10_tell_35 ⟨Nat.le_of_ble_eq_true rfl, Nat.le_of_ble_eq_true rfl⟩) hP hD hS hA [0, 1] [2] rfl rfl rfl (by decide) (fun r_35 uu9 H locs hw hP hD hS => ?_)
    have hP : va_P G vwCl [(pa, .inl (cI, 50, .inl q1_29)), (g 0, .inr (10, [.int (nI 0), .ref (g 1), .int (nI ts), .int (nI pl), .int (nI rk), .ref (g 5), .int (nI sl), .ref (g 7), .int (nI rr), .int (nI rs), .ref (g 10), .ref (g 11), .ref (g 12), .long sd, .ref (g 14), .ref (g 15), .int (nI ac), .ref (g 17), .ref (g 18), .ref (g 19), .int (nI tc), .ref (g 21), .ref (g 22), .ref (g 23), .ref (g 24), .long td9, .ref (g 26), .ref (g 27), .ref (g 28), .ref (g 29), .ref (g 30)])), (g 5, .inl (cI, 7, .inl (fun i9 => nI (kd i9))))] _ := hP
    have hD : va_D A [(pa, .inl (cI, 50, .inl q1_29)), (g 0, .inr (10, [.int (nI 0), .ref (g 1), .int (nI ts), .int (nI pl), .int (nI rk), .ref (g 5), .int (nI sl), .ref (g 7), .int (nI rr), .int (nI rs), .ref (g 10), .ref (g 11), .ref (g 12), .long sd, .ref (g 14), .ref (g 15), .int (nI ac), .ref (g 17), .ref (g 18), .ref (g 19), .int (nI tc), .ref (g 21), .ref (g 22), .ref (g 23), .ref (g 24), .long td9, .ref (g 26), .ref (g 27), .ref (g 28), .ref (g 29), .ref (g 30)])), (g 5, .inl (cI, 7, .inl (fun i9 => nI (kd i9))))] := hD
    obtain rfl := hw
    refine top_i (y := nI (turnN (kd k) o)) rfl ?_
    exact endI hx hb hr hlocks (q1_29) (⟨by rw [tellR, if_pos hy7], ⟨by rw [tellV, if_pos hy7]; exact hw_29.1, hw_29.2⟩⟩) (hP.sub [1, 2, 0] rfl) (hD.sub [1, 2, 0] (by decide) rfl) hS dX10_tell_38
  · skip
    have hn7 := tl_s hk c_7
    refine lv_aload_n hx hb dX10_tell_10 rfl (lv_at hl 1 rfl) ?_
    refine lv_bipush (v := nI 42) hx hb dX10_tell_11 (by decide) ?_
    refine lv_iload_n hx hb dX10_tell_13 rfl (lv_at hl 2 rfl) ?_
    refine lv_iadd hx hb dX10_tell_14 ?_
    refine top_i (y := nI (42 + k)) (nI_add _ _) ?_
    refine lv_iconst (v := nI 0) hx hb dX10_tell_15 (by decide) ?_
    refine ast (f' := upd pg (42 + k) (nI 0)) hx hb hK hP hD hS 2 0 rfl rfl (j := 42 + k) (by omega) (by omega) (rfl) dX10_tell_16 (fun H locs hP hD hS => ?_)
    have hP : va_P G vwCl [(g 0, .inr (10, [.int (nI 0), .ref (g 1), .int (nI ts), .int (nI pl), .int (nI rk), .ref (g 5), .int (nI sl), .ref (g 7), .int (nI rr), .int (nI rs), .ref (g 10), .ref (g 11), .ref (g 12), .long sd, .ref (g 14), .ref (g 15), .int (nI ac), .ref (g 17), .ref (g 18), .ref (g 19), .int (nI tc), .ref (g 21), .ref (g 22), .ref (g 23), .ref (g 24), .long td9, .ref (g 26), .ref (g 27), .ref (g 28), .ref (g 29), .ref (g 30)])), (g 5, .inl (cI, 7, .inl (fun i9 => nI (kd i9)))), (pa, .inl (cI, 50, .inl (upd pg (42 + k) (nI 0))))] _ := hP
    have hD : va_D A [(g 0, .inr (10, [.int (nI 0), .ref (g 1), .int (nI ts), .int (nI pl), .int (nI rk), .ref (g 5), .int (nI sl), .ref (g 7), .int (nI rr), .int (nI rs), .ref (g 10), .ref (g 11), .ref (g 12), .long sd, .ref (g 14), .ref (g 15), .int (nI ac), .ref (g 17), .ref (g 18), .ref (g 19), .int (nI tc), .ref (g 21), .ref (g 22), .ref (g 23), .ref (g 24), .long td9, .ref (g 26), .ref (g 27), .ref (g 28), .ref (g 29), .ref (g 30)])), (g 5, .inl (cI, 7, .inl (fun i9 => nI (kd i9)))), (pa, .inl (cI, 50, .inl (upd pg (42 + k) (nI 0))))] := hD
    refine lv_bipush (v := (-9)) hx hb dX10_tell_17 (by decide) ?_
    exact endI hx hb hr hlocks (upd pg (42 + k) (nI 0)) (⟨by rw [tellR, if_neg hn7], ⟨by rw [tellV, if_neg hn7]; exact vOf_up (by decide) hk (by omega), up_49 (by omega)⟩⟩) (hP.sub [0, 1, 2] rfl) (hD.sub [0, 1, 2] (by decide) rfl) hS dX10_tell_19

set_option maxHeartbeats 4000000 in
set_option maxRecDepth 100000 in
theorem c_X10_sayTo {l : Launch} {G : va_G} {cI cJ cZ cS : ClassId} (g : Nat → Nat) (ts : Nat) (pl : Nat) (rk : Nat) (sl : Nat) (rr : Nat) (rs : Nat) (ac : Nat) (tc : Nat) (sd : Int64) (td9 : Int64) (kd : Nat → Nat) (pa : Nat) (pg : Nat → Int32) (o : Nat) (ho : o < 5) (hzk : vOf pg 6 0 = nI 0 ∨ vOf pg 6 0 = nI 1) (hkd : ∀ k, k < 7 → kd k < 4) (hso : ¬ vOf pg 6 0 = 0 → vOf pg 5 0 = -9) : CV l G (kT cI cJ cZ cS) (S := Nat → Int32) yX10_sayTo wsX10_sayTo { frames := 2, cells := 0, slots := 0, locals := 46 } [.ref (g 0), .ref pa, .int (nI o)] [(g 0, .inr (10, [.int (nI 0), .ref (g 1), .int (nI ts), .int (nI pl), .int (nI rk), .ref (g 5), .int (nI sl), .ref (g 7), .int (nI rr), .int (nI rs), .ref (g 10), .ref (g 11), .ref (g 12), .long sd, .ref (g 14), .ref (g 15), .int (nI ac), .ref (g 17), .ref (g 18), .ref (g 19), .int (nI tc), .ref (g 21), .ref (g 22), .ref (g 23), .ref (g 24), .long td9, .ref (g 26), .ref (g 27), .ref (g 28), .ref (g 29), .ref (g 30)])), (g 5, .inl (cI, 7, .inl (fun i9 => nI (kd i9)))), (pa, .inl (cI, 50, .inl pg))] (fun q1 => vOf q1 = giveV (kd 0) (vOf pg) o ∧ q1 49 = pg 49) (fun q1 => [(g 0, .inr (10, [.int (nI 0), .ref (g 1), .int (nI ts), .int (nI pl), .int (nI rk), .ref (g 5), .int (nI sl), .ref (g 7), .int (nI rr), .int (nI rs), .ref (g 10), .ref (g 11), .ref (g 12), .long sd, .ref (g 14), .ref (g 15), .int (nI ac), .ref (g 17), .ref (g 18), .ref (g 19), .int (nI tc), .ref (g 21), .ref (g 22), .ref (g 23), .ref (g 24), .long td9, .ref (g 26), .ref (g 27), .ref (g 28), .ref (g 29), .ref (g 30)])), (g 5, .inl (cI, 7, .inl (fun i9 => nI (kd i9)))), (pa, .inl (cI, 50, .inl q1))]) := by
  refine CV.of (cc := cX10_sayTo) (maxL := 4) (by decide) rfl (Nat.le_of_ble_eq_true rfl) ?_
  intro p9 e9 s m below meth co9 A ls hB
  obtain ⟨hx, hb, hml, hr, hts, hown, hlocks, hmn, hK, hP, hD, hS, hA, hl⟩ := hB
  have hP : va_P G vwCl [(g 0, .inr (10, [.int (nI 0), .ref (g 1), .int (nI ts), .int (nI pl), .int (nI rk), .ref (g 5), .int (nI sl), .ref (g 7), .int (nI rr), .int (nI rs), .ref (g 10), .ref (g 11), .ref (g 12), .long sd, .ref (g 14), .ref (g 15), .int (nI ac), .ref (g 17), .ref (g 18), .ref (g 19), .int (nI tc), .ref (g 21), .ref (g 22), .ref (g 23), .ref (g 24), .long td9, .ref (g 26), .ref (g 27), .ref (g 28), .ref (g 29), .ref (g 30)])), (g 5, .inl (cI, 7, .inl (fun i9 => nI (kd i9)))), (pa, .inl (cI, 50, .inl pg))] s.heap := hP
  have hD : va_D A [(g 0, .inr (10, [.int (nI 0), .ref (g 1), .int (nI ts), .int (nI pl), .int (nI rk), .ref (g 5), .int (nI sl), .ref (g 7), .int (nI rr), .int (nI rs), .ref (g 10), .ref (g 11), .ref (g 12), .long sd, .ref (g 14), .ref (g 15), .int (nI ac), .ref (g 17), .ref (g 18), .ref (g 19), .int (nI tc), .ref (g 21), .ref (g 22), .ref (g 23), .ref (g 24), .long td9, .ref (g 26), .ref (g 27), .ref (g 28), .ref (g 29), .ref (g 30)])), (g 5, .inl (cI, 7, .inl (fun i9 => nI (kd i9)))), (pa, .inl (cI, 50, .inl pg))] := hD
  have hl : lv_has ls 4 [(0, .ref (g 0)), (1, .ref pa), (2, .int (nI o))] := hl
  refine lv_aload_n hx hb dX10_sayTo_0 rfl (lv_at hl 0 rfl) ?_
  refine lv_aload_n hx hb dX10_sayTo_1 rfl (lv_at hl 1 rfl) ?_
  refine lv_iconst (v := nI 0) hx hb dX10_sayTo_2 (by decide) ?_
  refine lv_iload_n hx hb dX10_sayTo_3 rfl (lv_at hl 2 rfl) ?_
  refine aft_i (wr := []) (va_runV (As := [.ref pa, .int (nI 0), .int (nI o)]) (rest := []) ⟨hx, hb, hml, hown, hts⟩ (c_X10_tell (g := g) (ts := ts) (pl := pl) (rk := rk) (sl := sl) (rr := rr) (rs := rs) (ac := ac) (tc := tc) (sd := sd) (td9 := td9) (kd := kd) (pa := pa) (pg := pg) (k := 0) (o := o) (hk := by decide) (ho := ho) (hzk := hzk) (hkd := hkd) _) (cwV 3 hts gX10_sayTo_X10_tell rfl rfl rfl (by decide +kernel) ⟨Nat.le_of_ble_eq_true rfl, Nat.le_of_ble_eq_true rfl⟩) (preV (cq := (RX10, TX10, 31)) (q0 := 0) (ci := 10) hK hP hD [0, 1, 2] rfl rfl rfl rfl) rfl rfl hl.1 rfl (lv_room (Nat.le_of_ble_eq_true rfl)) dX10_sayTo_4 ⟨Nat.le_of_ble_eq_true rfl, Nat.le_of_ble_eq_true rfl⟩) hP hD hS hA [0, 1, 2] [] rfl rfl rfl (by decide) (fun r_4 uu9 H locs hw hP hD hS => ?_)
  obtain ⟨q1_4, rfl⟩ : ∃ z, z = uu9 := ⟨_, rfl⟩
  have hP : va_P G vwCl [(g 0, .inr (10, [.int (nI 0), .ref (g 1), .int (nI ts), .int (nI pl), .int (nI rk), .ref (g 5), .int (nI sl), .ref (g 7), .int (nI rr), .int (nI rs), .ref (g 10), .ref (g 11), .ref (g 12), .long sd, .ref (g 14), .ref (g 15), .int (nI ac), .ref (g 17), .ref (g 18), .ref (g 19), .int (nI tc), .ref (g 21), .ref (g 22), .ref (g 23), .ref (g 24), .long td9, .ref (g 26), .ref (g 27), .ref (g 28), .ref (g 29), .ref (g 30)])), (g 5, .inl (cI, 7, .inl (fun i9 => nI (kd i9)))), (pa, .inl (cI, 50, .inl q1_4))] _ := hP
  have hD : va_D A [(g 0, .inr (10, [.int (nI 0), .ref (g 1), .int (nI ts), .int (nI pl), .int (nI rk), .ref (g 5), .int (nI sl), .ref (g 7), .int (nI rr), .int (nI rs), .ref (g 10), .ref (g 11), .ref (g 12), .long sd, .ref (g 14), .ref (g 15), .int (nI ac), .ref (g 17), .ref (g 18), .ref (g 19), .int (nI tc), .ref (g 21), .ref (g 22), .ref (g 23), .ref (g 24), .long td9, .ref (g 26), .ref (g 27), .ref (g 28), .ref (g 29), .ref (g 30)])), (g 5, .inl (cI, 7, .inl (fun i9 => nI (kd i9)))), (pa, .inl (cI, 50, .inl q1_4))] := hD
  obtain ⟨rfl, hw_4⟩ := hw
  refine top_i (y := tellR (kd 0) (vOf pg) 0 o) rfl ?_
  have hw_4 : vOf q1_4 = tellV (kd 0) (vOf pg) 0 o ∧ q1_4 49 = pg 49 := hw_4
  refine lv_istore_n (lv' := [(3, .int (tellR (kd 0) (vOf pg) 0 o)), (0, .ref (g 0)), (1, .ref pa), (2, .int (nI o))]) hx hb dX10_sayTo_7 rfl hl (by decide) rfl (fun ls hl => ?_)
  refine lv_aload_n hx hb dX10_sayTo_8 rfl (lv_at hl 2 rfl) ?_
  refine lv_bipush (v := nI 35) hx hb dX10_sayTo_9 (by decide) ?_
  refine lv_iload_n hx hb dX10_sayTo_11 rfl (lv_at hl 0 rfl) ?_
  refine lv_bipush (v := (-9)) hx hb dX10_sayTo_12 (by decide) ?_
  refine lv_icmp_ne (tgt := 24) hx hb dX10_sayTo_14 (by decide) (fun c_14 => ?_) (fun c_14 => ?_)
  · skip
    refine lv_iload_n hx hb dX10_sayTo_24 rfl (lv_at hl 0 rfl) ?_
    refine ast (f' := upd q1_4 35 (tellR (kd 0) (vOf pg) 0 o)) hx hb hK hP hD hS 2 0 rfl rfl (j := 35) (by omega) (by omega) (rfl) dX10_sayTo_25 (fun H locs hP hD hS => ?_)
    have hP : va_P G vwCl [(g 0, .inr (10, [.int (nI 0), .ref (g 1), .int (nI ts), .int (nI pl), .int (nI rk), .ref (g 5), .int (nI sl), .ref (g 7), .int (nI rr), .int (nI rs), .ref (g 10), .ref (g 11), .ref (g 12), .long sd, .ref (g 14), .ref (g 15), .int (nI ac), .ref (g 17), .ref (g 18), .ref (g 19), .int (nI tc), .ref (g 21), .ref (g 22), .ref (g 23), .ref (g 24), .long td9, .ref (g 26), .ref (g 27), .ref (g 28), .ref (g 29), .ref (g 30)])), (g 5, .inl (cI, 7, .inl (fun i9 => nI (kd i9)))), (pa, .inl (cI, 50, .inl (upd q1_4 35 (tellR (kd 0) (vOf pg) 0 o))))] _ := hP
    have hD : va_D A [(g 0, .inr (10, [.int (nI 0), .ref (g 1), .int (nI ts), .int (nI pl), .int (nI rk), .ref (g 5), .int (nI sl), .ref (g 7), .int (nI rr), .int (nI rs), .ref (g 10), .ref (g 11), .ref (g 12), .long sd, .ref (g 14), .ref (g 15), .int (nI ac), .ref (g 17), .ref (g 18), .ref (g 19), .int (nI tc), .ref (g 21), .ref (g 22), .ref (g 23), .ref (g 24), .long td9, .ref (g 26), .ref (g 27), .ref (g 28), .ref (g 29), .ref (g 30)])), (g 5, .inl (cI, 7, .inl (fun i9 => nI (kd i9)))), (pa, .inl (cI, 50, .inl (upd q1_4 35 (tellR (kd 0) (vOf pg) 0 o))))] := hD
    exact endV hx hb hr hlocks (upd q1_4 35 (tellR (kd 0) (vOf pg) 0 o)) (by first | exact ⟨sy_y hw_4.1, (up_49 (by omega)).trans hw_4.2⟩ | exact ⟨sy_n hw_4.1 hso c_14 (turn_lt ho), (up_49 (by omega)).trans hw_4.2⟩) (hP.sub [0, 1, 2] rfl) (hD.sub [0, 1, 2] (by decide) rfl) hS dX10_sayTo_26
  · skip
    refine lv_aload_n hx hb dX10_sayTo_17 rfl (lv_at hl 2 rfl) ?_
    refine lv_bipush (v := nI 35) hx hb dX10_sayTo_18 (by decide) ?_
    refine ald hx hb hK hP 2 0 rfl rfl (j := 35) (by omega) (by omega) dX10_sayTo_20 ?_
    refine lv_goto (tgt := 25) hx hb dX10_sayTo_21 (by decide) ?_
    refine ast (f' := upd q1_4 35 (q1_4 35)) hx hb hK hP hD hS 2 0 rfl rfl (j := 35) (by omega) (by omega) (rfl) dX10_sayTo_25 (fun H locs hP hD hS => ?_)
    have hP : va_P G vwCl [(g 0, .inr (10, [.int (nI 0), .ref (g 1), .int (nI ts), .int (nI pl), .int (nI rk), .ref (g 5), .int (nI sl), .ref (g 7), .int (nI rr), .int (nI rs), .ref (g 10), .ref (g 11), .ref (g 12), .long sd, .ref (g 14), .ref (g 15), .int (nI ac), .ref (g 17), .ref (g 18), .ref (g 19), .int (nI tc), .ref (g 21), .ref (g 22), .ref (g 23), .ref (g 24), .long td9, .ref (g 26), .ref (g 27), .ref (g 28), .ref (g 29), .ref (g 30)])), (g 5, .inl (cI, 7, .inl (fun i9 => nI (kd i9)))), (pa, .inl (cI, 50, .inl (upd q1_4 35 (q1_4 35))))] _ := hP
    have hD : va_D A [(g 0, .inr (10, [.int (nI 0), .ref (g 1), .int (nI ts), .int (nI pl), .int (nI rk), .ref (g 5), .int (nI sl), .ref (g 7), .int (nI rr), .int (nI rs), .ref (g 10), .ref (g 11), .ref (g 12), .long sd, .ref (g 14), .ref (g 15), .int (nI ac), .ref (g 17), .ref (g 18), .ref (g 19), .int (nI tc), .ref (g 21), .ref (g 22), .ref (g 23), .ref (g 24), .long td9, .ref (g 26), .ref (g 27), .ref (g 28), .ref (g 29), .ref (g 30)])), (g 5, .inl (cI, 7, .inl (fun i9 => nI (kd i9)))), (pa, .inl (cI, 50, .inl (upd q1_4 35 (q1_4 35))))] := hD
    exact endV hx hb hr hlocks (upd q1_4 35 (q1_4 35)) (by first | exact ⟨sy_y hw_4.1, (up_49 (by omega)).trans hw_4.2⟩ | exact ⟨sy_n hw_4.1 hso c_14 (turn_lt ho), (up_49 (by omega)).trans hw_4.2⟩) (hP.sub [0, 1, 2] rfl) (hD.sub [0, 1, 2] (by decide) rfl) hS dX10_sayTo_26

set_option maxHeartbeats 4000000 in
set_option maxRecDepth 100000 in
theorem c_X10_comesAs {l : Launch} {G : va_G} {cI cJ cZ cS : ClassId} (g : Nat → Nat) (ts : Nat) (pl : Nat) (rk : Nat) (sl : Nat) (rr : Nat) (rs : Nat) (ac : Nat) (tc : Nat) (sd : Int64) (td9 : Int64) (kd : Nat → Nat) (tn : Nat → Nat) (k : Nat) (u : Nat) (hok : ArmyOk kd tn) (hk : k < 7) (hu : u < 5) (hdg : ∀ k u, k < 7 → u < 5 → slT tn k u u = 0) : CI l G (kT cI cJ cZ cS) (S := Unit) yX10_comesAs wsX10_comesAs { frames := 1, cells := 0, slots := 0, locals := 25 } [.ref (g 0), .int (nI k), .int (nI u)] [(g 0, .inr (10, [.int (nI 0), .ref (g 1), .int (nI ts), .int (nI pl), .int (nI rk), .ref (g 5), .int (nI sl), .ref (g 7), .int (nI rr), .int (nI rs), .ref (g 10), .ref (g 11), .ref (g 12), .long sd, .ref (g 14), .ref (g 15), .int (nI ac), .ref (g 17), .ref (g 18), .ref (g 19), .int (nI tc), .ref (g 21), .ref (g 22), .ref (g 23), .ref (g 24), .long td9, .ref (g 26), .ref (g 27), .ref (g 28), .ref (g 29), .ref (g 30)])), (g 7, .inl (cI, 175, .inl (fun i9 => nI (tn i9))))] (fun res _ => res = nI (wayO tn k u td9)) (fun _ => [(g 0, .inr (10, [.int (nI 0), .ref (g 1), .int (nI ts), .int (nI pl), .int (nI rk), .ref (g 5), .int (nI sl), .ref (g 7), .int (nI rr), .int (nI rs), .ref (g 10), .ref (g 11), .ref (g 12), .long sd, .ref (g 14), .ref (g 15), .int (nI ac), .ref (g 17), .ref (g 18), .ref (g 19), .int (nI tc), .ref (g 21), .ref (g 22), .ref (g 23), .ref (g 24), .long (wayS tn k u td9), .ref (g 26), .ref (g 27), .ref (g 28), .ref (g 29), .ref (g 30)])), (g 7, .inl (cI, 175, .inl (fun i9 => nI (tn i9))))]) := by
  refine CI.of (cc := cX10_comesAs) (maxL := 6) (by decide) rfl (Nat.le_of_ble_eq_true rfl) ?_
  intro p9 e9 s m below meth co9 A ls hB
  obtain ⟨hx, hb, hml, hr, hts, hown, hlocks, hmn, hK, hP, hD, hS, hA, hl⟩ := hB
  have hP : va_P G vwCl [(g 0, .inr (10, [.int (nI 0), .ref (g 1), .int (nI ts), .int (nI pl), .int (nI rk), .ref (g 5), .int (nI sl), .ref (g 7), .int (nI rr), .int (nI rs), .ref (g 10), .ref (g 11), .ref (g 12), .long sd, .ref (g 14), .ref (g 15), .int (nI ac), .ref (g 17), .ref (g 18), .ref (g 19), .int (nI tc), .ref (g 21), .ref (g 22), .ref (g 23), .ref (g 24), .long td9, .ref (g 26), .ref (g 27), .ref (g 28), .ref (g 29), .ref (g 30)])), (g 7, .inl (cI, 175, .inl (fun i9 => nI (tn i9))))] s.heap := hP
  have hD : va_D A [(g 0, .inr (10, [.int (nI 0), .ref (g 1), .int (nI ts), .int (nI pl), .int (nI rk), .ref (g 5), .int (nI sl), .ref (g 7), .int (nI rr), .int (nI rs), .ref (g 10), .ref (g 11), .ref (g 12), .long sd, .ref (g 14), .ref (g 15), .int (nI ac), .ref (g 17), .ref (g 18), .ref (g 19), .int (nI tc), .ref (g 21), .ref (g 22), .ref (g 23), .ref (g 24), .long td9, .ref (g 26), .ref (g 27), .ref (g 28), .ref (g 29), .ref (g 30)])), (g 7, .inl (cI, 175, .inl (fun i9 => nI (tn i9))))] := hD
  have hl : lv_has ls 6 [(0, .ref (g 0)), (1, .int (nI k)), (2, .int (nI u))] := hl
  have k_0 := hts (.fieldLink RX10 161 "HearsayMarchModel" "triedSeed" "J") (by decide +kernel)
  have k_1 := hts (.constantLong RX10 164 (6364136223846793005)) (by decide +kernel)
  have k_2 := hts (.constantLong RX10 166 (1442695040888963407)) (by decide +kernel)
  have k_3 := hts (.constantLong RX10 168 (10)) (by decide +kernel)
  have hin10 : ∀ w ∈ wsX100, w ∈ wsX10_comesAs := by decide +kernel
  refine lv_aload_n hx hb dX10_comesAs_0 rfl (lv_at hl 0 rfl) ?_
  refine lv_iload_n hx hb dX10_comesAs_1 rfl (lv_at hl 1 rfl) ?_
  refine lv_iload_n hx hb dX10_comesAs_2 rfl (lv_at hl 2 rfl) ?_
  refine lv_iload_n hx hb dX10_comesAs_3 rfl (lv_at hl 2 rfl) ?_
  refine aft_i (wr := []) (va_runV (As := [.int (nI k), .int (nI u), .int (nI u)]) (rest := []) ⟨hx, hb, hml, hown, hts⟩ (c_X10_tenthsOf (g := g) (ts := ts) (pl := pl) (rk := rk) (sl := sl) (rr := rr) (rs := rs) (ac := ac) (tc := tc) (sd := sd) (td9 := td9) (tn := tn) (k := k) (u := u) (v := u) (hk := by first | assumption | omega | exact hok.1 _ (by omega) | exact hok.2.2 _ _ (by omega) (by omega) | exact hok.2.1) (hu := by first | assumption | omega | exact hok.1 _ (by omega) | exact hok.2.2 _ _ (by omega) (by omega) | exact hok.2.1) (hv := hu) (hs := hok.2.2 k u hk hu) _) (cwV 3 hts gX10_comesAs_X10_tenthsOf rfl rfl rfl (by decide +kernel) ⟨Nat.le_of_ble_eq_true rfl, Nat.le_of_ble_eq_true rfl⟩) (preV (cq := (RX10, TX10, 31)) (q0 := 0) (ci := 10) hK hP hD [0, 1] rfl rfl rfl rfl) rfl rfl hl.1 rfl (lv_room (Nat.le_of_ble_eq_true rfl)) dX10_comesAs_4 ⟨Nat.le_of_ble_eq_true rfl, Nat.le_of_ble_eq_true rfl⟩) hP hD hS hA [0, 1] [] rfl rfl rfl (by decide) (fun r_4 uu9 H locs hw hP hD hS => ?_)
  have hP : va_P G vwCl [(g 0, .inr (10, [.int (nI 0), .ref (g 1), .int (nI ts), .int (nI pl), .int (nI rk), .ref (g 5), .int (nI sl), .ref (g 7), .int (nI rr), .int (nI rs), .ref (g 10), .ref (g 11), .ref (g 12), .long sd, .ref (g 14), .ref (g 15), .int (nI ac), .ref (g 17), .ref (g 18), .ref (g 19), .int (nI tc), .ref (g 21), .ref (g 22), .ref (g 23), .ref (g 24), .long td9, .ref (g 26), .ref (g 27), .ref (g 28), .ref (g 29), .ref (g 30)])), (g 7, .inl (cI, 175, .inl (fun i9 => nI (tn i9))))] _ := hP
  have hD : va_D A [(g 0, .inr (10, [.int (nI 0), .ref (g 1), .int (nI ts), .int (nI pl), .int (nI rk), .ref (g 5), .int (nI sl), .ref (g 7), .int (nI rr), .int (nI rs), .ref (g 10), .ref (g 11), .ref (g 12), .long sd, .ref (g 14), .ref (g 15), .int (nI ac), .ref (g 17), .ref (g 18), .ref (g 19), .int (nI tc), .ref (g 21), .ref (g 22), .ref (g 23), .ref (g 24), .long td9, .ref (g 26), .ref (g 27), .ref (g 28), .ref (g 29), .ref (g 30)])), (g 7, .inl (cI, 175, .inl (fun i9 => nI (tn i9))))] := hD
  obtain rfl := hw
  refine top_i (y := nI (wayT tn k u u)) rfl ?_
  have hs9 := hok.2.2 k u hk hu
  have hw0 : wayT tn k u u = 10 - sumN (slT tn k u) 5 := if_pos rfl
  refine lv_bipush (v := nI 10) hx hb dX10_comesAs_7 (by decide) ?_
  refine lv_icmp_ne (tgt := 14) hx hb dX10_comesAs_9 (by decide) (fun c_9 => ?_) (fun c_9 => ?_)
  · skip
    have c_9 := n_neT c_9 (by omega) (by omega)
    refine lv_aload_n hx hb dX10_comesAs_14 rfl (lv_at hl 0 rfl) ?_
    refine lv_aload_n hx hb dX10_comesAs_15 rfl (lv_at hl 0 rfl) ?_
    refine va_get (D := G) (ci := 10) (v := .long td9) (C := RX10) (T := TX10) (N := 31) hx hb hts hin10 hown hK.1 hP 0 rfl rfl 25 (by decide) k_0 (fun _ h9 => h9) rfl dX10_comesAs_16 ?_
    refine lv_ldc2 (v := (6364136223846793005 : Int64)) hx hb hown k_1 dX10_comesAs_19 ?_
    refine lv_lmul hx hb dX10_comesAs_22 ?_
    refine lv_ldc2 (v := (1442695040888963407 : Int64)) hx hb hown k_2 dX10_comesAs_23 ?_
    refine lv_ladd hx hb dX10_comesAs_26 ?_
    refine lv_topl (fun s1 es1 => ?_)
    have es1 : s1 = nxS td9 := es1
    refine va_put (D := G) (ci := 10) (v := .long s1) (ty := tyX10 25) (C := RX10) (T := TX10) (N := 31) hx hb hts hin10 tyX10 tyX10_ok nmX10 hown hK.1 hP hD hS 0 rfl rfl 25 (by decide) k_0 (fun _ h9 => h9) rfl (by decide +kernel) rfl rfl (Nat.le_of_ble_eq_true rfl) dX10_comesAs_27 (fun H locs hP hD hS => ?_)
    have hP : va_P G vwCl [(g 0, .inr (10, [.int (nI 0), .ref (g 1), .int (nI ts), .int (nI pl), .int (nI rk), .ref (g 5), .int (nI sl), .ref (g 7), .int (nI rr), .int (nI rs), .ref (g 10), .ref (g 11), .ref (g 12), .long sd, .ref (g 14), .ref (g 15), .int (nI ac), .ref (g 17), .ref (g 18), .ref (g 19), .int (nI tc), .ref (g 21), .ref (g 22), .ref (g 23), .ref (g 24), .long s1, .ref (g 26), .ref (g 27), .ref (g 28), .ref (g 29), .ref (g 30)])), (g 7, .inl (cI, 175, .inl (fun i9 => nI (tn i9))))] _ := hP
    have hD : va_D A [(g 0, .inr (10, [.int (nI 0), .ref (g 1), .int (nI ts), .int (nI pl), .int (nI rk), .ref (g 5), .int (nI sl), .ref (g 7), .int (nI rr), .int (nI rs), .ref (g 10), .ref (g 11), .ref (g 12), .long sd, .ref (g 14), .ref (g 15), .int (nI ac), .ref (g 17), .ref (g 18), .ref (g 19), .int (nI tc), .ref (g 21), .ref (g 22), .ref (g 23), .ref (g 24), .long s1, .ref (g 26), .ref (g 27), .ref (g 28), .ref (g 29), .ref (g 30)])), (g 7, .inl (cI, 175, .inl (fun i9 => nI (tn i9))))] := hD
    refine lv_aload_n hx hb dX10_comesAs_30 rfl (lv_at hl 0 rfl) ?_
    refine va_get (D := G) (ci := 10) (v := .long s1) (C := RX10) (T := TX10) (N := 31) hx hb hts hin10 hown hK.1 hP 0 rfl rfl 25 (by decide) k_0 (fun _ h9 => h9) rfl dX10_comesAs_31 ?_
    refine lv_bipush (v := nI 33) hx hb dX10_comesAs_34 (by decide) ?_
    refine lv_lushr (v := ((s1).toUInt64 >>> ((nI 33).toInt64.toUInt64 &&& Int64.toUInt64 63)).toInt64) hx hb dX10_comesAs_36 rfl ?_
    refine lv_ldc2 (v := (10 : Int64)) hx hb hown k_3 dX10_comesAs_37 ?_
    refine lv_lrem hx hb dX10_comesAs_40 (by decide) ?_
    refine top_l (y := lN (drN s1)) (drX s1) ?_
    refine lv_l2i (v := nI (drN s1)) hx hb dX10_comesAs_41 (lN_i _) ?_
    refine lv_istore_n (lv' := [(3, .int (nI (drN s1))), (0, .ref (g 0)), (1, .int (nI k)), (2, .int (nI u))]) hx hb dX10_comesAs_42 rfl hl (by decide) rfl (fun ls hl => ?_)
    subst es1
    rw [show nxS td9 = wayS tn k u td9 by rw [wayS, if_neg (by omega)]] at hP hD
    have hP : va_P G vwCl [(g 0, .inr (10, [.int (nI 0), .ref (g 1), .int (nI ts), .int (nI pl), .int (nI rk), .ref (g 5), .int (nI sl), .ref (g 7), .int (nI rr), .int (nI rs), .ref (g 10), .ref (g 11), .ref (g 12), .long sd, .ref (g 14), .ref (g 15), .int (nI ac), .ref (g 17), .ref (g 18), .ref (g 19), .int (nI tc), .ref (g 21), .ref (g 22), .ref (g 23), .ref (g 24), .long (wayS tn k u td9), .ref (g 26), .ref (g 27), .ref (g 28), .ref (g 29), .ref (g 30)])), (g 7, .inl (cI, 175, .inl (fun i9 => nI (tn i9))))] _ := hP
    have hD : va_D A [(g 0, .inr (10, [.int (nI 0), .ref (g 1), .int (nI ts), .int (nI pl), .int (nI rk), .ref (g 5), .int (nI sl), .ref (g 7), .int (nI rr), .int (nI rs), .ref (g 10), .ref (g 11), .ref (g 12), .long sd, .ref (g 14), .ref (g 15), .int (nI ac), .ref (g 17), .ref (g 18), .ref (g 19), .int (nI tc), .ref (g 21), .ref (g 22), .ref (g 23), .ref (g 24), .long (wayS tn k u td9), .ref (g 26), .ref (g 27), .ref (g 28), .ref (g 29), .ref (g 30)])), (g 7, .inl (cI, 175, .inl (fun i9 => nI (tn i9))))] := hD
    refine lv_iconst (v := nI 0) hx hb dX10_comesAs_43 (by decide) ?_
    refine lv_istore (lv' := [(4, .int (nI 0)), (3, .int (nI (drN (nxS td9)))), (0, .ref (g 0)), (1, .int (nI k)), (2, .int (nI u))]) hx hb dX10_comesAs_44 hl (by decide) rfl (fun ls hl => ?_)
    have hl : lv_has ls 6 [(4, .int (nI 0)), (3, .int (nI (drN (nxS td9) - sumN (slT tn k u) 0))), (0, .ref (g 0)), (1, .int (nI k)), (2, .int (nI u))] := by rw [show drN (nxS td9) - sumN (slT tn k u) 0 = drN (nxS td9) from Nat.sub_zero _]; exact hl
    have hd9 := drN_lt (nxS td9)
    refine loopW (σ := Nat) 46 (fun (v : Nat) H locs ls => (v ≤ 5) ∧ (sumN (slT tn k u) v ≤ drN (nxS td9)) ∧ (∀ z, z < v → sumN (slT tn k u) (z + 1) ≤ drN (nxS td9)) ∧ va_P G vwCl [(g 0, .inr (10, [.int (nI 0), .ref (g 1), .int (nI ts), .int (nI pl), .int (nI rk), .ref (g 5), .int (nI sl), .ref (g 7), .int (nI rr), .int (nI rs), .ref (g 10), .ref (g 11), .ref (g 12), .long sd, .ref (g 14), .ref (g 15), .int (nI ac), .ref (g 17), .ref (g 18), .ref (g 19), .int (nI tc), .ref (g 21), .ref (g 22), .ref (g 23), .ref (g 24), .long (wayS tn k u td9), .ref (g 26), .ref (g 27), .ref (g 28), .ref (g 29), .ref (g 30)])), (g 7, .inl (cI, 175, .inl (fun i9 => nI (tn i9))))] H ∧ va_D A [(g 0, .inr (10, [.int (nI 0), .ref (g 1), .int (nI ts), .int (nI pl), .int (nI rk), .ref (g 5), .int (nI sl), .ref (g 7), .int (nI rr), .int (nI rs), .ref (g 10), .ref (g 11), .ref (g 12), .long sd, .ref (g 14), .ref (g 15), .int (nI ac), .ref (g 17), .ref (g 18), .ref (g 19), .int (nI tc), .ref (g 21), .ref (g 22), .ref (g 23), .ref (g 24), .long (wayS tn k u td9), .ref (g 26), .ref (g 27), .ref (g 28), .ref (g 29), .ref (g 30)])), (g 7, .inl (cI, 175, .inl (fun i9 => nI (tn i9))))] ∧ va_S A s.heap H locs ∧ lv_has ls 6 [(4, .int (nI v)), (3, .int (nI (drN (nxS td9) - sumN (slT tn k u) v))), (0, .ref (g 0)), (1, .int (nI k)), (2, .int (nI u))]) (fun (v : Nat) => []) (fun (v : Nat) => 5 - v) ?_ 0 ⟨by first | assumption | omega | (simp; done), Nat.zero_le _, fun z hz => absurd hz (Nat.not_lt_zero _), hP.sub [0, 1] rfl, hD.sub [0, 1] (by decide) rfl, hS, lv_sub hl [0, 1, 2, 3, 4] rfl⟩
    intro xx9 H locs ls hI ih_46
    obtain ⟨v, rfl⟩ : ∃ z, z = xx9 := ⟨_, rfl⟩
    obtain ⟨hv, hle, hno, hP, hD, hS, hl⟩ := hI
    have hv : v ≤ 5 := hv
    have hle : sumN (slT tn k u) v ≤ drN (nxS td9) := hle
    have hno : ∀ z, z < v → sumN (slT tn k u) (z + 1) ≤ drN (nxS td9) := hno
    have hP : va_P G vwCl [(g 0, .inr (10, [.int (nI 0), .ref (g 1), .int (nI ts), .int (nI pl), .int (nI rk), .ref (g 5), .int (nI sl), .ref (g 7), .int (nI rr), .int (nI rs), .ref (g 10), .ref (g 11), .ref (g 12), .long sd, .ref (g 14), .ref (g 15), .int (nI ac), .ref (g 17), .ref (g 18), .ref (g 19), .int (nI tc), .ref (g 21), .ref (g 22), .ref (g 23), .ref (g 24), .long (wayS tn k u td9), .ref (g 26), .ref (g 27), .ref (g 28), .ref (g 29), .ref (g 30)])), (g 7, .inl (cI, 175, .inl (fun i9 => nI (tn i9))))] _ := hP
    have hD : va_D A [(g 0, .inr (10, [.int (nI 0), .ref (g 1), .int (nI ts), .int (nI pl), .int (nI rk), .ref (g 5), .int (nI sl), .ref (g 7), .int (nI rr), .int (nI rs), .ref (g 10), .ref (g 11), .ref (g 12), .long sd, .ref (g 14), .ref (g 15), .int (nI ac), .ref (g 17), .ref (g 18), .ref (g 19), .int (nI tc), .ref (g 21), .ref (g 22), .ref (g 23), .ref (g 24), .long (wayS tn k u td9), .ref (g 26), .ref (g 27), .ref (g 28), .ref (g 29), .ref (g 30)])), (g 7, .inl (cI, 175, .inl (fun i9 => nI (tn i9))))] := hD
    have hl : lv_has ls 6 [(4, .int (nI v)), (3, .int (nI (drN (nxS td9) - sumN (slT tn k u) v))), (0, .ref (g 0)), (1, .int (nI k)), (2, .int (nI u))] := hl
    refine lv_iload hx hb dX10_comesAs_46 (lv_at hl 0 rfl) ?_
    refine lv_iconst (v := nI 5) hx hb dX10_comesAs_48 (by decide) ?_
    refine lv_icmp_ge (tgt := 92) hx hb dX10_comesAs_49 (by decide) (fun c_49 => ?_) (fun c_49 => ?_)
    · skip
      have c_49 := n_geT c_49 (by omega) (by omega)
      refine lv_iload_n hx hb dX10_comesAs_92 rfl (lv_at hl 4 rfl) ?_
      exact endI hx hb hr hlocks (()) (by rw [wayO, if_neg (by omega), pickN_miss (fun z hz => hno z (by omega))]) (hP.sub [0, 1] rfl) (hD.sub [0, 1] (by decide) rfl) hS dX10_comesAs_93
    · skip
      have c_49 := n_geF c_49 (by omega) (by omega)
      refine lv_iload_n hx hb dX10_comesAs_52 rfl (lv_at hl 4 rfl) ?_
      refine lv_iload hx hb dX10_comesAs_53 (lv_at hl 0 rfl) ?_
      refine lv_icmp_ne (tgt := 62) hx hb dX10_comesAs_55 (by decide) (fun c_55 => ?_) (fun c_55 => ?_)
      · skip
        have c_55 := n_neT c_55 (by omega) (by omega)
        refine lv_aload_n hx hb dX10_comesAs_62 rfl (lv_at hl 2 rfl) ?_
        refine lv_iload_n hx hb dX10_comesAs_63 rfl (lv_at hl 3 rfl) ?_
        refine lv_iload_n hx hb dX10_comesAs_64 rfl (lv_at hl 4 rfl) ?_
        refine lv_iload hx hb dX10_comesAs_65 (lv_at hl 0 rfl) ?_
        refine aft_i (wr := []) (va_runV (As := [.int (nI k), .int (nI u), .int (nI v)]) (rest := []) ⟨hx, hb, hml, hown, hts⟩ (c_X10_tenthsOf (g := g) (ts := ts) (pl := pl) (rk := rk) (sl := sl) (rr := rr) (rs := rs) (ac := ac) (tc := tc) (sd := sd) (td9 := (wayS tn k u td9)) (tn := tn) (k := k) (u := u) (v := v) (hk := by first | assumption | omega | exact hok.1 _ (by omega) | exact hok.2.2 _ _ (by omega) (by omega) | exact hok.2.1) (hu := by first | assumption | omega | exact hok.1 _ (by omega) | exact hok.2.2 _ _ (by omega) (by omega) | exact hok.2.1) (hv := by omega) (hs := hok.2.2 k u hk hu) _) (cwV 3 hts gX10_comesAs_X10_tenthsOf rfl rfl rfl (by decide +kernel) ⟨Nat.le_of_ble_eq_true rfl, Nat.le_of_ble_eq_true rfl⟩) (preV (cq := (RX10, TX10, 31)) (q0 := 0) (ci := 10) hK hP hD [0, 1] rfl rfl rfl rfl) rfl rfl hl.1 rfl (lv_room (Nat.le_of_ble_eq_true rfl)) dX10_comesAs_67 ⟨Nat.le_of_ble_eq_true rfl, Nat.le_of_ble_eq_true rfl⟩) hP hD hS hA [0, 1] [] rfl rfl rfl (by decide) (fun r_67 uu9 H locs hw hP hD hS => ?_)
        have hP : va_P G vwCl [(g 0, .inr (10, [.int (nI 0), .ref (g 1), .int (nI ts), .int (nI pl), .int (nI rk), .ref (g 5), .int (nI sl), .ref (g 7), .int (nI rr), .int (nI rs), .ref (g 10), .ref (g 11), .ref (g 12), .long sd, .ref (g 14), .ref (g 15), .int (nI ac), .ref (g 17), .ref (g 18), .ref (g 19), .int (nI tc), .ref (g 21), .ref (g 22), .ref (g 23), .ref (g 24), .long (wayS tn k u td9), .ref (g 26), .ref (g 27), .ref (g 28), .ref (g 29), .ref (g 30)])), (g 7, .inl (cI, 175, .inl (fun i9 => nI (tn i9))))] _ := hP
        have hD : va_D A [(g 0, .inr (10, [.int (nI 0), .ref (g 1), .int (nI ts), .int (nI pl), .int (nI rk), .ref (g 5), .int (nI sl), .ref (g 7), .int (nI rr), .int (nI rs), .ref (g 10), .ref (g 11), .ref (g 12), .long sd, .ref (g 14), .ref (g 15), .int (nI ac), .ref (g 17), .ref (g 18), .ref (g 19), .int (nI tc), .ref (g 21), .ref (g 22), .ref (g 23), .ref (g 24), .long (wayS tn k u td9), .ref (g 26), .ref (g 27), .ref (g 28), .ref (g 29), .ref (g 30)])), (g 7, .inl (cI, 175, .inl (fun i9 => nI (tn i9))))] := hD
        obtain rfl := hw
        refine top_i (y := nI (wayT tn k u v)) rfl ?_
        refine top_i (y := nI (slT tn k u v)) (by rw [wayT, if_neg c_55]) ?_
        have hw9 : sumN (slT tn k u) v + slT tn k u v ≤ sumN (slT tn k u) 5 := sumN_le5 (slT tn k u) (n := v + 1) (by omega)
        refine lv_istore (lv' := [(5, .int (nI (slT tn k u v))), (4, .int (nI v)), (3, .int (nI (drN (nxS td9) - sumN (slT tn k u) v))), (0, .ref (g 0)), (1, .int (nI k)), (2, .int (nI u))]) hx hb dX10_comesAs_70 hl (by decide) rfl (fun ls hl => ?_)
        refine lv_iload_n hx hb dX10_comesAs_72 rfl (lv_at hl 2 rfl) ?_
        refine lv_iload hx hb dX10_comesAs_73 (lv_at hl 0 rfl) ?_
        refine lv_icmp_ge (tgt := 81) hx hb dX10_comesAs_75 (by decide) (fun c_75 => ?_) (fun c_75 => ?_)
        · skip
          have c_75 := n_geT c_75 (by omega) (by omega)
          refine lv_iload_n hx hb dX10_comesAs_81 rfl (lv_at hl 2 rfl) ?_
          refine lv_iload hx hb dX10_comesAs_82 (lv_at hl 0 rfl) ?_
          refine lv_isub hx hb dX10_comesAs_84 ?_
          refine top_i (y := nI ((drN (nxS td9) - sumN (slT tn k u) v) - (slT tn k u v))) (pk_sub (by omega)) ?_
          refine top_i (y := nI (drN (nxS td9) - sumN (slT tn k u) (v + 1))) (by rw [Nat.sub_sub, sumN]) ?_
          refine lv_istore_n (lv' := [(3, .int (nI (drN (nxS td9) - sumN (slT tn k u) (v + 1)))), (5, .int (nI (slT tn k u v))), (4, .int (nI v)), (0, .ref (g 0)), (1, .int (nI k)), (2, .int (nI u))]) hx hb dX10_comesAs_85 rfl hl (by decide) rfl (fun ls hl => ?_)
          refine lv_iinc (v := nI (v + 1)) (lv' := [(4, .int (nI (v + 1))), (3, .int (nI (drN (nxS td9) - sumN (slT tn k u) (v + 1)))), (5, .int (nI (slT tn k u v))), (0, .ref (g 0)), (1, .int (nI k)), (2, .int (nI u))]) hx hb dX10_comesAs_86 hl (k := 2) rfl (nI_inc _ 1 1 (by decide)) (by decide) rfl (fun ls hl => ?_)
          refine lv_goto (tgt := 46) hx hb dX10_comesAs_89 (by decide) ?_
          exact ih_46 (v + 1) _ _ _ (by first | omega | (simp only []; omega) | (show _ < _; omega)) ⟨by first | assumption | omega | (simp; done), show sumN (slT tn k u) v + slT tn k u v ≤ _ by omega, lt_s hno (show sumN (slT tn k u) v + slT tn k u v ≤ _ by omega), hP.sub [0, 1] rfl, hD.sub [0, 1] (by decide) rfl, hS, lv_sub hl [0, 1, 3, 4, 5] rfl⟩
        · skip
          have c_75 := n_geF c_75 (by omega) (by omega)
          refine lv_iload hx hb dX10_comesAs_78 (lv_at hl 1 rfl) ?_
          exact endI hx hb hr hlocks (()) (by rw [wayO, if_neg (by omega), pickN_hit (by omega) hno (show _ < sumN (slT tn k u) v + slT tn k u v by omega)]) (hP.sub [0, 1] rfl) (hD.sub [0, 1] (by decide) rfl) hS dX10_comesAs_80
      · skip
        have c_55 := n_neF c_55 (by omega) (by omega)
        refine lv_iconst (v := nI 0) hx hb dX10_comesAs_58 (by decide) ?_
        refine lv_goto (tgt := 70) hx hb dX10_comesAs_59 (by decide) ?_
        refine top_i (y := nI (slT tn k u v)) (by rw [← c_55, hdg k u hk hu]) ?_
        have hw9 : sumN (slT tn k u) v + slT tn k u v ≤ sumN (slT tn k u) 5 := sumN_le5 (slT tn k u) (n := v + 1) (by omega)
        refine lv_istore (lv' := [(5, .int (nI (slT tn k u v))), (4, .int (nI v)), (3, .int (nI (drN (nxS td9) - sumN (slT tn k u) v))), (0, .ref (g 0)), (1, .int (nI k)), (2, .int (nI u))]) hx hb dX10_comesAs_70 hl (by decide) rfl (fun ls hl => ?_)
        refine lv_iload_n hx hb dX10_comesAs_72 rfl (lv_at hl 2 rfl) ?_
        refine lv_iload hx hb dX10_comesAs_73 (lv_at hl 0 rfl) ?_
        refine lv_icmp_ge (tgt := 81) hx hb dX10_comesAs_75 (by decide) (fun c_75 => ?_) (fun c_75 => ?_)
        · skip
          have c_75 := n_geT c_75 (by omega) (by omega)
          refine lv_iload_n hx hb dX10_comesAs_81 rfl (lv_at hl 2 rfl) ?_
          refine lv_iload hx hb dX10_comesAs_82 (lv_at hl 0 rfl) ?_
          refine lv_isub hx hb dX10_comesAs_84 ?_
          refine top_i (y := nI ((drN (nxS td9) - sumN (slT tn k u) v) - (slT tn k u v))) (pk_sub (by omega)) ?_
          refine top_i (y := nI (drN (nxS td9) - sumN (slT tn k u) (v + 1))) (by rw [Nat.sub_sub, sumN]) ?_
          refine lv_istore_n (lv' := [(3, .int (nI (drN (nxS td9) - sumN (slT tn k u) (v + 1)))), (5, .int (nI (slT tn k u v))), (4, .int (nI v)), (0, .ref (g 0)), (1, .int (nI k)), (2, .int (nI u))]) hx hb dX10_comesAs_85 rfl hl (by decide) rfl (fun ls hl => ?_)
          refine lv_iinc (v := nI (v + 1)) (lv' := [(4, .int (nI (v + 1))), (3, .int (nI (drN (nxS td9) - sumN (slT tn k u) (v + 1)))), (5, .int (nI (slT tn k u v))), (0, .ref (g 0)), (1, .int (nI k)), (2, .int (nI u))]) hx hb dX10_comesAs_86 hl (k := 2) rfl (nI_inc _ 1 1 (by decide)) (by decide) rfl (fun ls hl => ?_)
          refine lv_goto (tgt := 46) hx hb dX10_comesAs_89 (by decide) ?_
          exact ih_46 (v + 1) _ _ _ (by first | omega | (simp only []; omega) | (show _ < _; omega)) ⟨by first | assumption | omega | (simp; done), show sumN (slT tn k u) v + slT tn k u v ≤ _ by omega, lt_s hno (show sumN (slT tn k u) v + slT tn k u v ≤ _ by omega), hP.sub [0, 1] rfl, hD.sub [0, 1] (by decide) rfl, hS, lv_sub hl [0, 1, 3, 4, 5] rfl⟩
        · skip
          have c_75 := n_geF c_75 (by omega) (by omega)
          refine lv_iload hx hb dX10_comesAs_78 (lv_at hl 1 rfl) ?_
          exact endI hx hb hr hlocks (()) (by rw [wayO, if_neg (by omega), pickN_hit (by omega) hno (show _ < sumN (slT tn k u) v + slT tn k u v by omega)]) (hP.sub [0, 1] rfl) (hD.sub [0, 1] (by decide) rfl) hS dX10_comesAs_80
  · skip
    have c_9 := n_neF c_9 (by omega) (by omega)
    rw [show td9 = wayS tn k u td9 by rw [wayS, if_pos (by omega)]] at hP hD
    have hP : va_P G vwCl [(g 0, .inr (10, [.int (nI 0), .ref (g 1), .int (nI ts), .int (nI pl), .int (nI rk), .ref (g 5), .int (nI sl), .ref (g 7), .int (nI rr), .int (nI rs), .ref (g 10), .ref (g 11), .ref (g 12), .long sd, .ref (g 14), .ref (g 15), .int (nI ac), .ref (g 17), .ref (g 18), .ref (g 19), .int (nI tc), .ref (g 21), .ref (g 22), .ref (g 23), .ref (g 24), .long (wayS tn k u td9), .ref (g 26), .ref (g 27), .ref (g 28), .ref (g 29), .ref (g 30)])), (g 7, .inl (cI, 175, .inl (fun i9 => nI (tn i9))))] _ := hP
    have hD : va_D A [(g 0, .inr (10, [.int (nI 0), .ref (g 1), .int (nI ts), .int (nI pl), .int (nI rk), .ref (g 5), .int (nI sl), .ref (g 7), .int (nI rr), .int (nI rs), .ref (g 10), .ref (g 11), .ref (g 12), .long sd, .ref (g 14), .ref (g 15), .int (nI ac), .ref (g 17), .ref (g 18), .ref (g 19), .int (nI tc), .ref (g 21), .ref (g 22), .ref (g 23), .ref (g 24), .long (wayS tn k u td9), .ref (g 26), .ref (g 27), .ref (g 28), .ref (g 29), .ref (g 30)])), (g 7, .inl (cI, 175, .inl (fun i9 => nI (tn i9))))] := hD
    refine lv_iload_n hx hb dX10_comesAs_12 rfl (lv_at hl 2 rfl) ?_
    exact endI hx hb hr hlocks (()) (by rw [wayO, if_pos (by omega)]) (hP.sub [0, 1] rfl) (hD.sub [0, 1] (by decide) rfl) hS dX10_comesAs_13
