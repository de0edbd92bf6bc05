/-! the reference: reading -/
def nzT (tn : Nat → Nat) (k u v : Nat) : Nat := if slT tn k u v = 0 then 0 else 1
def lefN (tn : Nat → Nat) (k u : Nat) : Nat := if sumN (nzT tn k u) 5 = 4 then 0 else 10 - sumN (slT tn k u) 5
def cntT (tn : Nat → Nat) (k : Nat) : Nat := sumN (nzT tn k 0) 5 + sumN (nzT tn k 1) 5 + sumN (nzT tn k 2) 5 + sumN (nzT tn k 3) 5 + sumN (nzT tn k 4) 5
def mn9 (x : Nat) : Nat := if 9 < x then 9 else x
theorem nz_n {tn : Nat → Nat} {k u i : Nat} (h : slT tn k u i = 0) : nI (sumN (nzT tn k u) i) = nI (sumN (nzT tn k u) (i + 1)) := by
  show _ = nI (sumN (nzT tn k u) i + nzT tn k u i)
  rw [show nzT tn k u i = 0 from if_pos h, Nat.add_zero]
theorem nz_y {tn : Nat → Nat} {k u i : Nat} (h : 0 < slT tn k u i) : nI (sumN (nzT tn k u) i + 1) = nI (sumN (nzT tn k u) (i + 1)) := by
  show _ = nI (sumN (nzT tn k u) i + nzT tn k u i)
  rw [show nzT tn k u i = 1 from if_neg (by omega)]
theorem nz_le1 (tn : Nat → Nat) (k u v : Nat) : nzT tn k u v ≤ 1 := by
  unfold nzT
  split <;> omega
theorem nz_le5 {tn : Nat → Nat} {k u : Nat} : sumN (nzT tn k u) 5 ≤ 5 := by
  rw [sum5]
  have h0 := nz_le1 tn k u 0
  have h1 := nz_le1 tn k u 1
  have h2 := nz_le1 tn k u 2
  have h3 := nz_le1 tn k u 3
  have h4 := nz_le1 tn k u 4
  omega
theorem lef_le {tn : Nat → Nat} {k u : Nat} : lefN tn k u ≤ 10 := by
  unfold lefN
  split <;> omega
theorem nz_9 {tn : Nat → Nat} {k u v : Nat} (h : slT tn k u v < 10) : slT tn k u v ≤ 9 * nzT tn k u v := by
  unfold nzT
  split <;> omega
theorem lef_two {tn : Nat → Nat} {k u : Nat} (ht : ∀ i, i < 175 → tn i < 10) (hk : k < 7) (hu : u < 5) (h : ¬ 0 < lefN tn k u) : 2 ≤ sumN (nzT tn k u) 5 := by
  have b : ∀ v, v < 5 → slT tn k u v ≤ 9 * nzT tn k u v := fun v hv => nz_9 (ht _ (by omega))
  have b0 := b 0 (by decide)
  have b1 := b 1 (by decide)
  have b2 := b 2 (by decide)
  have b3 := b 3 (by decide)
  have b4 := b 4 (by decide)
  unfold lefN at h
  split at h
  · omega
  · rw [sum5] at h
    rw [sum5]
    omega
theorem hasL_ok {tn : Nat → Nat} {k rs : Nat} (ht : ∀ i, i < 175 → tn i < 10) (hc : ∀ k, k < 7 → cntT tn k ≤ rs) (hs : rs < 9) (hk : k < 7) : ∃ u, u < 5 ∧ 0 < lefN tn k u := by
  refine Classical.byContradiction (fun h => ?_)
  have b : ∀ u, u < 5 → 2 ≤ sumN (nzT tn k u) 5 := fun u hu => lef_two ht hk hu (fun z => h ⟨u, hu, z⟩)
  have b0 := b 0 (by decide)
  have b1 := b 1 (by decide)
  have b2 := b 2 (by decide)
  have b3 := b 3 (by decide)
  have b4 := b 4 (by decide)
  have hc := hc k hk
  unfold cntT at hc
  omega
theorem nz_four {tn : Nat → Nat} {k u : Nat} (hu : u < 5) (hd : slT tn k u u = 0) : sumN (nzT tn k u) 5 = 4 ↔ ¬ ∃ v, v < 5 ∧ ¬ v = u ∧ slT tn k u v = 0 := by
  have h0 := nz_le1 tn k u 0
  have h1 := nz_le1 tn k u 1
  have h2 := nz_le1 tn k u 2
  have h3 := nz_le1 tn k u 3
  have h4 := nz_le1 tn k u 4
  have zu : nzT tn k u u = 0 := if_pos hd
  rw [sum5]
  constructor
  · rintro h ⟨v, hv, hvu, hz⟩
    have zv : nzT tn k u v = 0 := if_pos hz
    rcases (show u = 0 ∨ u = 1 ∨ u = 2 ∨ u = 3 ∨ u = 4 by omega) with rfl | rfl | rfl | rfl | rfl <;> rcases (show v = 0 ∨ v = 1 ∨ v = 2 ∨ v = 3 ∨ v = 4 by omega) with rfl | rfl | rfl | rfl | rfl <;> omega
  · intro h
    have n : ∀ v, v < 5 → v = u ∨ nzT tn k u v = 1 := fun v hv => (Classical.em (v = u)).elim Or.inl (fun e => Or.inr (if_neg (fun z => h ⟨v, hv, e, z⟩)))
    have n0 := n 0 (by decide)
    have n1 := n 1 (by decide)
    have n2 := n 2 (by decide)
    have n3 := n 3 (by decide)
    have n4 := n 4 (by decide)
    rcases (show u = 0 ∨ u = 1 ∨ u = 2 ∨ u = 3 ∨ u = 4 by omega) with rfl | rfl | rfl | rfl | rfl <;> omega
theorem lef_can {tn : Nat → Nat} {k u : Nat} (hu : u < 5) (hd : slT tn k u u = 0) (hs : sumN (slT tn k u) 5 ≤ 10) : 0 < lefN tn k u ↔ canSl tn k u := by
  have h4 := nz_four (tn := tn) (k := k) hu hd
  unfold lefN canSl
  by_cases e : sumN (nzT tn k u) 5 = 4
  · rw [if_pos e]
    exact ⟨fun z => absurd z (by decide), fun z => absurd z.2 (h4.mp e)⟩
  · rw [if_neg e]
    exact ⟨fun z => ⟨by omega, Classical.not_not.mp (fun y => e (h4.mpr y))⟩, fun z => by have := z.1; omega⟩
theorem nz_up {tn : Nat → Nat} {k u v t a b : Nat} (hu : u < 5) (hv : v < 5) (hb : b < 5) (h0 : slT tn k u v = 0) (ht : ¬ t = 0) : sumN (nzT (va_up tn ((k * 5 + u) * 5 + v) t) a b) 5 = if a = k ∧ b = u then sumN (nzT tn a b) 5 + 1 else sumN (nzT tn a b) 5 := by
  have e : ∀ d, d < 5 → nzT (va_up tn ((k * 5 + u) * 5 + v) t) a b d = if a = k ∧ b = u ∧ d = v then 1 else nzT tn a b d := by
    intro d hd
    unfold nzT
    rw [slT_up hu hv hb hd]
    by_cases e : a = k ∧ b = u ∧ d = v
    · rw [if_pos e, if_pos e, if_neg ht]
    · rw [if_neg e, if_neg e]
  rw [sum5, sum5, e 0 (by decide), e 1 (by decide), e 2 (by decide), e 3 (by decide), e 4 (by decide)]
  by_cases e : a = k ∧ b = u
  · rw [if_pos e]
    obtain ⟨rfl, rfl⟩ := e
    have z : nzT tn a b v = 0 := if_pos h0
    rcases (show v = 0 ∨ v = 1 ∨ v = 2 ∨ v = 3 ∨ v = 4 by omega) with rfl | rfl | rfl | rfl | rfl <;> simp [z] <;> omega
  · rw [if_neg e]
    have n : ∀ d, ¬ (a = k ∧ b = u ∧ d = v) := fun d z => e ⟨z.1, z.2.1⟩
    rw [if_neg (n 0), if_neg (n 1), if_neg (n 2), if_neg (n 3), if_neg (n 4)]
theorem cnt_up {tn : Nat → Nat} {k u v t a : Nat} (hu : u < 5) (hv : v < 5) (h0 : slT tn k u v = 0) (ht : ¬ t = 0) : cntT (va_up tn ((k * 5 + u) * 5 + v) t) a ≤ cntT tn a + 1 := by
  unfold cntT
  rw [nz_up hu hv (by decide) h0 ht, nz_up hu hv (by decide) h0 ht, nz_up hu hv (by decide) h0 ht, nz_up hu hv (by decide) h0 ht, nz_up hu hv (by decide) h0 ht]
  by_cases e : a = k
  · subst e
    rcases (show u = 0 ∨ u = 1 ∨ u = 2 ∨ u = 3 ∨ u = 4 by omega) with rfl | rfl | rfl | rfl | rfl <;> simp <;> omega
  · have n : ∀ d, ¬ (a = k ∧ d = u) := fun d z => e z.1
    rw [if_neg (n 0), if_neg (n 1), if_neg (n 2), if_neg (n 3), if_neg (n 4)]
    omega
def RI2 (s9 : RS) : Prop := (6 ≤ s9.1 → ¬ s9.2.2.2.1 = s9.2.2.1) ∧ (∀ k u, k < 7 → u < 5 → slT s9.2.2.2.2.2.2.2 k u u = 0) ∧ ∀ k, k < 7 → cntT s9.2.2.2.2.2.2.2 k ≤ s9.2.2.2.2.2.1
theorem dl_inv2 {c : Nat} {s8 s9 : RS} (hi : RInv s8) (h2 : RI2 s8) (z : dl c s8 = some s9) : RI2 s9 := by
  obtain ⟨stp, wy, tq, ho, rk, sl, kd, tn⟩ := s8
  obtain ⟨i1, i2, i3, i4, i5, i6, i7, i8, i9, i10, i11⟩ := hi
  obtain ⟨g1, g2, g3⟩ := h2
  simp only at i1 i2 i3 i4 i5 i6 i7 i8 i9 i10 i11 g1 g2 g3
  rcases (show stp = 0 ∨ stp = 1 ∨ stp = 2 ∨ stp = 3 ∨ stp = 4 ∨ stp = 5 ∨ stp = 6 by omega) with rfl | rfl | rfl | rfl | rfl | rfl | rfl
  · obtain ⟨h, rfl⟩ := pO_some.mp z
    exact ⟨by simp, g2, g3⟩
  · have z : (if c = 82 then pO (rk < 7) (some (2, wy, tq, ho, rk, sl, kd, tn)) else pO (c = 83 ∧ 1 < rk ∧ sl < 9) (some (3, wy, tq, ho, rk, sl, kd, tn))) = some s9 := z
    by_cases e : c = 82
    · rw [if_pos e] at z
      obtain ⟨h, rfl⟩ := pO_some.mp z
      exact ⟨by simp, g2, g3⟩
    · rw [if_neg e] at z
      obtain ⟨h, rfl⟩ := pO_some.mp z
      exact ⟨by simp, g2, g3⟩
  · obtain ⟨h, rfl⟩ := pO_some.mp z
    exact ⟨by simp, g2, g3⟩
  · obtain ⟨h, rfl⟩ := pO_some.mp z
    exact ⟨by simp, g2, g3⟩
  · obtain ⟨h, rfl⟩ := pO_some.mp z
    exact ⟨by simp, g2, g3⟩
  · obtain ⟨h, rfl⟩ := pO_some.mp z
    exact ⟨fun _ => h.2.2.1, g2, g3⟩
  · obtain ⟨h, rfl⟩ := pO_some.mp z
    have j5 := i5 (by decide)
    have j6 := i6 (by decide)
    have j1 := g1 (by decide)
    refine ⟨by simp, fun k u hk hu => ?_, fun k hk => ?_⟩
    · show slT (va_up tn ((wy * 5 + tq) * 5 + ho) (c - 48)) k u u = 0
      rw [slT_up j5 j6.1 hu hu, if_neg (by omega)]
      exact g2 k u hk hu
    · show cntT (va_up tn ((wy * 5 + tq) * 5 + ho) (c - 48)) k ≤ sl + 1
      have := cnt_up (a := k) j5 j6.1 j6.2 (show ¬ c - 48 = 0 by omega)
      have := g3 k hk
      omega
theorem RI2_0 : RI2 RS0 := by
  refine ⟨by simp [RS0], fun k u _ _ => rfl, fun k _ => ?_⟩
  have h : ∀ u, sumN (nzT (fun _ => 0) k u) 5 = 0 := fun u => by rw [sum5]; rfl
  show sumN (nzT (fun _ => 0) k 0) 5 + sumN (nzT (fun _ => 0) k 1) 5 + sumN (nzT (fun _ => 0) k 2) 5 + sumN (nzT (fun _ => 0) k 3) 5 + sumN (nzT (fun _ => 0) k 4) 5 ≤ 0
  rw [h, h, h, h, h]
  exact Nat.le_refl 0
theorem run_inv2 {tx : Nat → Nat} : ∀ {n : Nat} {s9 : RS}, runN tx n = some s9 → RI2 s9
  | 0, s9, h => by cases h; exact RI2_0
  | n + 1, s9, h => by
    rw [runN] at h
    cases e : runN tx n with
    | none => rw [e] at h; cases h
    | some s8 => rw [e] at h; exact dl_inv2 (run_inv e) (run_inv2 e) h
theorem in_way {c rr : Nat} (hc : c < 256) (hr : rr < 8) : (lN 1 ≤ (nI c - nI 48).toInt64 ∧ (nI c - nI 48).toInt64 ≤ (nI rr - nI 1).toInt64) ↔ (48 < c ∧ c < 48 + rr) := by
  rw [Int64.le_iff_toInt_le, Int64.le_iff_toInt_le, pk_lT (by omega), Int32.toInt_toInt64, Int32.toInt_toInt64, pk_sub_toInt (by omega) (by omega), pk_sub_toInt (by omega) (by omega)]
  omega
theorem in_way9 {z : Int64} : ¬ (lN 1 ≤ (-9 : Int32).toInt64 ∧ (-9 : Int32).toInt64 ≤ z) := fun h => absurd h.1 (by decide)
theorem nr9 : ¬ isR 5 (-9 : Int32) := fun ⟨k, hk, h⟩ => nI_ne9 (by omega) h.symm
/-- where a slip's text stands -/
def SlAt (tx : Nat → Nat) (p j k u v : Nat) (rd rt : Nat → Nat) (rr rs : Nat) : Prop := ∃ s9, runN tx p = some s9 ∧ s9.1 = j ∧ (4 ≤ j → s9.2.1 = k) ∧ (5 ≤ j → s9.2.2.1 = u) ∧ (6 ≤ j → s9.2.2.2.1 = v) ∧ RMo s9 rd rt rr rs
section
variable {tx : Nat → Nat} {ts p pl j k u v rr rs : Nat} {rd rt : Nat → Nat} {res : Int32}
theorem sl3_of (h : ∃ s9, runN tx p = some s9 ∧ s9.1 = 3 ∧ RMo s9 rd rt rr rs) : SlAt tx p 3 0 0 0 rd rt rr rs := by
  obtain ⟨s9, h1, h2, h3⟩ := h
  exact ⟨s9, h1, h2, fun z => absurd z (by decide), fun z => absurd z (by decide), fun z => absurd z (by decide), h3⟩
theorem sl1_of (h : ∃ s9, runN tx p = some s9 ∧ s9.1 = 1 ∧ RMo s9 rd rt rr rs) : SlAt tx p 1 0 0 0 rd rt rr rs := by
  obtain ⟨s9, h1, h2, h3⟩ := h
  exact ⟨s9, h1, h2, fun z => absurd z (by decide), fun z => absurd z (by decide), fun z => absurd z (by decide), h3⟩
theorem nz_congr {tn tm : Nat → Nat} (h : ∀ i, i < 175 → tn i = tm i) (hk : k < 7) (hu : u < 5) : sumN (nzT tn k u) 5 = sumN (nzT tm k u) 5 :=
  sumN_congr (fun i hi => by unfold nzT; rw [slT_congr h hk hu hi])
theorem sl_rf (h : SlAt tx p j k u v rd rt rr rs) : (∀ k u, k < 7 → u < 5 → sumN (slT rt k u) 5 ≤ 10) ∧ (∀ i, i < 175 → rt i < 10) ∧ (∀ k u, k < 7 → u < 5 → slT rt k u u = 0) ∧ (∀ k, k < 7 → cntT rt k ≤ rs) ∧ rr ≤ 7 ∧ rs ≤ 9 := by
  obtain ⟨⟨stp, wy, tq, ho, rk, sl, kd, tn⟩, e1, e2, -, -, -, m1, m2, m3, m4⟩ := h
  have m1 : rk = rr := m1
  have m2 : sl = rs := m2
  have m4 : ∀ i, i < 175 → rt i = tn i := m4
  subst m1 m2
  obtain ⟨i1, i2, i3, i4, i5, i6, i7, i8, i9, i10, i11⟩ := run_inv e1
  obtain ⟨g1, g2, g3⟩ := run_inv2 e1
  simp only at i2 i7 i8 i9 g2 g3
  refine ⟨fun k u hk hu => by rw [sim_sum m4 hk hu]; exact i8 k u hk hu, fun i hi => by rw [m4 i hi]; exact i7 i hi, fun k u hk hu => by rw [slT_congr m4 hk hu hu]; exact g2 k u hk hu, fun k hk => ?_, i2, i9⟩
  have := g3 k hk
  unfold cntT at this ⊢
  rw [nz_congr m4 hk (by decide), nz_congr m4 hk (by decide), nz_congr m4 hk (by decide), nz_congr m4 hk (by decide), nz_congr m4 hk (by decide)]
  exact this
theorem sl_end (h : SlAt tx p j k u v rd rt rr rs) (hp : p = ts) (hj : ¬ j = 1) : FltAt tx ts p := by
  obtain ⟨s9, h1, h2, -⟩ := h
  exact Or.inr ⟨hp, s9, by rw [← hp]; exact h1, by rw [h2]; exact hj⟩
theorem PaP_f (h : FltAt tx ts p) (hp : p ≤ ts) : PaP tx ts pl p rd rt rr rs (nI 0) := Or.inr ⟨rfl, hp, h⟩
theorem sl3_no (h : SlAt tx p 3 k u v rd rt rr rs) (hp : p < ts) (hc : ¬ (48 < tx p ∧ tx p < 48 + rr)) : FltAt tx ts p := by
  obtain ⟨⟨stp, wy, tq, ho, rk, sl, kd, tn⟩, e1, e2, -, -, -, m1, m2, m3, m4⟩ := h
  have e2 : stp = 3 := e2
  have m1 : rk = rr := m1
  subst e2 m1
  refine Or.inl ⟨hp, ⟨_, e1⟩, run_none e1 ?_⟩
  rintro ⟨s9, z⟩
  exact hc (pO_some.mp z).1
theorem sl3_ok (h : SlAt tx p 3 0 0 0 rd rt rr rs) (hc : tx p = k + 48) (h0 : 0 < k) (h1 : k < rr) : SlAt tx (p + 1) 4 k 0 0 rd rt rr rs := by
  obtain ⟨⟨stp, wy, tq, ho, rk, sl, kd, tn⟩, e1, e2, -, -, -, m1, m2, m3, m4⟩ := h
  have e2 : stp = 3 := e2
  have m1 : rk = rr := m1
  subst e2 m1
  exact ⟨(4, tx p - 48, tq, ho, rk, sl, kd, tn), run_next e1 (pO_some.mpr ⟨⟨by omega, by omega⟩, rfl⟩), rfl, fun _ => (by show tx p - 48 = k; omega), fun z => absurd z (by decide), fun z => absurd z (by decide), rfl, m2, m3, m4⟩
theorem sl4_no (h : SlAt tx p 4 k 0 0 rd rt rr rs) (hp : p < ts) (hk : k < 7) (hn : ¬ ∃ u, u < 5 ∧ tx p = u + 48 ∧ 0 < lefN rt k u) : FltAt tx ts p := by
  obtain ⟨f1, f2, f3, f4, f5, f6⟩ := sl_rf h
  obtain ⟨⟨stp, wy, tq, ho, rk, sl, kd, tn⟩, e1, e2, e3, -, -, m1, m2, m3, m4⟩ := h
  have e2 : stp = 4 := e2
  have x3 : wy = k := e3 (by decide)
  subst e2 x3
  refine Or.inl ⟨hp, ⟨_, e1⟩, run_none e1 ?_⟩
  rintro ⟨s9, z⟩
  have z := (pO_some.mp z).1
  exact hn ⟨tx p - 48, by omega, by omega, (lef_can (by omega) (f3 _ _ hk (by omega)) (f1 _ _ hk (by omega))).mpr ((canSl_congr m4 hk (by omega)).mpr z.2.2)⟩
theorem sl4_ok (h : SlAt tx p 4 k 0 0 rd rt rr rs) (hk : k < 7) (hu : u < 5) (hc : tx p = u + 48) (hl : 0 < lefN rt k u) : SlAt tx (p + 1) 5 k u 0 rd rt rr rs := by
  obtain ⟨f1, f2, f3, f4, f5, f6⟩ := sl_rf h
  obtain ⟨⟨stp, wy, tq, ho, rk, sl, kd, tn⟩, e1, e2, e3, -, -, m1, m2, m3, m4⟩ := h
  have e2 : stp = 4 := e2
  have x3 : wy = k := e3 (by decide)
  subst e2 x3
  have hcs := (canSl_congr m4 hk hu).mp ((lef_can hu (f3 _ _ hk hu) (f1 _ _ hk hu)).mp hl)
  have hc2 : tx p - 48 = u := by omega
  exact ⟨(5, wy, tx p - 48, ho, rk, sl, kd, tn), run_next e1 (pO_some.mpr ⟨⟨by omega, by omega, by rw [hc2]; exact hcs⟩, rfl⟩), rfl, fun _ => rfl, fun _ => hc2, fun z => absurd z (by decide), m1, m2, m3, m4⟩
theorem sl5_no (h : SlAt tx p 5 k u 0 rd rt rr rs) (hp : p < ts) (hk : k < 7) (hu : u < 5) (hn : ¬ ∃ v, v < 5 ∧ tx p = v + 48 ∧ ¬ v = u ∧ slT rt k u v = 0) : FltAt tx ts p := by
  obtain ⟨⟨stp, wy, tq, ho, rk, sl, kd, tn⟩, e1, e2, e3, e4, -, m1, m2, m3, m4⟩ := h
  have e2 : stp = 5 := e2
  have x3 : wy = k := e3 (by decide)
  have x4 : tq = u := e4 (by decide)
  subst e2 x3 x4
  refine Or.inl ⟨hp, ⟨_, e1⟩, run_none e1 ?_⟩
  rintro ⟨s9, z⟩
  have z := (pO_some.mp z).1
  exact hn ⟨tx p - 48, by omega, by omega, z.2.2.1, by rw [slT_congr m4 hk hu (by omega)]; exact z.2.2.2⟩
theorem sl5_ok (h : SlAt tx p 5 k u 0 rd rt rr rs) (hk : k < 7) (hu : u < 5) (hv : v < 5) (hc : tx p = v + 48) (hvu : ¬ v = u) (hz : slT rt k u v = 0) : SlAt tx (p + 1) 6 k u v rd rt rr rs := by
  obtain ⟨⟨stp, wy, tq, ho, rk, sl, kd, tn⟩, e1, e2, e3, e4, -, m1, m2, m3, m4⟩ := h
  have e2 : stp = 5 := e2
  have x3 : wy = k := e3 (by decide)
  have x4 : tq = u := e4 (by decide)
  subst e2 x3 x4
  have hc2 : tx p - 48 = v := by omega
  rw [slT_congr m4 hk hu hv] at hz
  exact ⟨(6, wy, tq, tx p - 48, rk, sl, kd, tn), run_next e1 (pO_some.mpr ⟨⟨by omega, by omega, by rw [hc2]; exact hvu, by rw [hc2]; exact hz⟩, rfl⟩), rfl, fun _ => rfl, fun _ => rfl, fun _ => hc2, m1, m2, m3, m4⟩
theorem lef6 (hd : slT rt k u u = 0) (hu : u < 5) (hv : v < 5) (hvu : ¬ v = u) (hz : slT rt k u v = 0) : lefN rt k u = 10 - sumN (slT rt k u) 5 := if_neg (fun z => (nz_four hu hd).mp z ⟨v, hv, hvu, hz⟩)
theorem sl6_no (h : SlAt tx p 6 k u v rd rt rr rs) (hk : k < 7) (hu : u < 5) (hv : v < 5) (hvu : ¬ v = u) (hz : slT rt k u v = 0) (hn : (p = ts) ∨ p < ts ∧ ¬ (49 ≤ tx p ∧ tx p ≤ mn9 (lefN rt k u) + 48)) : FltAt tx ts p := by
  obtain ⟨f1, f2, f3, f4, f5, f6⟩ := sl_rf h
  rcases hn with hn | ⟨hp, hn⟩
  · exact sl_end h hn (by decide)
  rw [lef6 (f3 _ _ hk hu) hu hv hvu hz] at hn
  obtain ⟨⟨stp, wy, tq, ho, rk, sl, kd, tn⟩, e1, e2, e3, e4, e5, m1, m2, m3, m4⟩ := h
  have e2 : stp = 6 := e2
  have x3 : wy = k := e3 (by decide)
  have x4 : tq = u := e4 (by decide)
  have x5 : ho = v := e5 (by decide)
  subst e2 x3 x4 x5
  refine Or.inl ⟨hp, ⟨_, e1⟩, run_none e1 ?_⟩
  rintro ⟨s9, z⟩
  have z := (pO_some.mp z).1
  rw [← sim_sum m4 hk hu] at z
  refine hn ⟨by omega, ?_⟩
  unfold mn9
  split <;> omega
theorem sl6_ok {t : Nat} (h : SlAt tx p 6 k u v rd rt rr rs) (ht0 : p < ts) (hpl : pl < p + 1) (hk : k < 7) (hu : u < 5) (hv : v < 5) (hvu : ¬ v = u) (hz : slT rt k u v = 0) (hc : tx p = t + 48) (hr : 49 ≤ tx p ∧ tx p ≤ mn9 (lefN rt k u) + 48) : PaP tx ts pl (p + 1) rd (va_up rt (25 * k + 5 * u + v) t) rr (rs + 1) (nI 1) := by
  obtain ⟨f1, f2, f3, f4, f5, f6⟩ := sl_rf h
  rw [lef6 (f3 _ _ hk hu) hu hv hvu hz] at hr
  have hs := f1 k u hk hu
  obtain ⟨⟨stp, wy, tq, ho, rk, sl, kd, tn⟩, e1, e2, e3, e4, e5, m1, m2, m3, m4⟩ := h
  have e2 : stp = 6 := e2
  have x3 : wy = k := e3 (by decide)
  have x4 : tq = u := e4 (by decide)
  have x5 : ho = v := e5 (by decide)
  have m2 : sl = rs := m2
  subst e2 x3 x4 x5 m2
  have hc2 : tx p - 48 = t := by omega
  have hm : mn9 (10 - sumN (slT rt wy tq) 5) ≤ 9 ∧ mn9 (10 - sumN (slT rt wy tq) 5) ≤ 10 - sumN (slT rt wy tq) 5 := by unfold mn9; split <;> omega
  refine Or.inl ⟨rfl, hpl, by omega, (1, wy, tq, ho, rk, sl + 1, kd, va_up tn ((wy * 5 + tq) * 5 + ho) (tx p - 48)), run_next e1 (pO_some.mpr ⟨⟨by omega, by omega, by rw [← sim_sum m4 hk hu]; omega⟩, rfl⟩), rfl, m1, rfl, m3, fun i hi => ?_⟩
  show va_up rt (25 * wy + 5 * tq + ho) t i = va_up tn ((wy * 5 + tq) * 5 + ho) (tx p - 48) i
  rw [hc2, show 25 * wy + 5 * tq + ho = (wy * 5 + tq) * 5 + ho by omega]
  by_cases e : i = (wy * 5 + tq) * 5 + ho
  · rw [e, va_up_self, va_up_self]
  · rw [va_up_ne _ _ e, va_up_ne _ _ e]; exact m4 i hi
theorem FgP_9 {b p1 : Nat} (htx : ∀ j, j < ts → tx j < 256) (h : FgP tx ts p 1 b p1 res) (hr : res = -9) (hp : p ≤ ts) : p1 = p ∧ ((p = ts) ∨ p < ts ∧ ¬ (49 ≤ tx p ∧ tx p ≤ b + 48)) := by
  by_cases e : p < ts ∧ 1 + 48 ≤ tx p ∧ tx p ≤ b + 48
  · have h1 := (h.1 e).1
    have h2 := htx p e.1
    rw [hr] at h1
    exact absurd h1.symm (nI_ne9 (by omega))
  · exact ⟨(h.2 e).2, by omega⟩
theorem FgP_t {b p1 : Nat} (h : FgP tx ts p 1 b p1 res) (hr : ¬ res = -9) : ∃ t, p < ts ∧ (49 ≤ tx p ∧ tx p ≤ b + 48) ∧ nI t = res ∧ p + 1 = p1 ∧ tx p = t + 48 := by
  by_cases e : p < ts ∧ 1 + 48 ≤ tx p ∧ tx p ≤ b + 48
  · exact ⟨tx p - 48, e.1, ⟨by omega, e.2.2⟩, (h.1 e).1.symm, (h.1 e).2.symm, by omega⟩
  · exact absurd (h.2 e).1 hr
theorem p1_no (h : ∃ s9, runN tx p = some s9 ∧ s9.1 = 1 ∧ RMo s9 rd rt rr rs) (hp : p < ts) (hn : ¬ ((tx p = 82 ∧ rr < 7) ∨ (tx p = 83 ∧ 1 < rr ∧ rs < 9))) : FltAt tx ts p := by
  obtain ⟨⟨stp, wy, tq, ho, rk, sl, kd, tn⟩, e1, e2, m1, m2, m3, m4⟩ := h
  have e2 : stp = 1 := e2
  have m1 : rk = rr := m1
  have m2 : sl = rs := m2
  subst e2 m1 m2
  refine Or.inl ⟨hp, ⟨_, e1⟩, run_none e1 ?_⟩
  rintro ⟨s9, z⟩
  have z : (if tx p = 82 then pO (rk < 7) (some (2, wy, tq, ho, rk, sl, kd, tn)) else pO (tx p = 83 ∧ 1 < rk ∧ sl < 9) (some (3, wy, tq, ho, rk, sl, kd, tn))) = some s9 := z
  by_cases e : tx p = 82
  · rw [if_pos e] at z
    exact hn (Or.inl ⟨e, (pO_some.mp z).1⟩)
  · rw [if_neg e] at z
    exact hn (Or.inr (pO_some.mp z).1)
theorem p1_R (h : ∃ s9, runN tx p = some s9 ∧ s9.1 = 1 ∧ RMo s9 rd rt rr rs) (hc : tx p = 82) (hr : rr < 7) : ∃ s9, runN tx (p + 1) = some s9 ∧ s9.1 = 2 ∧ RMo s9 rd rt rr rs := by
  obtain ⟨⟨stp, wy, tq, ho, rk, sl, kd, tn⟩, e1, e2, m1, m2, m3, m4⟩ := h
  have e2 : stp = 1 := e2
  have m1 : rk = rr := m1
  subst e2 m1
  refine ⟨(2, wy, tq, ho, rk, sl, kd, tn), run_next e1 ?_, rfl, rfl, m2, m3, m4⟩
  show (if tx p = 82 then pO (rk < 7) (some (2, wy, tq, ho, rk, sl, kd, tn)) else pO (tx p = 83 ∧ 1 < rk ∧ sl < 9) (some (3, wy, tq, ho, rk, sl, kd, tn))) = _
  rw [if_pos hc]
  exact pO_some.mpr ⟨hr, rfl⟩
theorem p1_S (h : ∃ s9, runN tx p = some s9 ∧ s9.1 = 1 ∧ RMo s9 rd rt rr rs) (hc : tx p = 83) (hr : 1 < rr) (hs : rs < 9) : ∃ s9, runN tx (p + 1) = some s9 ∧ s9.1 = 3 ∧ RMo s9 rd rt rr rs := by
  obtain ⟨⟨stp, wy, tq, ho, rk, sl, kd, tn⟩, e1, e2, m1, m2, m3, m4⟩ := h
  have e2 : stp = 1 := e2
  have m1 : rk = rr := m1
  have m2 : sl = rs := m2
  subst e2 m1 m2
  refine ⟨(3, wy, tq, ho, rk, sl, kd, tn), run_next e1 ?_, rfl, rfl, rfl, m3, m4⟩
  show (if tx p = 82 then pO (rk < 7) (some (2, wy, tq, ho, rk, sl, kd, tn)) else pO (tx p = 83 ∧ 1 < rk ∧ sl < 9) (some (3, wy, tq, ho, rk, sl, kd, tn))) = _
  rw [if_neg (by omega)]
  exact pO_some.mpr ⟨⟨hc, hr, hs⟩, rfl⟩
theorem PaP_mono (h : PaP tx ts (p + 1) pl rd rt rr rs res) : PaP tx ts p pl rd rt rr rs res := by
  rcases h with ⟨h1, h2, h3, h4⟩ | h
  · exact Or.inl ⟨h1, by omega, h3, h4⟩
  · exact Or.inr h
theorem PaP_nar (h : PaP tx ts p pl rd rt rr rs res) : narrow .boolean (.int res) = .int res := by
  rcases h with ⟨rfl, -⟩ | ⟨rfl, -⟩ <;> rfl
theorem PaP_y (h : PaP tx ts p pl rd rt rr rs res) (hr : ¬ res = 0) : p < pl ∧ pl ≤ ts ∧ ∃ s9, runN tx pl = some s9 ∧ s9.1 = 1 ∧ RMo s9 rd rt rr rs := by
  rcases h with ⟨-, h⟩ | ⟨rfl, -⟩
  · exact h
  · exact absurd rfl hr
theorem PaP_le (h : PaP tx ts p pl rd rt rr rs res) : pl ≤ ts := by
  rcases h with ⟨-, -, h, -⟩ | ⟨-, h, -⟩ <;> exact h
theorem PaP_n (h : PaP tx ts p pl rd rt rr rs res) (hr : res = 0) : FaultIs tx ts (nI pl) := by
  rcases h with ⟨rfl, -⟩ | ⟨-, -, ⟨h1, h2, h3⟩ | ⟨rfl, s9, h2, h3⟩⟩
  · exact absurd hr (by decide)
  · exact Or.inl ⟨pl, h1, h2, h3, rfl⟩
  · exact Or.inr ⟨s9, h2, by rw [if_neg h3]⟩
theorem rd_0 (hc : tx 0 = 72) (ht : ∀ j, j < 175 → rt j = 0) : ∃ s9, runN tx 1 = some s9 ∧ s9.1 = 1 ∧ RMo s9 rd rt 0 0 :=
  ⟨(1, 0, 0, 0, 0, 0, fun _ => 0, fun _ => 0), run_next (s8 := RS0) rfl (pO_some.mpr ⟨hc, rfl⟩), rfl, rfl, rfl, fun k hk => absurd hk (Nat.not_lt_zero _), ht⟩
theorem rd_no (hc : ¬ tx 0 = 72) : runN tx (0 + 1) = none := run_none (s8 := RS0) rfl (fun ⟨s9, z⟩ => hc (pO_some.mp z).1)
theorem rd_end (h : ∃ s9, runN tx p = some s9 ∧ s9.1 = 1 ∧ RMo s9 rd rt rr rs) : FaultIs tx p (-9) ∧ ((-9 : Int32) = -9 → ∃ s9, runN tx p = some s9 ∧ RMo s9 rd rt rr rs) := by
  obtain ⟨s9, h1, h2, h3⟩ := h
  exact ⟨Or.inr ⟨s9, h1, by rw [if_pos h2]⟩, fun _ => ⟨s9, h1, h3⟩⟩
end
set_option maxHeartbeats 4000000 in
set_option maxRecDepth 100000 in
theorem c_X10_left {l : Launch} {G : va_G} {cI cJ cZ cS : ClassId} (g : Nat → Nat) (ts : Nat) (pl : Nat) (rk : Nat) (sl : Nat) (rr : Nat) (rs : Nat) (ac : Nat) (tc : Nat) (sd : Int64) (td9 : Int64) (rt : Nat → Nat) (k : Nat) (u : Nat) (hk : k < 7) (hu : u < 5) (hrt : ∀ i, i < 175 → rt i < 10) (hs : sumN (slT rt k u) 5 ≤ 10) : CI l G (kT cI cJ cZ cS) (S := Unit) yX10_left wsX10_left { frames := 0, cells := 0, slots := 0, locals := 0 } [.ref (g 0), .int (nI k), .int (nI u)] [(g 0, .inr (10, [.int (nI 0), .ref (g 1), .int (nI ts), .int (nI pl), .int (nI rk), .ref (g 5), .int (nI sl), .ref (g 7), .int (nI rr), .int (nI rs), .ref (g 10), .ref (g 11), .ref (g 12), .long sd, .ref (g 14), .ref (g 15), .int (nI ac), .ref (g 17), .ref (g 18), .ref (g 19), .int (nI tc), .ref (g 21), .ref (g 22), .ref (g 23), .ref (g 24), .long td9, .ref (g 26), .ref (g 27), .ref (g 28), .ref (g 29), .ref (g 30)])), (g 11, .inl (cI, 175, .inl (fun i9 => nI (rt i9))))] (fun res _ => res = nI (lefN rt k u)) (fun _ => [(g 0, .inr (10, [.int (nI 0), .ref (g 1), .int (nI ts), .int (nI pl), .int (nI rk), .ref (g 5), .int (nI sl), .ref (g 7), .int (nI rr), .int (nI rs), .ref (g 10), .ref (g 11), .ref (g 12), .long sd, .ref (g 14), .ref (g 15), .int (nI ac), .ref (g 17), .ref (g 18), .ref (g 19), .int (nI tc), .ref (g 21), .ref (g 22), .ref (g 23), .ref (g 24), .long td9, .ref (g 26), .ref (g 27), .ref (g 28), .ref (g 29), .ref (g 30)])), (g 11, .inl (cI, 175, .inl (fun i9 => nI (rt i9))))]) := by
  refine CI.of (cc := cX10_left) (maxL := 6) (by decide) rfl (Nat.le_of_ble_eq_true rfl) ?_
  intro p9 e9 s m below meth co9 A ls hB
  obtain ⟨hx, hb, hml, hr, hts, hown, hlocks, hmn, hK, hP, hD, hS, hA, hl⟩ := hB
  have hP : va_P G vwCl [(g 0, .inr (10, [.int (nI 0), .ref (g 1), .int (nI ts), .int (nI pl), .int (nI rk), .ref (g 5), .int (nI sl), .ref (g 7), .int (nI rr), .int (nI rs), .ref (g 10), .ref (g 11), .ref (g 12), .long sd, .ref (g 14), .ref (g 15), .int (nI ac), .ref (g 17), .ref (g 18), .ref (g 19), .int (nI tc), .ref (g 21), .ref (g 22), .ref (g 23), .ref (g 24), .long td9, .ref (g 26), .ref (g 27), .ref (g 28), .ref (g 29), .ref (g 30)])), (g 11, .inl (cI, 175, .inl (fun i9 => nI (rt i9))))] s.heap := hP
  have hD : va_D A [(g 0, .inr (10, [.int (nI 0), .ref (g 1), .int (nI ts), .int (nI pl), .int (nI rk), .ref (g 5), .int (nI sl), .ref (g 7), .int (nI rr), .int (nI rs), .ref (g 10), .ref (g 11), .ref (g 12), .long sd, .ref (g 14), .ref (g 15), .int (nI ac), .ref (g 17), .ref (g 18), .ref (g 19), .int (nI tc), .ref (g 21), .ref (g 22), .ref (g 23), .ref (g 24), .long td9, .ref (g 26), .ref (g 27), .ref (g 28), .ref (g 29), .ref (g 30)])), (g 11, .inl (cI, 175, .inl (fun i9 => nI (rt i9))))] := hD
  have hl : lv_has ls 6 [(0, .ref (g 0)), (1, .int (nI k)), (2, .int (nI u))] := hl
  have k_0 := hts (.fieldLink RX10 22 "HearsayMarchModel" "readTenths" "[I") (by decide +kernel)
  have hin10 : ∀ w ∈ wsX100, w ∈ wsX10_left := by decide +kernel
  refine lv_iconst (v := nI 0) hx hb dX10_left_0 (by decide) ?_
  refine lv_istore_n (lv' := [(3, .int (nI 0)), (0, .ref (g 0)), (1, .int (nI k)), (2, .int (nI u))]) hx hb dX10_left_1 rfl hl (by decide) rfl (fun ls hl => ?_)
  refine lv_iconst (v := nI 0) hx hb dX10_left_2 (by decide) ?_
  refine lv_istore (lv' := [(4, .int (nI 0)), (3, .int (nI 0)), (0, .ref (g 0)), (1, .int (nI k)), (2, .int (nI u))]) hx hb dX10_left_3 hl (by decide) rfl (fun ls hl => ?_)
  refine lv_iconst (v := nI 0) hx hb dX10_left_5 (by decide) ?_
  refine lv_istore (lv' := [(5, .int (nI 0)), (4, .int (nI 0)), (3, .int (nI 0)), (0, .ref (g 0)), (1, .int (nI k)), (2, .int (nI u))]) hx hb dX10_left_6 hl (by decide) rfl (fun ls hl => ?_)
  refine loopW (σ := Nat) 8 (fun (i : Nat) H locs ls => (i ≤ 5) ∧ va_P G vwCl [(g 0, .inr (10, [.int (nI 0), .ref (g 1), .int (nI ts), .int (nI pl), .int (nI rk), .ref (g 5), .int (nI sl), .ref (g 7), .int (nI rr), .int (nI rs), .ref (g 10), .ref (g 11), .ref (g 12), .long sd, .ref (g 14), .ref (g 15), .int (nI ac), .ref (g 17), .ref (g 18), .ref (g 19), .int (nI tc), .ref (g 21), .ref (g 22), .ref (g 23), .ref (g 24), .long td9, .ref (g 26), .ref (g 27), .ref (g 28), .ref (g 29), .ref (g 30)])), (g 11, .inl (cI, 175, .inl (fun i9 => nI (rt i9))))] H ∧ va_D A [(g 0, .inr (10, [.int (nI 0), .ref (g 1), .int (nI ts), .int (nI pl), .int (nI rk), .ref (g 5), .int (nI sl), .ref (g 7), .int (nI rr), .int (nI rs), .ref (g 10), .ref (g 11), .ref (g 12), .long sd, .ref (g 14), .ref (g 15), .int (nI ac), .ref (g 17), .ref (g 18), .ref (g 19), .int (nI tc), .ref (g 21), .ref (g 22), .ref (g 23), .ref (g 24), .long td9, .ref (g 26), .ref (g 27), .ref (g 28), .ref (g 29), .ref (g 30)])), (g 11, .inl (cI, 175, .inl (fun i9 => nI (rt i9))))] ∧ va_S A s.heap H locs ∧ lv_has ls 6 [(5, .int (nI i)), (4, .int (nI (sumN (nzT rt k u) i))), (3, .int (nI (sumN (slT rt k u) i))), (0, .ref (g 0)), (1, .int (nI k)), (2, .int (nI u))]) (fun (i : Nat) => []) (fun (i : Nat) => 5 - i) ?_ 0 ⟨by first | assumption | omega | (simp; done), hP.sub [0, 1] rfl, hD.sub [0, 1] (by decide) rfl, hS, lv_sub hl [0, 1, 2, 3, 4, 5] rfl⟩
  intro xx9 H locs ls hI ih_8
  obtain ⟨i, rfl⟩ : ∃ z, z = xx9 := ⟨_, rfl⟩
  obtain ⟨hi, hP, hD, hS, hl⟩ := hI
  have hi : i ≤ 5 := hi
  have hP : va_P G vwCl [(g 0, .inr (10, [.int (nI 0), .ref (g 1), .int (nI ts), .int (nI pl), .int (nI rk), .ref (g 5), .int (nI sl), .ref (g 7), .int (nI rr), .int (nI rs), .ref (g 10), .ref (g 11), .ref (g 12), .long sd, .ref (g 14), .ref (g 15), .int (nI ac), .ref (g 17), .ref (g 18), .ref (g 19), .int (nI tc), .ref (g 21), .ref (g 22), .ref (g 23), .ref (g 24), .long td9, .ref (g 26), .ref (g 27), .ref (g 28), .ref (g 29), .ref (g 30)])), (g 11, .inl (cI, 175, .inl (fun i9 => nI (rt i9))))] _ := hP
  have hD : va_D A [(g 0, .inr (10, [.int (nI 0), .ref (g 1), .int (nI ts), .int (nI pl), .int (nI rk), .ref (g 5), .int (nI sl), .ref (g 7), .int (nI rr), .int (nI rs), .ref (g 10), .ref (g 11), .ref (g 12), .long sd, .ref (g 14), .ref (g 15), .int (nI ac), .ref (g 17), .ref (g 18), .ref (g 19), .int (nI tc), .ref (g 21), .ref (g 22), .ref (g 23), .ref (g 24), .long td9, .ref (g 26), .ref (g 27), .ref (g 28), .ref (g 29), .ref (g 30)])), (g 11, .inl (cI, 175, .inl (fun i9 => nI (rt i9))))] := hD
  have hl : lv_has ls 6 [(5, .int (nI i)), (4, .int (nI (sumN (nzT rt k u) i))), (3, .int (nI (sumN (slT rt k u) i))), (0, .ref (g 0)), (1, .int (nI k)), (2, .int (nI u))] := hl
  refine lv_iload hx hb dX10_left_8 (lv_at hl 0 rfl) ?_
  refine lv_iconst (v := nI 5) hx hb dX10_left_10 (by decide) ?_
  refine lv_icmp_ge (tgt := 68) hx hb dX10_left_11 (by decide) (fun c_11 => ?_) (fun c_11 => ?_)
  · skip
    have c_11 := n_geT c_11 (by omega) (by omega)
    have hi5 : i = 5 := by omega
    subst hi5
    have hz5 := nz_le5 (tn := rt) (k := k) (u := u)
    refine lv_iload hx hb dX10_left_68 (lv_at hl 1 rfl) ?_
    refine lv_iconst (v := nI 4) hx hb dX10_left_70 (by decide) ?_
    refine lv_icmp_ne (tgt := 78) hx hb dX10_left_71 (by decide) (fun c_71 => ?_) (fun c_71 => ?_)
    · skip
      have c_71 := n_neT c_71 (by omega) (by omega)
      refine lv_bipush (v := nI 10) hx hb dX10_left_78 (by decide) ?_
      refine lv_iload_n hx hb dX10_left_80 rfl (lv_at hl 2 rfl) ?_
      refine lv_isub hx hb dX10_left_81 ?_
      refine top_i (y := nI (10 - (sumN (slT rt k u) 5))) (pk_sub (by omega)) ?_
      exact endI hx hb hr hlocks (()) (by rw [lefN, if_neg c_71]) (hP.sub [0, 1] rfl) (hD.sub [0, 1] (by decide) rfl) hS dX10_left_82
    · skip
      have c_71 := n_neF c_71 (by omega) (by omega)
      refine lv_iconst (v := nI 0) hx hb dX10_left_74 (by decide) ?_
      refine lv_goto (tgt := 82) hx hb dX10_left_75 (by decide) ?_
      exact endI hx hb hr hlocks (()) (by rw [lefN, if_pos c_71]) (hP.sub [0, 1] rfl) (hD.sub [0, 1] (by decide) rfl) hS dX10_left_82
  · skip
    have c_11 := n_geF c_11 (by omega) (by omega)
    have hx9 : slT rt k u i < 10 := hrt _ (by omega)
    refine lv_iload_n hx hb dX10_left_14 rfl (lv_at hl 2 rfl) ?_
    refine lv_aload_n hx hb dX10_left_15 rfl (lv_at hl 3 rfl) ?_
    refine va_get (D := G) (ci := 10) (v := .ref (g 11)) (C := RX10) (T := TX10) (N := 31) hx hb hts hin10 hown hK.1 hP 0 rfl rfl 11 (by decide) k_0 (fun _ h9 => h9) rfl dX10_left_16 ?_
    refine lv_bipush (v := nI 25) hx hb dX10_left_19 (by decide) ?_
    refine lv_iload_n hx hb dX10_left_21 rfl (lv_at hl 4 rfl) ?_
    refine lv_imul hx hb dX10_left_22 ?_
    refine top_i (y := nI (25 * k)) (pk_mul _ _) ?_
    refine lv_iconst (v := nI 5) hx hb dX10_left_23 (by decide) ?_
    refine lv_iload_n hx hb dX10_left_24 rfl (lv_at hl 5 rfl) ?_
    refine lv_imul hx hb dX10_left_25 ?_
    refine top_i (y := nI (5 * u)) (pk_mul _ _) ?_
    refine lv_iadd hx hb dX10_left_26 ?_
    refine top_i (y := nI (25 * k + (5 * u))) (nI_add _ _) ?_
    refine lv_iload hx hb dX10_left_27 (lv_at hl 0 rfl) ?_
    refine lv_iadd hx hb dX10_left_29 ?_
    refine top_i (y := nI (25 * k + (5 * u) + i)) (nI_add _ _) ?_
    refine ald hx hb hK hP 1 0 rfl rfl (j := 25 * k + (5 * u) + i) (by omega) (by omega) dX10_left_30 ?_
    refine top_i (y := nI (slT rt k u i)) (by rw [slT, show (k * 5 + u) * 5 + i = 25 * k + 5 * u + i by omega]) ?_
    refine lv_iadd hx hb dX10_left_31 ?_
    refine top_i (y := nI (sumN (slT rt k u) i + (slT rt k u i))) (nI_add _ _) ?_
    refine top_i (y := nI (sumN (slT rt k u) (i + 1))) (rfl) ?_
    refine lv_istore_n (lv' := [(3, .int (nI (sumN (slT rt k u) (i + 1)))), (5, .int (nI i)), (4, .int (nI (sumN (nzT rt k u) i))), (0, .ref (g 0)), (1, .int (nI k)), (2, .int (nI u))]) hx hb dX10_left_32 rfl hl (by decide) rfl (fun ls hl => ?_)
    refine lv_iload hx hb dX10_left_33 (lv_at hl 2 rfl) ?_
    refine lv_aload_n hx hb dX10_left_35 rfl (lv_at hl 3 rfl) ?_
    refine va_get (D := G) (ci := 10) (v := .ref (g 11)) (C := RX10) (T := TX10) (N := 31) hx hb hts hin10 hown hK.1 hP 0 rfl rfl 11 (by decide) k_0 (fun _ h9 => h9) rfl dX10_left_36 ?_
    refine lv_bipush (v := nI 25) hx hb dX10_left_39 (by decide) ?_
    refine lv_iload_n hx hb dX10_left_41 rfl (lv_at hl 4 rfl) ?_
    refine lv_imul hx hb dX10_left_42 ?_
    refine top_i (y := nI (25 * k)) (pk_mul _ _) ?_
    refine lv_iconst (v := nI 5) hx hb dX10_left_43 (by decide) ?_
    refine lv_iload_n hx hb dX10_left_44 rfl (lv_at hl 5 rfl) ?_
    refine lv_imul hx hb dX10_left_45 ?_
    refine top_i (y := nI (5 * u)) (pk_mul _ _) ?_
    refine lv_iadd hx hb dX10_left_46 ?_
    refine top_i (y := nI (25 * k + (5 * u))) (nI_add _ _) ?_
    refine lv_iload hx hb dX10_left_47 (lv_at hl 1 rfl) ?_
    refine lv_iadd hx hb dX10_left_49 ?_
    refine top_i (y := nI (25 * k + (5 * u) + i)) (nI_add _ _) ?_
    refine ald hx hb hK hP 1 0 rfl rfl (j := 25 * k + (5 * u) + i) (by omega) (by omega) dX10_left_50 ?_
    refine top_i (y := nI (slT rt k u i)) (by rw [slT, show (k * 5 + u) * 5 + i = 25 * k + 5 * u + i by omega]) ?_
    refine lv_if_le (tgt := 58) hx hb dX10_left_51 (by decide) (fun c_51 => ?_) (fun c_51 => ?_)
    · skip
      have c_51 := z_leT c_51 (by omega)
      refine lv_iconst (v := nI 0) hx hb dX10_left_58 (by decide) ?_
      refine lv_iadd hx hb dX10_left_59 ?_
      refine top_i (y := nI (sumN (nzT rt k u) i)) (nI_add _ _) ?_
      refine top_i (y := nI (sumN (nzT rt k u) (i + 1))) (nz_n c_51) ?_
      refine lv_istore (lv' := [(4, .int (nI (sumN (nzT rt k u) (i + 1)))), (3, .int (nI (sumN (slT rt k u) (i + 1)))), (5, .int (nI i)), (0, .ref (g 0)), (1, .int (nI k)), (2, .int (nI u))]) hx hb dX10_left_60 hl (by decide) rfl (fun ls hl => ?_)
      refine lv_iinc (v := nI (i + 1)) (lv' := [(5, .int (nI (i + 1))), (4, .int (nI (sumN (nzT rt k u) (i + 1)))), (3, .int (nI (sumN (slT rt k u) (i + 1)))), (0, .ref (g 0)), (1, .int (nI k)), (2, .int (nI u))]) hx hb dX10_left_62 hl (k := 2) rfl (nI_inc _ 1 1 (by decide)) (by decide) rfl (fun ls hl => ?_)
      refine lv_goto (tgt := 8) hx hb dX10_left_65 (by decide) ?_
      exact ih_8 (i + 1) _ _ _ (by first | omega | (simp only []; omega) | (show _ < _; omega)) ⟨by first | assumption | omega | (simp; done), hP.sub [0, 1] rfl, hD.sub [0, 1] (by decide) rfl, hS, lv_sub hl [0, 1, 2, 3, 4, 5] rfl⟩
    · skip
      have c_51 := z_leF c_51 (by omega)
      refine lv_iconst (v := nI 1) hx hb dX10_left_54 (by decide) ?_
      refine lv_goto (tgt := 59) hx hb dX10_left_55 (by decide) ?_
      refine lv_iadd hx hb dX10_left_59 ?_
      refine top_i (y := nI (sumN (nzT rt k u) i + 1)) (nI_add _ _) ?_
      refine top_i (y := nI (sumN (nzT rt k u) (i + 1))) (nz_y c_51) ?_
      refine lv_istore (lv' := [(4, .int (nI (sumN (nzT rt k u) (i + 1)))), (3, .int (nI (sumN (slT rt k u) (i + 1)))), (5, .int (nI i)), (0, .ref (g 0)), (1, .int (nI k)), (2, .int (nI u))]) hx hb dX10_left_60 hl (by decide) rfl (fun ls hl => ?_)
      refine lv_iinc (v := nI (i + 1)) (lv' := [(5, .int (nI (i + 1))), (4, .int (nI (sumN (nzT rt k u) (i + 1)))), (3, .int (nI (sumN (slT rt k u) (i + 1)))), (0, .ref (g 0)), (1, .int (nI k)), (2, .int (nI u))]) hx hb dX10_left_62 hl (k := 2) rfl (nI_inc _ 1 1 (by decide)) (by decide) rfl (fun ls hl => ?_)
      refine lv_goto (tgt := 8) hx hb dX10_left_65 (by decide) ?_
      exact ih_8 (i + 1) _ _ _ (by first | omega | (simp only []; omega) | (show _ < _; omega)) ⟨by first | assumption | omega | (simp; done), hP.sub [0, 1] rfl, hD.sub [0, 1] (by decide) rfl, hS, lv_sub hl [0, 1, 2, 3, 4, 5] rfl⟩

set_option maxHeartbeats 4000000 in
set_option maxRecDepth 100000 in
theorem c_X10_hasLeft {l : Launch} {G : va_G} {cI cJ cZ cS : ClassId} (g : Nat → Nat) (ts : Nat) (pl : Nat) (rk : Nat) (sl : Nat) (rr : Nat) (rs : Nat) (ac : Nat) (tc : Nat) (sd : Int64) (td9 : Int64) (rt : Nat → Nat) (k : Nat) (hk : k < 7) (hrt : ∀ i, i < 175 → rt i < 10) (hs : ∀ k u, k < 7 → u < 5 → sumN (slT rt k u) 5 ≤ 10) : CI l G (kT cI cJ cZ cS) (S := Unit) yX10_hasLeft wsX10_hasLeft { frames := 1, cells := 0, slots := 0, locals := 25 } [.ref (g 0), .int (nI k)] [(g 0, .inr (10, [.int (nI 0), .ref (g 1), .int (nI ts), .int (nI pl), .int (nI rk), .ref (g 5), .int (nI sl), .ref (g 7), .int (nI rr), .int (nI rs), .ref (g 10), .ref (g 11), .ref (g 12), .long sd, .ref (g 14), .ref (g 15), .int (nI ac), .ref (g 17), .ref (g 18), .ref (g 19), .int (nI tc), .ref (g 21), .ref (g 22), .ref (g 23), .ref (g 24), .long td9, .ref (g 26), .ref (g 27), .ref (g 28), .ref (g 29), .ref (g 30)])), (g 11, .inl (cI, 175, .inl (fun i9 => nI (rt i9))))] (fun res _ => res = bI (∃ u, u < 5 ∧ 0 < lefN rt k u)) (fun _ => [(g 0, .inr (10, [.int (nI 0), .ref (g 1), .int (nI ts), .int (nI pl), .int (nI rk), .ref (g 5), .int (nI sl), .ref (g 7), .int (nI rr), .int (nI rs), .ref (g 10), .ref (g 11), .ref (g 12), .long sd, .ref (g 14), .ref (g 15), .int (nI ac), .ref (g 17), .ref (g 18), .ref (g 19), .int (nI tc), .ref (g 21), .ref (g 22), .ref (g 23), .ref (g 24), .long td9, .ref (g 26), .ref (g 27), .ref (g 28), .ref (g 29), .ref (g 30)])), (g 11, .inl (cI, 175, .inl (fun i9 => nI (rt i9))))]) := by
  refine CI.of (cc := cX10_hasLeft) (maxL := 4) (by decide) rfl (Nat.le_of_ble_eq_true rfl) ?_
  intro p9 e9 s m below meth co9 A ls hB
  obtain ⟨hx, hb, hml, hr, hts, hown, hlocks, hmn, hK, hP, hD, hS, hA, hl⟩ := hB
  have hP : va_P G vwCl [(g 0, .inr (10, [.int (nI 0), .ref (g 1), .int (nI ts), .int (nI pl), .int (nI rk), .ref (g 5), .int (nI sl), .ref (g 7), .int (nI rr), .int (nI rs), .ref (g 10), .ref (g 11), .ref (g 12), .long sd, .ref (g 14), .ref (g 15), .int (nI ac), .ref (g 17), .ref (g 18), .ref (g 19), .int (nI tc), .ref (g 21), .ref (g 22), .ref (g 23), .ref (g 24), .long td9, .ref (g 26), .ref (g 27), .ref (g 28), .ref (g 29), .ref (g 30)])), (g 11, .inl (cI, 175, .inl (fun i9 => nI (rt i9))))] s.heap := hP
  have hD : va_D A [(g 0, .inr (10, [.int (nI 0), .ref (g 1), .int (nI ts), .int (nI pl), .int (nI rk), .ref (g 5), .int (nI sl), .ref (g 7), .int (nI rr), .int (nI rs), .ref (g 10), .ref (g 11), .ref (g 12), .long sd, .ref (g 14), .ref (g 15), .int (nI ac), .ref (g 17), .ref (g 18), .ref (g 19), .int (nI tc), .ref (g 21), .ref (g 22), .ref (g 23), .ref (g 24), .long td9, .ref (g 26), .ref (g 27), .ref (g 28), .ref (g 29), .ref (g 30)])), (g 11, .inl (cI, 175, .inl (fun i9 => nI (rt i9))))] := hD
  have hl : lv_has ls 4 [(0, .ref (g 0)), (1, .int (nI k))] := hl
  refine lv_iconst (v := nI 0) hx hb dX10_hasLeft_0 (by decide) ?_
  refine top_i (y := bI (∃ u, u < 0 ∧ 0 < lefN rt k u)) (bI_n (fun z => by obtain ⟨u, z, -⟩ := z; omega)) ?_
  refine lv_istore_n (lv' := [(2, .int (bI (∃ u, u < 0 ∧ 0 < lefN rt k u))), (0, .ref (g 0)), (1, .int (nI k))]) hx hb dX10_hasLeft_1 rfl hl (by decide) rfl (fun ls hl => ?_)
  refine lv_iconst (v := nI 0) hx hb dX10_hasLeft_2 (by decide) ?_
  refine lv_istore_n (lv' := [(3, .int (nI 0)), (2, .int (bI (∃ u, u < 0 ∧ 0 < lefN rt k u))), (0, .ref (g 0)), (1, .int (nI k))]) hx hb dX10_hasLeft_3 rfl hl (by decide) rfl (fun ls hl => ?_)
  refine loopW (σ := Nat) 4 (fun (i : Nat) H locs ls => (i ≤ 5) ∧ va_P G vwCl [(g 0, .inr (10, [.int (nI 0), .ref (g 1), .int (nI ts), .int (nI pl), .int (nI rk), .ref (g 5), .int (nI sl), .ref (g 7), .int (nI rr), .int (nI rs), .ref (g 10), .ref (g 11), .ref (g 12), .long sd, .ref (g 14), .ref (g 15), .int (nI ac), .ref (g 17), .ref (g 18), .ref (g 19), .int (nI tc), .ref (g 21), .ref (g 22), .ref (g 23), .ref (g 24), .long td9, .ref (g 26), .ref (g 27), .ref (g 28), .ref (g 29), .ref (g 30)])), (g 11, .inl (cI, 175, .inl (fun i9 => nI (rt i9))))] H ∧ va_D A [(g 0, .inr (10, [.int (nI 0), .ref (g 1), .int (nI ts), .int (nI pl), .int (nI rk), .ref (g 5), .int (nI sl), .ref (g 7), .int (nI rr), .int (nI rs), .ref (g 10), .ref (g 11), .ref (g 12), .long sd, .ref (g 14), .ref (g 15), .int (nI ac), .ref (g 17), .ref (g 18), .ref (g 19), .int (nI tc), .ref (g 21), .ref (g 22), .ref (g 23), .ref (g 24), .long td9, .ref (g 26), .ref (g 27), .ref (g 28), .ref (g 29), .ref (g 30)])), (g 11, .inl (cI, 175, .inl (fun i9 => nI (rt i9))))] ∧ va_S A s.heap H locs ∧ lv_has ls 4 [(3, .int (nI i)), (2, .int (bI (∃ u, u < i ∧ 0 < lefN rt k u))), (0, .ref (g 0)), (1, .int (nI k))]) (fun (i : Nat) => []) (fun (i : Nat) => 5 - i) ?_ 0 ⟨by first | assumption | omega | (simp; done), hP.sub [0, 1] rfl, hD.sub [0, 1] (by decide) rfl, hS, lv_sub hl [0, 1, 2, 3] rfl⟩
  intro xx9 H locs ls hI ih_4
  obtain ⟨i, rfl⟩ : ∃ z, z = xx9 := ⟨_, rfl⟩
  obtain ⟨hi, hP, hD, hS, hl⟩ := hI
  have hi : i ≤ 5 := hi
  have hP : va_P G vwCl [(g 0, .inr (10, [.int (nI 0), .ref (g 1), .int (nI ts), .int (nI pl), .int (nI rk), .ref (g 5), .int (nI sl), .ref (g 7), .int (nI rr), .int (nI rs), .ref (g 10), .ref (g 11), .ref (g 12), .long sd, .ref (g 14), .ref (g 15), .int (nI ac), .ref (g 17), .ref (g 18), .ref (g 19), .int (nI tc), .ref (g 21), .ref (g 22), .ref (g 23), .ref (g 24), .long td9, .ref (g 26), .ref (g 27), .ref (g 28), .ref (g 29), .ref (g 30)])), (g 11, .inl (cI, 175, .inl (fun i9 => nI (rt i9))))] _ := hP
  have hD : va_D A [(g 0, .inr (10, [.int (nI 0), .ref (g 1), .int (nI ts), .int (nI pl), .int (nI rk), .ref (g 5), .int (nI sl), .ref (g 7), .int (nI rr), .int (nI rs), .ref (g 10), .ref (g 11), .ref (g 12), .long sd, .ref (g 14), .ref (g 15), .int (nI ac), .ref (g 17), .ref (g 18), .ref (g 19), .int (nI tc), .ref (g 21), .ref (g 22), .ref (g 23), .ref (g 24), .long td9, .ref (g 26), .ref (g 27), .ref (g 28), .ref (g 29), .ref (g 30)])), (g 11, .inl (cI, 175, .inl (fun i9 => nI (rt i9))))] := hD
  have hl : lv_has ls 4 [(3, .int (nI i)), (2, .int (bI (∃ u, u < i ∧ 0 < lefN rt k u))), (0, .ref (g 0)), (1, .int (nI k))] := hl
  refine lv_iload_n hx hb dX10_hasLeft_4 rfl (lv_at hl 0 rfl) ?_
  refine lv_iconst (v := nI 5) hx hb dX10_hasLeft_5 (by decide) ?_
  refine lv_icmp_ge (tgt := 34) hx hb dX10_hasLeft_6 (by decide) (fun c_6 => ?_) (fun c_6 => ?_)
  · skip
    have c_6 := n_geT c_6 (by omega) (by omega)
    have hi5 : i = 5 := by omega
    subst hi5
    refine lv_iload_n hx hb dX10_hasLeft_34 rfl (lv_at hl 1 rfl) ?_
    exact endZ hx hb hr hlocks (bI_nar) (()) (rfl) (hP.sub [0, 1] rfl) (hD.sub [0, 1] (by decide) rfl) hS dX10_hasLeft_35
  · skip
    have c_6 := n_geF c_6 (by omega) (by omega)
    refine lv_iload_n hx hb dX10_hasLeft_9 rfl (lv_at hl 1 rfl) ?_
    refine lv_if_ne (tgt := 22) hx hb dX10_hasLeft_10 (by decide) (fun c_10 => ?_) (fun c_10 => ?_)
    · skip
      have c_10 := bI_t c_10
      have hex : ∃ u, u < (i + 1) ∧ 0 < lefN rt k u := by obtain ⟨u, h1, h2⟩ := c_10; exact ⟨u, by omega, h2⟩
      refine lv_iconst (v := nI 1) hx hb dX10_hasLeft_22 (by decide) ?_
      refine lv_goto (tgt := 27) hx hb dX10_hasLeft_23 (by decide) ?_
      refine top_i (y := bI (∃ u, u < (i + 1) ∧ 0 < lefN rt k u)) (bI_y (hex)) ?_
      refine lv_istore_n (lv' := [(2, .int (bI (∃ u, u < (i + 1) ∧ 0 < lefN rt k u))), (3, .int (nI i)), (0, .ref (g 0)), (1, .int (nI k))]) hx hb dX10_hasLeft_27 rfl hl (by decide) rfl (fun ls hl => ?_)
      refine lv_iinc (v := nI (i + 1)) (lv' := [(3, .int (nI (i + 1))), (2, .int (bI (∃ u, u < (i + 1) ∧ 0 < lefN rt k u))), (0, .ref (g 0)), (1, .int (nI k))]) hx hb dX10_hasLeft_28 hl (k := 1) rfl (nI_inc _ 1 1 (by decide)) (by decide) rfl (fun ls hl => ?_)
      refine lv_goto (tgt := 4) hx hb dX10_hasLeft_31 (by decide) ?_
      exact ih_4 (i + 1) _ _ _ (by first | omega | (simp only []; omega) | (show _ < _; omega)) ⟨by first | assumption | omega | (simp; done), hP.sub [0, 1] rfl, hD.sub [0, 1] (by decide) rfl, hS, lv_sub hl [0, 1, 2, 3] rfl⟩
    · skip
      have c_10 := bI_f c_10
      refine lv_aload_n hx hb dX10_hasLeft_13 rfl (lv_at hl 2 rfl) ?_
      refine lv_iload_n hx hb dX10_hasLeft_14 rfl (lv_at hl 3 rfl) ?_
      refine lv_iload_n hx hb dX10_hasLeft_15 rfl (lv_at hl 0 rfl) ?_
      refine aft_i (wr := []) (va_runV (As := [.int (nI k), .int (nI i)]) (rest := []) ⟨hx, hb, hml, hown, hts⟩ (c_X10_left (g := g) (ts := ts) (pl := pl) (rk := rk) (sl := sl) (rr := rr) (rs := rs) (ac := ac) (tc := tc) (sd := sd) (td9 := td9) (rt := rt) (k := k) (u := i) (hk := by first | assumption | omega | exact hok.1 _ (by omega) | exact hok.2.2 _ _ (by omega) (by omega) | exact hok.2.1) (hu := by first | assumption | omega | exact hok.1 _ (by omega) | exact hok.2.2 _ _ (by omega) (by omega) | exact hok.2.1) (hrt := by first | assumption | omega | exact hok.1 _ (by omega) | exact hok.2.2 _ _ (by omega) (by omega) | exact hok.2.1) (hs := hs k i hk (by omega)) _) (cwV 2 hts gX10_hasLeft_X10_left rfl rfl rfl (by decide +kernel) ⟨Nat.le_of_ble_eq_true rfl, Nat.le_of_ble_eq_true rfl⟩) (preV (cq := (RX10, TX10, 31)) (q0 := 0) (ci := 10) hK hP hD [0, 1] rfl rfl rfl rfl) rfl rfl hl.1 rfl (lv_room (Nat.le_of_ble_eq_true rfl)) dX10_hasLeft_16 ⟨Nat.le_of_ble_eq_true rfl, Nat.le_of_ble_eq_true rfl⟩) hP hD hS hA [0, 1] [] rfl rfl rfl (by decide) (fun r_16 uu9 H locs hw hP hD hS => ?_)
      have hP : va_P G vwCl [(g 0, .inr (10, [.int (nI 0), .ref (g 1), .int (nI ts), .int (nI pl), .int (nI rk), .ref (g 5), .int (nI sl), .ref (g 7), .int (nI rr), .int (nI rs), .ref (g 10), .ref (g 11), .ref (g 12), .long sd, .ref (g 14), .ref (g 15), .int (nI ac), .ref (g 17), .ref (g 18), .ref (g 19), .int (nI tc), .ref (g 21), .ref (g 22), .ref (g 23), .ref (g 24), .long td9, .ref (g 26), .ref (g 27), .ref (g 28), .ref (g 29), .ref (g 30)])), (g 11, .inl (cI, 175, .inl (fun i9 => nI (rt i9))))] _ := hP
      have hD : va_D A [(g 0, .inr (10, [.int (nI 0), .ref (g 1), .int (nI ts), .int (nI pl), .int (nI rk), .ref (g 5), .int (nI sl), .ref (g 7), .int (nI rr), .int (nI rs), .ref (g 10), .ref (g 11), .ref (g 12), .long sd, .ref (g 14), .ref (g 15), .int (nI ac), .ref (g 17), .ref (g 18), .ref (g 19), .int (nI tc), .ref (g 21), .ref (g 22), .ref (g 23), .ref (g 24), .long td9, .ref (g 26), .ref (g 27), .ref (g 28), .ref (g 29), .ref (g 30)])), (g 11, .inl (cI, 175, .inl (fun i9 => nI (rt i9))))] := hD
      obtain rfl := hw
      refine top_i (y := nI (lefN rt k i)) rfl ?_
      have hl9 := lef_le (tn := rt) (k := k) (u := i)
      refine lv_if_le (tgt := 26) hx hb dX10_hasLeft_19 (by decide) (fun c_19 => ?_) (fun c_19 => ?_)
      · skip
        have c_19 := z_leT c_19 (by omega)
        have hno : ¬ (∃ u, u < (i + 1) ∧ 0 < lefN rt k u) := by rintro ⟨u, h1, h2⟩; by_cases e : u = i; (rw [e] at h2; omega); exact c_10 ⟨u, by omega, h2⟩
        refine lv_iconst (v := nI 0) hx hb dX10_hasLeft_26 (by decide) ?_
        refine top_i (y := bI (∃ u, u < (i + 1) ∧ 0 < lefN rt k u)) (bI_n (hno)) ?_
        refine lv_istore_n (lv' := [(2, .int (bI (∃ u, u < (i + 1) ∧ 0 < lefN rt k u))), (3, .int (nI i)), (0, .ref (g 0)), (1, .int (nI k))]) hx hb dX10_hasLeft_27 rfl hl (by decide) rfl (fun ls hl => ?_)
        refine lv_iinc (v := nI (i + 1)) (lv' := [(3, .int (nI (i + 1))), (2, .int (bI (∃ u, u < (i + 1) ∧ 0 < lefN rt k u))), (0, .ref (g 0)), (1, .int (nI k))]) hx hb dX10_hasLeft_28 hl (k := 1) rfl (nI_inc _ 1 1 (by decide)) (by decide) rfl (fun ls hl => ?_)
        refine lv_goto (tgt := 4) hx hb dX10_hasLeft_31 (by decide) ?_
        exact ih_4 (i + 1) _ _ _ (by first | omega | (simp only []; omega) | (show _ < _; omega)) ⟨by first | assumption | omega | (simp; done), hP.sub [0, 1] rfl, hD.sub [0, 1] (by decide) rfl, hS, lv_sub hl [0, 1, 2, 3] rfl⟩
      · skip
        have c_19 := z_leF c_19 (by omega)
        have hex : ∃ u, u < (i + 1) ∧ 0 < lefN rt k u := ⟨i, by omega, c_19⟩
        refine lv_iconst (v := nI 1) hx hb dX10_hasLeft_22 (by decide) ?_
        refine lv_goto (tgt := 27) hx hb dX10_hasLeft_23 (by decide) ?_
        refine top_i (y := bI (∃ u, u < (i + 1) ∧ 0 < lefN rt k u)) (bI_y (hex)) ?_
        refine lv_istore_n (lv' := [(2, .int (bI (∃ u, u < (i + 1) ∧ 0 < lefN rt k u))), (3, .int (nI i)), (0, .ref (g 0)), (1, .int (nI k))]) hx hb dX10_hasLeft_27 rfl hl (by decide) rfl (fun ls hl => ?_)
        refine lv_iinc (v := nI (i + 1)) (lv' := [(3, .int (nI (i + 1))), (2, .int (bI (∃ u, u < (i + 1) ∧ 0 < lefN rt k u))), (0, .ref (g 0)), (1, .int (nI k))]) hx hb dX10_hasLeft_28 hl (k := 1) rfl (nI_inc _ 1 1 (by decide)) (by decide) rfl (fun ls hl => ?_)
        refine lv_goto (tgt := 4) hx hb dX10_hasLeft_31 (by decide) ?_
        exact ih_4 (i + 1) _ _ _ (by first | omega | (simp only []; omega) | (show _ < _; omega)) ⟨by first | assumption | omega | (simp; done), hP.sub [0, 1] rfl, hD.sub [0, 1] (by decide) rfl, hS, lv_sub hl [0, 1, 2, 3] rfl⟩

set_option maxHeartbeats 4000000 in
set_option maxRecDepth 100000 in
theorem c_X10_hasWay {l : Launch} {G : va_G} {cI cJ cZ cS : ClassId} (g : Nat → Nat) (ts : Nat) (pl : Nat) (rk : Nat) (sl : Nat) (rr : Nat) (rs : Nat) (ac : Nat) (tc : Nat) (sd : Int64) (td9 : Int64) (rt : Nat → Nat) (hrr : rr ≤ 7) (hrt : ∀ i, i < 175 → rt i < 10) (hs : ∀ k u, k < 7 → u < 5 → sumN (slT rt k u) 5 ≤ 10) : CI l G (kT cI cJ cZ cS) (S := Unit) yX10_hasWay wsX10_hasWay { frames := 2, cells := 0, slots := 0, locals := 48 } [.ref (g 0)] [(g 0, .inr (10, [.int (nI 0), .ref (g 1), .int (nI ts), .int (nI pl), .int (nI rk), .ref (g 5), .int (nI sl), .ref (g 7), .int (nI rr), .int (nI rs), .ref (g 10), .ref (g 11), .ref (g 12), .long sd, .ref (g 14), .ref (g 15), .int (nI ac), .ref (g 17), .ref (g 18), .ref (g 19), .int (nI tc), .ref (g 21), .ref (g 22), .ref (g 23), .ref (g 24), .long td9, .ref (g 26), .ref (g 27), .ref (g 28), .ref (g 29), .ref (g 30)])), (g 11, .inl (cI, 175, .inl (fun i9 => nI (rt i9))))] (fun res _ => res = bI (∃ k, 0 < k ∧ k < rr ∧ ∃ u, u < 5 ∧ 0 < lefN rt k u)) (fun _ => [(g 0, .inr (10, [.int (nI 0), .ref (g 1), .int (nI ts), .int (nI pl), .int (nI rk), .ref (g 5), .int (nI sl), .ref (g 7), .int (nI rr), .int (nI rs), .ref (g 10), .ref (g 11), .ref (g 12), .long sd, .ref (g 14), .ref (g 15), .int (nI ac), .ref (g 17), .ref (g 18), .ref (g 19), .int (nI tc), .ref (g 21), .ref (g 22), .ref (g 23), .ref (g 24), .long td9, .ref (g 26), .ref (g 27), .ref (g 28), .ref (g 29), .ref (g 30)])), (g 11, .inl (cI, 175, .inl (fun i9 => nI (rt i9))))]) := by
  refine CI.of (cc := cX10_hasWay) (maxL := 3) (by decide) rfl (Nat.le_of_ble_eq_true rfl) ?_
  intro p9 e9 s m below meth co9 A ls hB
  obtain ⟨hx, hb, hml, hr, hts, hown, hlocks, hmn, hK, hP, hD, hS, hA, hl⟩ := hB
  have hP : va_P G vwCl [(g 0, .inr (10, [.int (nI 0), .ref (g 1), .int (nI ts), .int (nI pl), .int (nI rk), .ref (g 5), .int (nI sl), .ref (g 7), .int (nI rr), .int (nI rs), .ref (g 10), .ref (g 11), .ref (g 12), .long sd, .ref (g 14), .ref (g 15), .int (nI ac), .ref (g 17), .ref (g 18), .ref (g 19), .int (nI tc), .ref (g 21), .ref (g 22), .ref (g 23), .ref (g 24), .long td9, .ref (g 26), .ref (g 27), .ref (g 28), .ref (g 29), .ref (g 30)])), (g 11, .inl (cI, 175, .inl (fun i9 => nI (rt i9))))] s.heap := hP
  have hD : va_D A [(g 0, .inr (10, [.int (nI 0), .ref (g 1), .int (nI ts), .int (nI pl), .int (nI rk), .ref (g 5), .int (nI sl), .ref (g 7), .int (nI rr), .int (nI rs), .ref (g 10), .ref (g 11), .ref (g 12), .long sd, .ref (g 14), .ref (g 15), .int (nI ac), .ref (g 17), .ref (g 18), .ref (g 19), .int (nI tc), .ref (g 21), .ref (g 22), .ref (g 23), .ref (g 24), .long td9, .ref (g 26), .ref (g 27), .ref (g 28), .ref (g 29), .ref (g 30)])), (g 11, .inl (cI, 175, .inl (fun i9 => nI (rt i9))))] := hD
  have hl : lv_has ls 3 [(0, .ref (g 0))] := hl
  have k_0 := hts (.fieldLink RX10 93 "HearsayMarchModel" "readRanks" "I") (by decide +kernel)
  have hin10 : ∀ w ∈ wsX100, w ∈ wsX10_hasWay := by decide +kernel
  refine lv_iconst (v := nI 0) hx hb dX10_hasWay_0 (by decide) ?_
  refine top_i (y := bI (∃ k, 0 < k ∧ k < 1 ∧ ∃ u, u < 5 ∧ 0 < lefN rt k u)) (bI_n (fun z => by obtain ⟨u, z, z2, -⟩ := z; omega)) ?_
  refine lv_istore_n (lv' := [(1, .int (bI (∃ k, 0 < k ∧ k < 1 ∧ ∃ u, u < 5 ∧ 0 < lefN rt k u))), (0, .ref (g 0))]) hx hb dX10_hasWay_1 rfl hl (by decide) rfl (fun ls hl => ?_)
  refine lv_iconst (v := nI 1) hx hb dX10_hasWay_2 (by decide) ?_
  refine lv_istore_n (lv' := [(2, .int (nI 1)), (1, .int (bI (∃ k, 0 < k ∧ k < 1 ∧ ∃ u, u < 5 ∧ 0 < lefN rt k u))), (0, .ref (g 0))]) hx hb dX10_hasWay_3 rfl hl (by decide) rfl (fun ls hl => ?_)
  refine loopW (σ := Nat) 4 (fun (i : Nat) H locs ls => (i ≤ rr ∨ i = 1) ∧ (0 < i) ∧ va_P G vwCl [(g 0, .inr (10, [.int (nI 0), .ref (g 1), .int (nI ts), .int (nI pl), .int (nI rk), .ref (g 5), .int (nI sl), .ref (g 7), .int (nI rr), .int (nI rs), .ref (g 10), .ref (g 11), .ref (g 12), .long sd, .ref (g 14), .ref (g 15), .int (nI ac), .ref (g 17), .ref (g 18), .ref (g 19), .int (nI tc), .ref (g 21), .ref (g 22), .ref (g 23), .ref (g 24), .long td9, .ref (g 26), .ref (g 27), .ref (g 28), .ref (g 29), .ref (g 30)])), (g 11, .inl (cI, 175, .inl (fun i9 => nI (rt i9))))] H ∧ va_D A [(g 0, .inr (10, [.int (nI 0), .ref (g 1), .int (nI ts), .int (nI pl), .int (nI rk), .ref (g 5), .int (nI sl), .ref (g 7), .int (nI rr), .int (nI rs), .ref (g 10), .ref (g 11), .ref (g 12), .long sd, .ref (g 14), .ref (g 15), .int (nI ac), .ref (g 17), .ref (g 18), .ref (g 19), .int (nI tc), .ref (g 21), .ref (g 22), .ref (g 23), .ref (g 24), .long td9, .ref (g 26), .ref (g 27), .ref (g 28), .ref (g 29), .ref (g 30)])), (g 11, .inl (cI, 175, .inl (fun i9 => nI (rt i9))))] ∧ va_S A s.heap H locs ∧ lv_has ls 3 [(2, .int (nI i)), (1, .int (bI (∃ k, 0 < k ∧ k < i ∧ ∃ u, u < 5 ∧ 0 < lefN rt k u))), (0, .ref (g 0))]) (fun (i : Nat) => []) (fun (i : Nat) => rr - i) ?_ 1 ⟨by first | assumption | omega | (simp; done), by first | assumption | omega | (simp; done), hP.sub [0, 1] rfl, hD.sub [0, 1] (by decide) rfl, hS, lv_sub hl [0, 1, 2] rfl⟩
  intro xx9 H locs ls hI ih_4
  obtain ⟨i, rfl⟩ : ∃ z, z = xx9 := ⟨_, rfl⟩
  obtain ⟨hi, hi0, hP, hD, hS, hl⟩ := hI
  have hi : i ≤ rr ∨ i = 1 := hi
  have hi0 : 0 < i := hi0
  have hP : va_P G vwCl [(g 0, .inr (10, [.int (nI 0), .ref (g 1), .int (nI ts), .int (nI pl), .int (nI rk), .ref (g 5), .int (nI sl), .ref (g 7), .int (nI rr), .int (nI rs), .ref (g 10), .ref (g 11), .ref (g 12), .long sd, .ref (g 14), .ref (g 15), .int (nI ac), .ref (g 17), .ref (g 18), .ref (g 19), .int (nI tc), .ref (g 21), .ref (g 22), .ref (g 23), .ref (g 24), .long td9, .ref (g 26), .ref (g 27), .ref (g 28), .ref (g 29), .ref (g 30)])), (g 11, .inl (cI, 175, .inl (fun i9 => nI (rt i9))))] _ := hP
  have hD : va_D A [(g 0, .inr (10, [.int (nI 0), .ref (g 1), .int (nI ts), .int (nI pl), .int (nI rk), .ref (g 5), .int (nI sl), .ref (g 7), .int (nI rr), .int (nI rs), .ref (g 10), .ref (g 11), .ref (g 12), .long sd, .ref (g 14), .ref (g 15), .int (nI ac), .ref (g 17), .ref (g 18), .ref (g 19), .int (nI tc), .ref (g 21), .ref (g 22), .ref (g 23), .ref (g 24), .long td9, .ref (g 26), .ref (g 27), .ref (g 28), .ref (g 29), .ref (g 30)])), (g 11, .inl (cI, 175, .inl (fun i9 => nI (rt i9))))] := hD
  have hl : lv_has ls 3 [(2, .int (nI i)), (1, .int (bI (∃ k, 0 < k ∧ k < i ∧ ∃ u, u < 5 ∧ 0 < lefN rt k u))), (0, .ref (g 0))] := hl
  refine lv_iload_n hx hb dX10_hasWay_4 rfl (lv_at hl 0 rfl) ?_
  refine lv_aload_n hx hb dX10_hasWay_5 rfl (lv_at hl 2 rfl) ?_
  refine va_get (D := G) (ci := 10) (v := .int (nI rr)) (C := RX10) (T := TX10) (N := 31) hx hb hts hin10 hown hK.1 hP 0 rfl rfl 8 (by decide) k_0 (fun _ h9 => h9) rfl dX10_hasWay_6 ?_
  refine lv_icmp_ge (tgt := 36) hx hb dX10_hasWay_9 (by decide) (fun c_9 => ?_) (fun c_9 => ?_)
  · skip
    have c_9 := n_geT c_9 (by omega) (by omega)
    refine lv_iload_n hx hb dX10_hasWay_36 rfl (lv_at hl 1 rfl) ?_
    exact endZ hx hb hr hlocks (bI_nar) (()) (bI_iff ⟨fun ⟨k, h0, h1, h2⟩ => ⟨k, h0, by omega, h2⟩, fun ⟨k, h0, h1, h2⟩ => ⟨k, h0, by omega, h2⟩⟩) (hP.sub [0, 1] rfl) (hD.sub [0, 1] (by decide) rfl) hS dX10_hasWay_37
  · skip
    have c_9 := n_geF c_9 (by omega) (by omega)
    refine lv_iload_n hx hb dX10_hasWay_12 rfl (lv_at hl 1 rfl) ?_
    refine lv_if_ne (tgt := 24) hx hb dX10_hasWay_13 (by decide) (fun c_13 => ?_) (fun c_13 => ?_)
    · skip
      have c_13 := bI_t c_13
      have hex : ∃ k, 0 < k ∧ k < (i + 1) ∧ ∃ u, u < 5 ∧ 0 < lefN rt k u := by obtain ⟨u, h0, h1, h2⟩ := c_13; exact ⟨u, h0, by omega, h2⟩
      refine lv_iconst (v := nI 1) hx hb dX10_hasWay_24 (by decide) ?_
      refine lv_goto (tgt := 29) hx hb dX10_hasWay_25 (by decide) ?_
      refine top_i (y := bI (∃ k, 0 < k ∧ k < (i + 1) ∧ ∃ u, u < 5 ∧ 0 < lefN rt k u)) (bI_y (hex)) ?_
      refine lv_istore_n (lv' := [(1, .int (bI (∃ k, 0 < k ∧ k < (i + 1) ∧ ∃ u, u < 5 ∧ 0 < lefN rt k u))), (2, .int (nI i)), (0, .ref (g 0))]) hx hb dX10_hasWay_29 rfl hl (by decide) rfl (fun ls hl => ?_)
      refine lv_iinc (v := nI (i + 1)) (lv' := [(2, .int (nI (i + 1))), (1, .int (bI (∃ k, 0 < k ∧ k < (i + 1) ∧ ∃ u, u < 5 ∧ 0 < lefN rt k u))), (0, .ref (g 0))]) hx hb dX10_hasWay_30 hl (k := 1) rfl (nI_inc _ 1 1 (by decide)) (by decide) rfl (fun ls hl => ?_)
      refine lv_goto (tgt := 4) hx hb dX10_hasWay_33 (by decide) ?_
      exact ih_4 (i + 1) _ _ _ (by first | omega | (simp only []; omega) | (show _ < _; omega)) ⟨by first | assumption | omega | (simp; done), by first | assumption | omega | (simp; done), hP.sub [0, 1] rfl, hD.sub [0, 1] (by decide) rfl, hS, lv_sub hl [0, 1, 2] rfl⟩
    · skip
      have c_13 := bI_f c_13
      refine lv_aload_n hx hb dX10_hasWay_16 rfl (lv_at hl 2 rfl) ?_
      refine lv_iload_n hx hb dX10_hasWay_17 rfl (lv_at hl 0 rfl) ?_
      refine aft_i (wr := []) (va_runV (As := [.int (nI i)]) (rest := []) ⟨hx, hb, hml, hown, hts⟩ (c_X10_hasLeft (g := g) (ts := ts) (pl := pl) (rk := rk) (sl := sl) (rr := rr) (rs := rs) (ac := ac) (tc := tc) (sd := sd) (td9 := td9) (rt := rt) (k := i) (hk := by first | assumption | omega | exact hok.1 _ (by omega) | exact hok.2.2 _ _ (by omega) (by omega) | exact hok.2.1) (hrt := by first | assumption | omega | exact hok.1 _ (by omega) | exact hok.2.2 _ _ (by omega) (by omega) | exact hok.2.1) (hs := by first | assumption | omega | exact hok.1 _ (by omega) | exact hok.2.2 _ _ (by omega) (by omega) | exact hok.2.1) _) (cwV 1 hts gX10_hasWay_X10_hasLeft rfl rfl rfl (by decide +kernel) ⟨Nat.le_of_ble_eq_true rfl, Nat.le_of_ble_eq_true rfl⟩) (preV (cq := (RX10, TX10, 31)) (q0 := 0) (ci := 10) hK hP hD [0, 1] rfl rfl rfl rfl) rfl rfl hl.1 rfl (lv_room (Nat.le_of_ble_eq_true rfl)) dX10_hasWay_18 ⟨Nat.le_of_ble_eq_true rfl, Nat.le_of_ble_eq_true rfl⟩) hP hD hS hA [0, 1] [] rfl rfl rfl (by decide) (fun r_18 uu9 H locs hw hP hD hS => ?_)
      have hP : va_P G vwCl [(g 0, .inr (10, [.int (nI 0), .ref (g 1), .int (nI ts), .int (nI pl), .int (nI rk), .ref (g 5), .int (nI sl), .ref (g 7), .int (nI rr), .int (nI rs), .ref (g 10), .ref (g 11), .ref (g 12), .long sd, .ref (g 14), .ref (g 15), .int (nI ac), .ref (g 17), .ref (g 18), .ref (g 19), .int (nI tc), .ref (g 21), .ref (g 22), .ref (g 23), .ref (g 24), .long td9, .ref (g 26), .ref (g 27), .ref (g 28), .ref (g 29), .ref (g 30)])), (g 11, .inl (cI, 175, .inl (fun i9 => nI (rt i9))))] _ := hP
      have hD : va_D A [(g 0, .inr (10, [.int (nI 0), .ref (g 1), .int (nI ts), .int (nI pl), .int (nI rk), .ref (g 5), .int (nI sl), .ref (g 7), .int (nI rr), .int (nI rs), .ref (g 10), .ref (g 11), .ref (g 12), .long sd, .ref (g 14), .ref (g 15), .int (nI ac), .ref (g 17), .ref (g 18), .ref (g 19), .int (nI tc), .ref (g 21), .ref (g 22), .ref (g 23), .ref (g 24), .long td9, .ref (g 26), .ref (g 27), .ref (g 28), .ref (g 29), .ref (g 30)])), (g 11, .inl (cI, 175, .inl (fun i9 => nI (rt i9))))] := hD
      obtain rfl := hw
      refine top_i (y := bI (∃ u, u < 5 ∧ 0 < lefN rt i u)) rfl ?_
      refine lv_if_eq (tgt := 28) hx hb dX10_hasWay_21 (by decide) (fun c_21 => ?_) (fun c_21 => ?_)
      · skip
        have c_21 := bI_f c_21
        have hno : ¬ (∃ k, 0 < k ∧ k < (i + 1) ∧ ∃ u, u < 5 ∧ 0 < lefN rt k u) := by rintro ⟨u, h0, h1, h2⟩; by_cases e : u = i; (rw [e] at h2; exact c_21 h2); exact c_13 ⟨u, h0, by omega, h2⟩
        refine lv_iconst (v := nI 0) hx hb dX10_hasWay_28 (by decide) ?_
        refine top_i (y := bI (∃ k, 0 < k ∧ k < (i + 1) ∧ ∃ u, u < 5 ∧ 0 < lefN rt k u)) (bI_n (hno)) ?_
        refine lv_istore_n (lv' := [(1, .int (bI (∃ k, 0 < k ∧ k < (i + 1) ∧ ∃ u, u < 5 ∧ 0 < lefN rt k u))), (2, .int (nI i)), (0, .ref (g 0))]) hx hb dX10_hasWay_29 rfl hl (by decide) rfl (fun ls hl => ?_)
        refine lv_iinc (v := nI (i + 1)) (lv' := [(2, .int (nI (i + 1))), (1, .int (bI (∃ k, 0 < k ∧ k < (i + 1) ∧ ∃ u, u < 5 ∧ 0 < lefN rt k u))), (0, .ref (g 0))]) hx hb dX10_hasWay_30 hl (k := 1) rfl (nI_inc _ 1 1 (by decide)) (by decide) rfl (fun ls hl => ?_)
        refine lv_goto (tgt := 4) hx hb dX10_hasWay_33 (by decide) ?_
        exact ih_4 (i + 1) _ _ _ (by first | omega | (simp only []; omega) | (show _ < _; omega)) ⟨by first | assumption | omega | (simp; done), by first | assumption | omega | (simp; done), hP.sub [0, 1] rfl, hD.sub [0, 1] (by decide) rfl, hS, lv_sub hl [0, 1, 2] rfl⟩
      · skip
        have c_21 := bI_t c_21
        have hex : ∃ k, 0 < k ∧ k < (i + 1) ∧ ∃ u, u < 5 ∧ 0 < lefN rt k u := ⟨i, hi0, by omega, c_21⟩
        refine lv_iconst (v := nI 1) hx hb dX10_hasWay_24 (by decide) ?_
        refine lv_goto (tgt := 29) hx hb dX10_hasWay_25 (by decide) ?_
        refine top_i (y := bI (∃ k, 0 < k ∧ k < (i + 1) ∧ ∃ u, u < 5 ∧ 0 < lefN rt k u)) (bI_y (hex)) ?_
        refine lv_istore_n (lv' := [(1, .int (bI (∃ k, 0 < k ∧ k < (i + 1) ∧ ∃ u, u < 5 ∧ 0 < lefN rt k u))), (2, .int (nI i)), (0, .ref (g 0))]) hx hb dX10_hasWay_29 rfl hl (by decide) rfl (fun ls hl => ?_)
        refine lv_iinc (v := nI (i + 1)) (lv' := [(2, .int (nI (i + 1))), (1, .int (bI (∃ k, 0 < k ∧ k < (i + 1) ∧ ∃ u, u < 5 ∧ 0 < lefN rt k u))), (0, .ref (g 0))]) hx hb dX10_hasWay_30 hl (k := 1) rfl (nI_inc _ 1 1 (by decide)) (by decide) rfl (fun ls hl => ?_)
        refine lv_goto (tgt := 4) hx hb dX10_hasWay_33 (by decide) ?_
        exact ih_4 (i + 1) _ _ _ (by first | omega | (simp only []; omega) | (show _ < _; omega)) ⟨by first | assumption | omega | (simp; done), by first | assumption | omega | (simp; done), hP.sub [0, 1] rfl, hD.sub [0, 1] (by decide) rfl, hS, lv_sub hl [0, 1, 2] rfl⟩

set_option maxHeartbeats 4000000 in
set_option maxRecDepth 100000 in
theorem c_X10_readSlip {l : Launch} {G : va_G} {cI cJ cZ cS : ClassId} (g : Nat → Nat) (ts : Nat) (pl : Nat) (rk : Nat) (sl : Nat) (rr : Nat) (rs : Nat) (ac : Nat) (tc : Nat) (sd : Int64) (td9 : Int64) (tx : Nat → Nat) (rd : Nat → Nat) (rt : Nat → Nat) (hpl : pl ≤ ts) (hts : ts ≤ 64) (htx : ∀ j, j < ts → tx j < 256) (hrun : ∃ s9, runN tx pl = some s9 ∧ s9.1 = 3 ∧ RMo s9 rd rt rr rs) (hs9 : rs < 9) : CI l G (kT cI cJ cZ cS) (S := Nat × Nat × Nat × (Nat → Nat) × (Nat → Nat)) yX10_readSlip wsX10_readSlip { frames := 2, cells := 0, slots := 0, locals := 48 } [.ref (g 0)] [(g 0, .inr (10, [.int (nI 0), .ref (g 1), .int (nI ts), .int (nI pl), .int (nI rk), .ref (g 5), .int (nI sl), .ref (g 7), .int (nI rr), .int (nI rs), .ref (g 10), .ref (g 11), .ref (g 12), .long sd, .ref (g 14), .ref (g 15), .int (nI ac), .ref (g 17), .ref (g 18), .ref (g 19), .int (nI tc), .ref (g 21), .ref (g 22), .ref (g 23), .ref (g 24), .long td9, .ref (g 26), .ref (g 27), .ref (g 28), .ref (g 29), .ref (g 30)])), (g 1, .inl (cI, 64, .inl (fun i9 => nI (tx i9)))), (g 10, .inl (cI, 7, .inl (fun i9 => nI (rd i9)))), (g 11, .inl (cI, 175, .inl (fun i9 => nI (rt i9))))] (fun res uu9 => match uu9 with | (p1, rr1, rs1, rd1, rt1) => PaP tx ts pl p1 rd1 rt1 rr1 rs1 res) (fun uu9 => match uu9 with | (p1, rr1, rs1, rd1, rt1) => [(g 0, .inr (10, [.int (nI 0), .ref (g 1), .int (nI ts), .int (nI p1), .int (nI rk), .ref (g 5), .int (nI sl), .ref (g 7), .int (nI rr1), .int (nI rs1), .ref (g 10), .ref (g 11), .ref (g 12), .long sd, .ref (g 14), .ref (g 15), .int (nI ac), .ref (g 17), .ref (g 18), .ref (g 19), .int (nI tc), .ref (g 21), .ref (g 22), .ref (g 23), .ref (g 24), .long td9, .ref (g 26), .ref (g 27), .ref (g 28), .ref (g 29), .ref (g 30)])), (g 1, .inl (cI, 64, .inl (fun i9 => nI (tx i9)))), (g 10, .inl (cI, 7, .inl (fun i9 => nI (rd1 i9)))), (g 11, .inl (cI, 175, .inl (fun i9 => nI (rt1 i9))))]) := by
  refine CI.of (cc := cX10_readSlip) (maxL := 6) (by decide) rfl (Nat.le_of_ble_eq_true rfl) ?_
  intro p9 e9 s m below meth co9 A ls hB
  obtain ⟨hx, hb, hml, hr, hts, hown, hlocks, hmn, hK, hP, hD, hS, hA, hl⟩ := hB
  have hP : va_P G vwCl [(g 0, .inr (10, [.int (nI 0), .ref (g 1), .int (nI ts), .int (nI pl), .int (nI rk), .ref (g 5), .int (nI sl), .ref (g 7), .int (nI rr), .int (nI rs), .ref (g 10), .ref (g 11), .ref (g 12), .long sd, .ref (g 14), .ref (g 15), .int (nI ac), .ref (g 17), .ref (g 18), .ref (g 19), .int (nI tc), .ref (g 21), .ref (g 22), .ref (g 23), .ref (g 24), .long td9, .ref (g 26), .ref (g 27), .ref (g 28), .ref (g 29), .ref (g 30)])), (g 1, .inl (cI, 64, .inl (fun i9 => nI (tx i9)))), (g 10, .inl (cI, 7, .inl (fun i9 => nI (rd i9)))), (g 11, .inl (cI, 175, .inl (fun i9 => nI (rt i9))))] s.heap := hP
  have hD : va_D A [(g 0, .inr (10, [.int (nI 0), .ref (g 1), .int (nI ts), .int (nI pl), .int (nI rk), .ref (g 5), .int (nI sl), .ref (g 7), .int (nI rr), .int (nI rs), .ref (g 10), .ref (g 11), .ref (g 12), .long sd, .ref (g 14), .ref (g 15), .int (nI ac), .ref (g 17), .ref (g 18), .ref (g 19), .int (nI tc), .ref (g 21), .ref (g 22), .ref (g 23), .ref (g 24), .long td9, .ref (g 26), .ref (g 27), .ref (g 28), .ref (g 29), .ref (g 30)])), (g 1, .inl (cI, 64, .inl (fun i9 => nI (tx i9)))), (g 10, .inl (cI, 7, .inl (fun i9 => nI (rd i9)))), (g 11, .inl (cI, 175, .inl (fun i9 => nI (rt i9))))] := hD
  have hl : lv_has ls 6 [(0, .ref (g 0))] := hl
  have k_0 := hts (.fieldLink RX10 90 "HearsayMarchModel" "place" "I") (by decide +kernel)
  have k_1 := hts (.fieldLink RX10 87 "HearsayMarchModel" "textSize" "I") (by decide +kernel)
  have k_2 := hts (.fieldLink RX10 93 "HearsayMarchModel" "readRanks" "I") (by decide +kernel)
  have k_3 := hts (.fieldLink RX10 7 "HearsayMarchModel" "text" "[I") (by decide +kernel)
  have k_4 := hts (.fieldLink RX10 22 "HearsayMarchModel" "readTenths" "[I") (by decide +kernel)
  have k_5 := hts (.fieldLink RX10 110 "HearsayMarchModel" "readSlips" "I") (by decide +kernel)
  have hin10 : ∀ w ∈ wsX100, w ∈ wsX10_readSlip := by decide +kernel
  have hs3 := sl3_of hrun
  obtain ⟨f1, f2, f3, f4, f5, f6⟩ := sl_rf hs3
  have hrr8 : rr < 8 := by omega
  refine lv_aload_n hx hb dX10_readSlip_0 rfl (lv_at hl 0 rfl) ?_
  refine va_get (D := G) (ci := 10) (v := .int (nI pl)) (C := RX10) (T := TX10) (N := 31) hx hb hts hin10 hown hK.1 hP 0 rfl rfl 3 (by decide) k_0 (fun _ h9 => h9) rfl dX10_readSlip_1 ?_
  refine lv_aload_n hx hb dX10_readSlip_4 rfl (lv_at hl 0 rfl) ?_
  refine va_get (D := G) (ci := 10) (v := .int (nI ts)) (C := RX10) (T := TX10) (N := 31) hx hb hts hin10 hown hK.1 hP 0 rfl rfl 2 (by decide) k_1 (fun _ h9 => h9) rfl dX10_readSlip_5 ?_
  refine lv_icmp_ge (tgt := 26) hx hb dX10_readSlip_8 (by decide) (fun c_8 => ?_) (fun c_8 => ?_)
  · skip
    have c_8 := n_geT c_8 (by omega) (by omega)
    refine lv_bipush (v := (-9)) hx hb dX10_readSlip_26 (by decide) ?_
    refine top_i (y := (-9 : Int32)) (rfl) ?_
    refine lv_istore_n (lv' := [(1, .int (-9 : Int32)), (0, .ref (g 0))]) hx hb dX10_readSlip_28 rfl hl (by decide) rfl (fun ls hl => ?_)
    refine lv_iload_n hx hb dX10_readSlip_29 rfl (lv_at hl 0 rfl) ?_
    refine lv_i2l (v := ((-9 : Int32)).toInt64) hx hb dX10_readSlip_30 rfl ?_
    refine lv_lconst (v := lN 1) hx hb dX10_readSlip_31 (by decide) ?_
    refine lv_aload_n hx hb dX10_readSlip_32 rfl (lv_at hl 1 rfl) ?_
    refine va_get (D := G) (ci := 10) (v := .int (nI rr)) (C := RX10) (T := TX10) (N := 31) hx hb hts hin10 hown hK.1 hP 0 rfl rfl 8 (by decide) k_2 (fun _ h9 => h9) rfl dX10_readSlip_33 ?_
    refine lv_iconst (v := nI 1) hx hb dX10_readSlip_36 (by decide) ?_
    refine lv_isub hx hb dX10_readSlip_37 ?_
    refine lv_i2l (v := ((nI rr) - (nI 1)).toInt64) hx hb dX10_readSlip_38 rfl ?_
    refine aft_i (wr := [(g 0, .inr (10, [.int (nI 0), .ref (g 1), .int (nI ts), .int (nI pl), .int (nI rk), .ref (g 5), .int (nI sl), .ref (g 7), .int (nI rr), .int (nI rs), .ref (g 10), .ref (g 11), .ref (g 12), .long sd, .ref (g 14), .ref (g 15), .int (nI ac), .ref (g 17), .ref (g 18), .ref (g 19), .int (nI tc), .ref (g 21), .ref (g 22), .ref (g 23), .ref (g 24), .long td9, .ref (g 26), .ref (g 27), .ref (g 28), .ref (g 29), .ref (g 30)])), (g 1, .inl (cI, 64, .inl (fun i9 => nI (tx i9)))), (g 10, .inl (cI, 7, .inl (fun i9 => nI (rd i9)))), (g 11, .inl (cI, 175, .inl (fun i9 => nI (rt i9))))]) (va_runS (As := [.long (((-9 : Int32)).toInt64), .long (lN 1), .long (((nI rr) - (nI 1)).toInt64)]) (rest := []) ⟨hx, hb, hml, hown, hts⟩ (c_X10_in (x := ((-9 : Int32)).toInt64) (y := lN 1) (z := ((nI rr) - (nI 1)).toInt64) _) (va_cwS 3 hts gX10_readSlip_X10_in rfl rfl rfl (by decide +kernel) ⟨Nat.le_of_ble_eq_true rfl, Nat.le_of_ble_eq_true rfl⟩) (preS hK hP hD [] rfl rfl) rfl rfl hl.1 rfl (lv_room (Nat.le_of_ble_eq_true rfl)) dX10_readSlip_39 ⟨Nat.le_of_ble_eq_true rfl, Nat.le_of_ble_eq_true rfl⟩) hP hD hS hA [] [0, 1, 2, 3] rfl rfl rfl (by decide) (fun r_39 uu9 H locs hw hP hD hS => ?_)
    have hP : va_P G vwCl [(g 0, .inr (10, [.int (nI 0), .ref (g 1), .int (nI ts), .int (nI pl), .int (nI rk), .ref (g 5), .int (nI sl), .ref (g 7), .int (nI rr), .int (nI rs), .ref (g 10), .ref (g 11), .ref (g 12), .long sd, .ref (g 14), .ref (g 15), .int (nI ac), .ref (g 17), .ref (g 18), .ref (g 19), .int (nI tc), .ref (g 21), .ref (g 22), .ref (g 23), .ref (g 24), .long td9, .ref (g 26), .ref (g 27), .ref (g 28), .ref (g 29), .ref (g 30)])), (g 1, .inl (cI, 64, .inl (fun i9 => nI (tx i9)))), (g 10, .inl (cI, 7, .inl (fun i9 => nI (rd i9)))), (g 11, .inl (cI, 175, .inl (fun i9 => nI (rt i9))))] _ := hP
    have hD : va_D A [(g 0, .inr (10, [.int (nI 0), .ref (g 1), .int (nI ts), .int (nI pl), .int (nI rk), .ref (g 5), .int (nI sl), .ref (g 7), .int (nI rr), .int (nI rs), .ref (g 10), .ref (g 11), .ref (g 12), .long sd, .ref (g 14), .ref (g 15), .int (nI ac), .ref (g 17), .ref (g 18), .ref (g 19), .int (nI tc), .ref (g 21), .ref (g 22), .ref (g 23), .ref (g 24), .long td9, .ref (g 26), .ref (g 27), .ref (g 28), .ref (g 29), .ref (g 30)])), (g 1, .inl (cI, 64, .inl (fun i9 => nI (tx i9)))), (g 10, .inl (cI, 7, .inl (fun i9 => nI (rd i9)))), (g 11, .inl (cI, 175, .inl (fun i9 => nI (rt i9))))] := hD
    obtain rfl := hw
    refine top_i (y := bI ((lN 1) ≤ (((-9 : Int32)).toInt64) ∧ (((-9 : Int32)).toInt64) ≤ (((nI rr) - (nI 1)).toInt64))) rfl ?_
    refine lv_if_eq (tgt := 53) hx hb dX10_readSlip_42 (by decide) (fun c_42 => ?_) (fun c_42 => ?_)
    · skip
      have c_42 := bI_f c_42
      refine lv_iconst (v := nI 0) hx hb dX10_readSlip_53 (by decide) ?_
      exact endZ hx hb hr hlocks (rfl) ((pl, rr, rs, rd, rt)) (PaP_f (sl_end hs3 (by omega) (by decide)) (by omega)) (hP.sub [0, 1, 2, 3] rfl) (hD.sub [0, 1, 2, 3] (by decide) rfl) hS dX10_readSlip_54
    · skip
      have c_42 := bI_t c_42
      exact absurd c_42 in_way9
  · skip
    have c_8 := n_geF c_8 (by omega) (by omega)
    have hc9 := htx pl (by omega)
    refine lv_aload_n hx hb dX10_readSlip_11 rfl (lv_at hl 0 rfl) ?_
    refine va_get (D := G) (ci := 10) (v := .ref (g 1)) (C := RX10) (T := TX10) (N := 31) hx hb hts hin10 hown hK.1 hP 0 rfl rfl 1 (by decide) k_3 (fun _ h9 => h9) rfl dX10_readSlip_12 ?_
    refine lv_aload_n hx hb dX10_readSlip_15 rfl (lv_at hl 0 rfl) ?_
    refine va_get (D := G) (ci := 10) (v := .int (nI pl)) (C := RX10) (T := TX10) (N := 31) hx hb hts hin10 hown hK.1 hP 0 rfl rfl 3 (by decide) k_0 (fun _ h9 => h9) rfl dX10_readSlip_16 ?_
    refine ald hx hb hK hP 1 0 rfl rfl (j := pl) (by omega) (by omega) dX10_readSlip_19 ?_
    refine lv_bipush (v := nI 48) hx hb dX10_readSlip_20 (by decide) ?_
    refine lv_isub hx hb dX10_readSlip_22 ?_
    refine lv_goto (tgt := 28) hx hb dX10_readSlip_23 (by decide) ?_
    refine lv_istore_n (lv' := [(1, .int ((nI (tx pl)) - (nI 48))), (0, .ref (g 0))]) hx hb dX10_readSlip_28 rfl hl (by decide) rfl (fun ls hl => ?_)
    refine lv_iload_n hx hb dX10_readSlip_29 rfl (lv_at hl 0 rfl) ?_
    refine lv_i2l (v := ((nI (tx pl)) - (nI 48)).toInt64) hx hb dX10_readSlip_30 rfl ?_
    refine lv_lconst (v := lN 1) hx hb dX10_readSlip_31 (by decide) ?_
    refine lv_aload_n hx hb dX10_readSlip_32 rfl (lv_at hl 1 rfl) ?_
    refine va_get (D := G) (ci := 10) (v := .int (nI rr)) (C := RX10) (T := TX10) (N := 31) hx hb hts hin10 hown hK.1 hP 0 rfl rfl 8 (by decide) k_2 (fun _ h9 => h9) rfl dX10_readSlip_33 ?_
    refine lv_iconst (v := nI 1) hx hb dX10_readSlip_36 (by decide) ?_
    refine lv_isub hx hb dX10_readSlip_37 ?_
    refine lv_i2l (v := ((nI rr) - (nI 1)).toInt64) hx hb dX10_readSlip_38 rfl ?_
    refine aft_i (wr := [(g 0, .inr (10, [.int (nI 0), .ref (g 1), .int (nI ts), .int (nI pl), .int (nI rk), .ref (g 5), .int (nI sl), .ref (g 7), .int (nI rr), .int (nI rs), .ref (g 10), .ref (g 11), .ref (g 12), .long sd, .ref (g 14), .ref (g 15), .int (nI ac), .ref (g 17), .ref (g 18), .ref (g 19), .int (nI tc), .ref (g 21), .ref (g 22), .ref (g 23), .ref (g 24), .long td9, .ref (g 26), .ref (g 27), .ref (g 28), .ref (g 29), .ref (g 30)])), (g 1, .inl (cI, 64, .inl (fun i9 => nI (tx i9)))), (g 10, .inl (cI, 7, .inl (fun i9 => nI (rd i9)))), (g 11, .inl (cI, 175, .inl (fun i9 => nI (rt i9))))]) (va_runS (As := [.long (((nI (tx pl)) - (nI 48)).toInt64), .long (lN 1), .long (((nI rr) - (nI 1)).toInt64)]) (rest := []) ⟨hx, hb, hml, hown, hts⟩ (c_X10_in (x := ((nI (tx pl)) - (nI 48)).toInt64) (y := lN 1) (z := ((nI rr) - (nI 1)).toInt64) _) (va_cwS 3 hts gX10_readSlip_X10_in rfl rfl rfl (by decide +kernel) ⟨Nat.le_of_ble_eq_true rfl, Nat.le_of_ble_eq_true rfl⟩) (preS hK hP hD [] rfl rfl) rfl rfl hl.1 rfl (lv_room (Nat.le_of_ble_eq_true rfl)) dX10_readSlip_39 ⟨Nat.le_of_ble_eq_true rfl, Nat.le_of_ble_eq_true rfl⟩) hP hD hS hA [] [0, 1, 2, 3] rfl rfl rfl (by decide) (fun r_39 uu9 H locs hw hP hD hS => ?_)
    have hP : va_P G vwCl [(g 0, .inr (10, [.int (nI 0), .ref (g 1), .int (nI ts), .int (nI pl), .int (nI rk), .ref (g 5), .int (nI sl), .ref (g 7), .int (nI rr), .int (nI rs), .ref (g 10), .ref (g 11), .ref (g 12), .long sd, .ref (g 14), .ref (g 15), .int (nI ac), .ref (g 17), .ref (g 18), .ref (g 19), .int (nI tc), .ref (g 21), .ref (g 22), .ref (g 23), .ref (g 24), .long td9, .ref (g 26), .ref (g 27), .ref (g 28), .ref (g 29), .ref (g 30)])), (g 1, .inl (cI, 64, .inl (fun i9 => nI (tx i9)))), (g 10, .inl (cI, 7, .inl (fun i9 => nI (rd i9)))), (g 11, .inl (cI, 175, .inl (fun i9 => nI (rt i9))))] _ := hP
    have hD : va_D A [(g 0, .inr (10, [.int (nI 0), .ref (g 1), .int (nI ts), .int (nI pl), .int (nI rk), .ref (g 5), .int (nI sl), .ref (g 7), .int (nI rr), .int (nI rs), .ref (g 10), .ref (g 11), .ref (g 12), .long sd, .ref (g 14), .ref (g 15), .int (nI ac), .ref (g 17), .ref (g 18), .ref (g 19), .int (nI tc), .ref (g 21), .ref (g 22), .ref (g 23), .ref (g 24), .long td9, .ref (g 26), .ref (g 27), .ref (g 28), .ref (g 29), .ref (g 30)])), (g 1, .inl (cI, 64, .inl (fun i9 => nI (tx i9)))), (g 10, .inl (cI, 7, .inl (fun i9 => nI (rd i9)))), (g 11, .inl (cI, 175, .inl (fun i9 => nI (rt i9))))] := hD
    obtain rfl := hw
    refine top_i (y := bI ((lN 1) ≤ (((nI (tx pl)) - (nI 48)).toInt64) ∧ (((nI (tx pl)) - (nI 48)).toInt64) ≤ (((nI rr) - (nI 1)).toInt64))) rfl ?_
    refine lv_if_eq (tgt := 53) hx hb dX10_readSlip_42 (by decide) (fun c_42 => ?_) (fun c_42 => ?_)
    · skip
      have c_42 := bI_f c_42
      refine lv_iconst (v := nI 0) hx hb dX10_readSlip_53 (by decide) ?_
      exact endZ hx hb hr hlocks (rfl) ((pl, rr, rs, rd, rt)) (PaP_f (sl3_no hs3 (by omega) (fun z => c_42 ((in_way hc9 hrr8).mpr z))) (by omega)) (hP.sub [0, 1, 2, 3] rfl) (hD.sub [0, 1, 2, 3] (by decide) rfl) hS dX10_readSlip_54
    · skip
      have c_42 := bI_t c_42
      have c_42 := (in_way hc9 hrr8).mp c_42
      obtain ⟨kw, hkw, hkc⟩ : ∃ kw, nI (tx pl) - nI 48 = nI kw ∧ tx pl = kw + 48 := ⟨tx pl - 48, pk_sub (by omega), by omega⟩
      rw [hkw] at hl
      have hs4 := sl3_ok hs3 hkc (by omega) (by omega)
      refine lv_aload_n hx hb dX10_readSlip_45 rfl (lv_at hl 1 rfl) ?_
      refine lv_iload_n hx hb dX10_readSlip_46 rfl (lv_at hl 0 rfl) ?_
      refine aft_i (wr := [(g 1, .inl (cI, 64, .inl (fun i9 => nI (tx i9)))), (g 10, .inl (cI, 7, .inl (fun i9 => nI (rd i9))))]) (va_runV (As := [.int (nI kw)]) (rest := []) ⟨hx, hb, hml, hown, hts⟩ (c_X10_hasLeft (g := g) (ts := ts) (pl := pl) (rk := rk) (sl := sl) (rr := rr) (rs := rs) (ac := ac) (tc := tc) (sd := sd) (td9 := td9) (rt := rt) (k := kw) (hk := by omega) (hrt := f2) (hs := f1) _) (cwV 1 hts gX10_readSlip_X10_hasLeft rfl rfl rfl (by decide +kernel) ⟨Nat.le_of_ble_eq_true rfl, Nat.le_of_ble_eq_true rfl⟩) (preV (cq := (RX10, TX10, 31)) (q0 := 0) (ci := 10) hK hP hD [0, 3] rfl rfl rfl rfl) rfl rfl hl.1 rfl (lv_room (Nat.le_of_ble_eq_true rfl)) dX10_readSlip_47 ⟨Nat.le_of_ble_eq_true rfl, Nat.le_of_ble_eq_true rfl⟩) hP hD hS hA [0, 3] [1, 2] rfl rfl rfl (by decide) (fun r_47 uu9 H locs hw hP hD hS => ?_)
      have hP : va_P G vwCl [(g 1, .inl (cI, 64, .inl (fun i9 => nI (tx i9)))), (g 10, .inl (cI, 7, .inl (fun i9 => nI (rd i9)))), (g 0, .inr (10, [.int (nI 0), .ref (g 1), .int (nI ts), .int (nI pl), .int (nI rk), .ref (g 5), .int (nI sl), .ref (g 7), .int (nI rr), .int (nI rs), .ref (g 10), .ref (g 11), .ref (g 12), .long sd, .ref (g 14), .ref (g 15), .int (nI ac), .ref (g 17), .ref (g 18), .ref (g 19), .int (nI tc), .ref (g 21), .ref (g 22), .ref (g 23), .ref (g 24), .long td9, .ref (g 26), .ref (g 27), .ref (g 28), .ref (g 29), .ref (g 30)])), (g 11, .inl (cI, 175, .inl (fun i9 => nI (rt i9))))] _ := hP
      have hD : va_D A [(g 1, .inl (cI, 64, .inl (fun i9 => nI (tx i9)))), (g 10, .inl (cI, 7, .inl (fun i9 => nI (rd i9)))), (g 0, .inr (10, [.int (nI 0), .ref (g 1), .int (nI ts), .int (nI pl), .int (nI rk), .ref (g 5), .int (nI sl), .ref (g 7), .int (nI rr), .int (nI rs), .ref (g 10), .ref (g 11), .ref (g 12), .long sd, .ref (g 14), .ref (g 15), .int (nI ac), .ref (g 17), .ref (g 18), .ref (g 19), .int (nI tc), .ref (g 21), .ref (g 22), .ref (g 23), .ref (g 24), .long td9, .ref (g 26), .ref (g 27), .ref (g 28), .ref (g 29), .ref (g 30)])), (g 11, .inl (cI, 175, .inl (fun i9 => nI (rt i9))))] := hD
      obtain rfl := hw
      refine top_i (y := bI (∃ u, u < 5 ∧ 0 < lefN rt kw u)) rfl ?_
      refine lv_if_ne (tgt := 55) hx hb dX10_readSlip_50 (by decide) (fun c_50 => ?_) (fun c_50 => by have c_50 := bI_f c_50; exfalso; exact c_50 (hasL_ok f2 f4 hs9 (by omega)))
      have c_50 := bI_t c_50
      refine lv_aload_n hx hb dX10_readSlip_55 rfl (lv_at hl 1 rfl) ?_
      refine lv_dup hx hb dX10_readSlip_56 rfl ?_
      refine va_get (D := G) (ci := 10) (v := .int (nI pl)) (C := RX10) (T := TX10) (N := 31) hx hb hts hin10 hown hK.1 hP 2 rfl rfl 3 (by decide) k_0 (fun _ h9 => h9) rfl dX10_readSlip_57 ?_
      refine lv_iconst (v := nI 1) hx hb dX10_readSlip_60 (by decide) ?_
      refine lv_iadd hx hb dX10_readSlip_61 ?_
      refine top_i (y := nI (pl + 1)) (nI_add _ _) ?_
      refine va_put (D := G) (ci := 10) (v := .int (nI (pl + 1))) (ty := tyX10 3) (C := RX10) (T := TX10) (N := 31) hx hb hts hin10 tyX10 tyX10_ok nmX10 hown hK.1 hP hD hS 2 rfl rfl 3 (by decide) k_0 (fun _ h9 => h9) rfl (by decide +kernel) rfl rfl (Nat.le_of_ble_eq_true rfl) dX10_readSlip_62 (fun H locs hP hD hS => ?_)
      have hP : va_P G vwCl [(g 1, .inl (cI, 64, .inl (fun i9 => nI (tx i9)))), (g 10, .inl (cI, 7, .inl (fun i9 => nI (rd i9)))), (g 0, .inr (10, [.int (nI 0), .ref (g 1), .int (nI ts), .int (nI (pl + 1)), .int (nI rk), .ref (g 5), .int (nI sl), .ref (g 7), .int (nI rr), .int (nI rs), .ref (g 10), .ref (g 11), .ref (g 12), .long sd, .ref (g 14), .ref (g 15), .int (nI ac), .ref (g 17), .ref (g 18), .ref (g 19), .int (nI tc), .ref (g 21), .ref (g 22), .ref (g 23), .ref (g 24), .long td9, .ref (g 26), .ref (g 27), .ref (g 28), .ref (g 29), .ref (g 30)])), (g 11, .inl (cI, 175, .inl (fun i9 => nI (rt i9))))] _ := hP
      have hD : va_D A [(g 1, .inl (cI, 64, .inl (fun i9 => nI (tx i9)))), (g 10, .inl (cI, 7, .inl (fun i9 => nI (rd i9)))), (g 0, .inr (10, [.int (nI 0), .ref (g 1), .int (nI ts), .int (nI (pl + 1)), .int (nI rk), .ref (g 5), .int (nI sl), .ref (g 7), .int (nI rr), .int (nI rs), .ref (g 10), .ref (g 11), .ref (g 12), .long sd, .ref (g 14), .ref (g 15), .int (nI ac), .ref (g 17), .ref (g 18), .ref (g 19), .int (nI tc), .ref (g 21), .ref (g 22), .ref (g 23), .ref (g 24), .long td9, .ref (g 26), .ref (g 27), .ref (g 28), .ref (g 29), .ref (g 30)])), (g 11, .inl (cI, 175, .inl (fun i9 => nI (rt i9))))] := hD
      refine lv_aload_n hx hb dX10_readSlip_65 rfl (lv_at hl 1 rfl) ?_
      refine va_get (D := G) (ci := 10) (v := .int (nI (pl + 1))) (C := RX10) (T := TX10) (N := 31) hx hb hts hin10 hown hK.1 hP 2 rfl rfl 3 (by decide) k_0 (fun _ h9 => h9) rfl dX10_readSlip_66 ?_
      refine lv_aload_n hx hb dX10_readSlip_69 rfl (lv_at hl 1 rfl) ?_
      refine va_get (D := G) (ci := 10) (v := .int (nI ts)) (C := RX10) (T := TX10) (N := 31) hx hb hts hin10 hown hK.1 hP 2 rfl rfl 2 (by decide) k_1 (fun _ h9 => h9) rfl dX10_readSlip_70 ?_
      refine lv_icmp_ge (tgt := 91) hx hb dX10_readSlip_73 (by decide) (fun c_73 => ?_) (fun c_73 => ?_)
      · skip
        have c_73 := n_geT c_73 (by omega) (by omega)
        refine lv_bipush (v := (-9)) hx hb dX10_readSlip_91 (by decide) ?_
        refine top_i (y := (-9 : Int32)) (rfl) ?_
        refine lv_istore_n (lv' := [(2, .int (-9 : Int32)), (1, .int (nI kw)), (0, .ref (g 0))]) hx hb dX10_readSlip_93 rfl hl (by decide) rfl (fun ls hl => ?_)
        refine lv_iload_n hx hb dX10_readSlip_94 rfl (lv_at hl 0 rfl) ?_
        refine aft_i (wr := [(g 1, .inl (cI, 64, .inl (fun i9 => nI (tx i9)))), (g 10, .inl (cI, 7, .inl (fun i9 => nI (rd i9)))), (g 0, .inr (10, [.int (nI 0), .ref (g 1), .int (nI ts), .int (nI (pl + 1)), .int (nI rk), .ref (g 5), .int (nI sl), .ref (g 7), .int (nI rr), .int (nI rs), .ref (g 10), .ref (g 11), .ref (g 12), .long sd, .ref (g 14), .ref (g 15), .int (nI ac), .ref (g 17), .ref (g 18), .ref (g 19), .int (nI tc), .ref (g 21), .ref (g 22), .ref (g 23), .ref (g 24), .long td9, .ref (g 26), .ref (g 27), .ref (g 28), .ref (g 29), .ref (g 30)])), (g 11, .inl (cI, 175, .inl (fun i9 => nI (rt i9))))]) (va_runS (As := [.int (-9 : Int32)]) (rest := []) ⟨hx, hb, hml, hown, hts⟩ (c_X10_noOrder (r := (-9 : Int32)) _) (va_cwS 1 hts gX10_readSlip_X10_noOrder rfl rfl rfl (by decide +kernel) ⟨Nat.le_of_ble_eq_true rfl, Nat.le_of_ble_eq_true rfl⟩) (preS hK hP hD [] rfl rfl) rfl rfl hl.1 rfl (lv_room (Nat.le_of_ble_eq_true rfl)) dX10_readSlip_95 ⟨Nat.le_of_ble_eq_true rfl, Nat.le_of_ble_eq_true rfl⟩) hP hD hS hA [] [0, 1, 2, 3] rfl rfl rfl (by decide) (fun r_95 uu9 H locs hw hP hD hS => ?_)
        have hP : va_P G vwCl [(g 1, .inl (cI, 64, .inl (fun i9 => nI (tx i9)))), (g 10, .inl (cI, 7, .inl (fun i9 => nI (rd i9)))), (g 0, .inr (10, [.int (nI 0), .ref (g 1), .int (nI ts), .int (nI (pl + 1)), .int (nI rk), .ref (g 5), .int (nI sl), .ref (g 7), .int (nI rr), .int (nI rs), .ref (g 10), .ref (g 11), .ref (g 12), .long sd, .ref (g 14), .ref (g 15), .int (nI ac), .ref (g 17), .ref (g 18), .ref (g 19), .int (nI tc), .ref (g 21), .ref (g 22), .ref (g 23), .ref (g 24), .long td9, .ref (g 26), .ref (g 27), .ref (g 28), .ref (g 29), .ref (g 30)])), (g 11, .inl (cI, 175, .inl (fun i9 => nI (rt i9))))] _ := hP
        have hD : va_D A [(g 1, .inl (cI, 64, .inl (fun i9 => nI (tx i9)))), (g 10, .inl (cI, 7, .inl (fun i9 => nI (rd i9)))), (g 0, .inr (10, [.int (nI 0), .ref (g 1), .int (nI ts), .int (nI (pl + 1)), .int (nI rk), .ref (g 5), .int (nI sl), .ref (g 7), .int (nI rr), .int (nI rs), .ref (g 10), .ref (g 11), .ref (g 12), .long sd, .ref (g 14), .ref (g 15), .int (nI ac), .ref (g 17), .ref (g 18), .ref (g 19), .int (nI tc), .ref (g 21), .ref (g 22), .ref (g 23), .ref (g 24), .long td9, .ref (g 26), .ref (g 27), .ref (g 28), .ref (g 29), .ref (g 30)])), (g 11, .inl (cI, 175, .inl (fun i9 => nI (rt i9))))] := hD
        obtain rfl := hw
        refine top_i (y := bI (¬ isR 5 (-9 : Int32))) rfl ?_
        refine lv_if_ne (tgt := 110) hx hb dX10_readSlip_98 (by decide) (fun c_98 => ?_) (fun c_98 => ?_)
        · skip
          have c_98 := bI_t c_98
          refine lv_iconst (v := nI 0) hx hb dX10_readSlip_110 (by decide) ?_
          exact endZ hx hb hr hlocks (rfl) ((pl + 1, rr, rs, rd, rt)) (PaP_f (sl_end hs4 (by omega) (by decide)) (by omega)) (hP.sub [2, 0, 1, 3] rfl) (hD.sub [2, 0, 1, 3] (by decide) rfl) hS dX10_readSlip_111
        · skip
          have c_98 := bI_f c_98
          exact absurd nr9 c_98
      · skip
        have c_73 := n_geF c_73 (by omega) (by omega)
        have hc10 := htx (pl + 1) (by omega)
        refine lv_aload_n hx hb dX10_readSlip_76 rfl (lv_at hl 1 rfl) ?_
        refine va_get (D := G) (ci := 10) (v := .ref (g 1)) (C := RX10) (T := TX10) (N := 31) hx hb hts hin10 hown hK.1 hP 2 rfl rfl 1 (by decide) k_3 (fun _ h9 => h9) rfl dX10_readSlip_77 ?_
        refine lv_aload_n hx hb dX10_readSlip_80 rfl (lv_at hl 1 rfl) ?_
        refine va_get (D := G) (ci := 10) (v := .int (nI (pl + 1))) (C := RX10) (T := TX10) (N := 31) hx hb hts hin10 hown hK.1 hP 2 rfl rfl 3 (by decide) k_0 (fun _ h9 => h9) rfl dX10_readSlip_81 ?_
        refine ald hx hb hK hP 0 0 rfl rfl (j := pl + 1) (by omega) (by omega) dX10_readSlip_84 ?_
        refine lv_bipush (v := nI 48) hx hb dX10_readSlip_85 (by decide) ?_
        refine lv_isub hx hb dX10_readSlip_87 ?_
        refine lv_goto (tgt := 93) hx hb dX10_readSlip_88 (by decide) ?_
        refine lv_istore_n (lv' := [(2, .int ((nI (tx (pl + 1))) - (nI 48))), (1, .int (nI kw)), (0, .ref (g 0))]) hx hb dX10_readSlip_93 rfl hl (by decide) rfl (fun ls hl => ?_)
        refine lv_iload_n hx hb dX10_readSlip_94 rfl (lv_at hl 0 rfl) ?_
        refine aft_i (wr := [(g 1, .inl (cI, 64, .inl (fun i9 => nI (tx i9)))), (g 10, .inl (cI, 7, .inl (fun i9 => nI (rd i9)))), (g 0, .inr (10, [.int (nI 0), .ref (g 1), .int (nI ts), .int (nI (pl + 1)), .int (nI rk), .ref (g 5), .int (nI sl), .ref (g 7), .int (nI rr), .int (nI rs), .ref (g 10), .ref (g 11), .ref (g 12), .long sd, .ref (g 14), .ref (g 15), .int (nI ac), .ref (g 17), .ref (g 18), .ref (g 19), .int (nI tc), .ref (g 21), .ref (g 22), .ref (g 23), .ref (g 24), .long td9, .ref (g 26), .ref (g 27), .ref (g 28), .ref (g 29), .ref (g 30)])), (g 11, .inl (cI, 175, .inl (fun i9 => nI (rt i9))))]) (va_runS (As := [.int ((nI (tx (pl + 1))) - (nI 48))]) (rest := []) ⟨hx, hb, hml, hown, hts⟩ (c_X10_noOrder (r := (nI (tx (pl + 1))) - (nI 48)) _) (va_cwS 1 hts gX10_readSlip_X10_noOrder rfl rfl rfl (by decide +kernel) ⟨Nat.le_of_ble_eq_true rfl, Nat.le_of_ble_eq_true rfl⟩) (preS hK hP hD [] rfl rfl) rfl rfl hl.1 rfl (lv_room (Nat.le_of_ble_eq_true rfl)) dX10_readSlip_95 ⟨Nat.le_of_ble_eq_true rfl, Nat.le_of_ble_eq_true rfl⟩) hP hD hS hA [] [0, 1, 2, 3] rfl rfl rfl (by decide) (fun r_95 uu9 H locs hw hP hD hS => ?_)
        have hP : va_P G vwCl [(g 1, .inl (cI, 64, .inl (fun i9 => nI (tx i9)))), (g 10, .inl (cI, 7, .inl (fun i9 => nI (rd i9)))), (g 0, .inr (10, [.int (nI 0), .ref (g 1), .int (nI ts), .int (nI (pl + 1)), .int (nI rk), .ref (g 5), .int (nI sl), .ref (g 7), .int (nI rr), .int (nI rs), .ref (g 10), .ref (g 11), .ref (g 12), .long sd, .ref (g 14), .ref (g 15), .int (nI ac), .ref (g 17), .ref (g 18), .ref (g 19), .int (nI tc), .ref (g 21), .ref (g 22), .ref (g 23), .ref (g 24), .long td9, .ref (g 26), .ref (g 27), .ref (g 28), .ref (g 29), .ref (g 30)])), (g 11, .inl (cI, 175, .inl (fun i9 => nI (rt i9))))] _ := hP
        have hD : va_D A [(g 1, .inl (cI, 64, .inl (fun i9 => nI (tx i9)))), (g 10, .inl (cI, 7, .inl (fun i9 => nI (rd i9)))), (g 0, .inr (10, [.int (nI 0), .ref (g 1), .int (nI ts), .int (nI (pl + 1)), .int (nI rk), .ref (g 5), .int (nI sl), .ref (g 7), .int (nI rr), .int (nI rs), .ref (g 10), .ref (g 11), .ref (g 12), .long sd, .ref (g 14), .ref (g 15), .int (nI ac), .ref (g 17), .ref (g 18), .ref (g 19), .int (nI tc), .ref (g 21), .ref (g 22), .ref (g 23), .ref (g 24), .long td9, .ref (g 26), .ref (g 27), .ref (g 28), .ref (g 29), .ref (g 30)])), (g 11, .inl (cI, 175, .inl (fun i9 => nI (rt i9))))] := hD
        obtain rfl := hw
        refine top_i (y := bI (¬ isR 5 ((nI (tx (pl + 1))) - (nI 48)))) rfl ?_
        refine lv_if_ne (tgt := 110) hx hb dX10_readSlip_98 (by decide) (fun c_98 => ?_) (fun c_98 => ?_)
        · skip
          have c_98 := bI_t c_98
          refine lv_iconst (v := nI 0) hx hb dX10_readSlip_110 (by decide) ?_
          exact endZ hx hb hr hlocks (rfl) ((pl + 1, rr, rs, rd, rt)) (PaP_f (sl4_no hs4 (by omega) (by omega) (fun ⟨u, h1, h2, _⟩ => c_98 ⟨u, h1, (fig_iff hc10 (by omega)).mpr h2⟩)) (by omega)) (hP.sub [2, 0, 1, 3] rfl) (hD.sub [2, 0, 1, 3] (by decide) rfl) hS dX10_readSlip_111
        · skip
          have c_98 := bI_f c_98
          obtain ⟨u, hu, huw⟩ := Classical.not_not.mp c_98
          have huc := (fig_iff hc10 (by omega)).mp huw
          rw [huw] at hl
          have hle := lef_le (tn := rt) (k := kw) (u := u)
          refine lv_aload_n hx hb dX10_readSlip_101 rfl (lv_at hl 2 rfl) ?_
          refine lv_iload_n hx hb dX10_readSlip_102 rfl (lv_at hl 1 rfl) ?_
          refine lv_iload_n hx hb dX10_readSlip_103 rfl (lv_at hl 0 rfl) ?_
          refine aft_i (wr := [(g 1, .inl (cI, 64, .inl (fun i9 => nI (tx i9)))), (g 10, .inl (cI, 7, .inl (fun i9 => nI (rd i9))))]) (va_runV (As := [.int (nI kw), .int (nI u)]) (rest := []) ⟨hx, hb, hml, hown, hts⟩ (c_X10_left (g := g) (ts := ts) (pl := pl + 1) (rk := rk) (sl := sl) (rr := rr) (rs := rs) (ac := ac) (tc := tc) (sd := sd) (td9 := td9) (rt := rt) (k := kw) (u := u) (hk := by omega) (hu := hu) (hrt := f2) (hs := f1 _ _ (by omega) hu) _) (cwV 2 hts gX10_readSlip_X10_left rfl rfl rfl (by decide +kernel) ⟨Nat.le_of_ble_eq_true rfl, Nat.le_of_ble_eq_true rfl⟩) (preV (cq := (RX10, TX10, 31)) (q0 := 2) (ci := 10) hK hP hD [2, 3] rfl rfl rfl rfl) rfl rfl hl.1 rfl (lv_room (Nat.le_of_ble_eq_true rfl)) dX10_readSlip_104 ⟨Nat.le_of_ble_eq_true rfl, Nat.le_of_ble_eq_true rfl⟩) hP hD hS hA [2, 3] [0, 1] rfl rfl rfl (by decide) (fun r_104 uu9 H locs hw hP hD hS => ?_)
          have hP : va_P G vwCl [(g 1, .inl (cI, 64, .inl (fun i9 => nI (tx i9)))), (g 10, .inl (cI, 7, .inl (fun i9 => nI (rd i9)))), (g 0, .inr (10, [.int (nI 0), .ref (g 1), .int (nI ts), .int (nI (pl + 1)), .int (nI rk), .ref (g 5), .int (nI sl), .ref (g 7), .int (nI rr), .int (nI rs), .ref (g 10), .ref (g 11), .ref (g 12), .long sd, .ref (g 14), .ref (g 15), .int (nI ac), .ref (g 17), .ref (g 18), .ref (g 19), .int (nI tc), .ref (g 21), .ref (g 22), .ref (g 23), .ref (g 24), .long td9, .ref (g 26), .ref (g 27), .ref (g 28), .ref (g 29), .ref (g 30)])), (g 11, .inl (cI, 175, .inl (fun i9 => nI (rt i9))))] _ := hP
          have hD : va_D A [(g 1, .inl (cI, 64, .inl (fun i9 => nI (tx i9)))), (g 10, .inl (cI, 7, .inl (fun i9 => nI (rd i9)))), (g 0, .inr (10, [.int (nI 0), .ref (g 1), .int (nI ts), .int (nI (pl + 1)), .int (nI rk), .ref (g 5), .int (nI sl), .ref (g 7), .int (nI rr), .int (nI rs), .ref (g 10), .ref (g 11), .ref (g 12), .long sd, .ref (g 14), .ref (g 15), .int (nI ac), .ref (g 17), .ref (g 18), .ref (g 19), .int (nI tc), .ref (g 21), .ref (g 22), .ref (g 23), .ref (g 24), .long td9, .ref (g 26), .ref (g 27), .ref (g 28), .ref (g 29), .ref (g 30)])), (g 11, .inl (cI, 175, .inl (fun i9 => nI (rt i9))))] := hD
          obtain rfl := hw
          refine top_i (y := nI (lefN rt kw u)) rfl ?_
          refine lv_if_ne (tgt := 112) hx hb dX10_readSlip_107 (by decide) (fun c_107 => ?_) (fun c_107 => ?_)
          · skip
            have c_107 := z_neT c_107 (by omega)
            have hs5 := sl4_ok hs4 (by omega) hu huc (by omega)
            refine lv_aload_n hx hb dX10_readSlip_112 rfl (lv_at hl 2 rfl) ?_
            refine lv_dup hx hb dX10_readSlip_113 rfl ?_
            refine va_get (D := G) (ci := 10) (v := .int (nI (pl + 1))) (C := RX10) (T := TX10) (N := 31) hx hb hts hin10 hown hK.1 hP 2 rfl rfl 3 (by decide) k_0 (fun _ h9 => h9) rfl dX10_readSlip_114 ?_
            refine lv_iconst (v := nI 1) hx hb dX10_readSlip_117 (by decide) ?_
            refine lv_iadd hx hb dX10_readSlip_118 ?_
            refine top_i (y := nI ((pl + 1) + 1)) (nI_add _ _) ?_
            refine va_put (D := G) (ci := 10) (v := .int (nI ((pl + 1) + 1))) (ty := tyX10 3) (C := RX10) (T := TX10) (N := 31) hx hb hts hin10 tyX10 tyX10_ok nmX10 hown hK.1 hP hD hS 2 rfl rfl 3 (by decide) k_0 (fun _ h9 => h9) rfl (by decide +kernel) rfl rfl (Nat.le_of_ble_eq_true rfl) dX10_readSlip_119 (fun H locs hP hD hS => ?_)
            have hP : va_P G vwCl [(g 1, .inl (cI, 64, .inl (fun i9 => nI (tx i9)))), (g 10, .inl (cI, 7, .inl (fun i9 => nI (rd i9)))), (g 0, .inr (10, [.int (nI 0), .ref (g 1), .int (nI ts), .int (nI ((pl + 1) + 1)), .int (nI rk), .ref (g 5), .int (nI sl), .ref (g 7), .int (nI rr), .int (nI rs), .ref (g 10), .ref (g 11), .ref (g 12), .long sd, .ref (g 14), .ref (g 15), .int (nI ac), .ref (g 17), .ref (g 18), .ref (g 19), .int (nI tc), .ref (g 21), .ref (g 22), .ref (g 23), .ref (g 24), .long td9, .ref (g 26), .ref (g 27), .ref (g 28), .ref (g 29), .ref (g 30)])), (g 11, .inl (cI, 175, .inl (fun i9 => nI (rt i9))))] _ := hP
            have hD : va_D A [(g 1, .inl (cI, 64, .inl (fun i9 => nI (tx i9)))), (g 10, .inl (cI, 7, .inl (fun i9 => nI (rd i9)))), (g 0, .inr (10, [.int (nI 0), .ref (g 1), .int (nI ts), .int (nI ((pl + 1) + 1)), .int (nI rk), .ref (g 5), .int (nI sl), .ref (g 7), .int (nI rr), .int (nI rs), .ref (g 10), .ref (g 11), .ref (g 12), .long sd, .ref (g 14), .ref (g 15), .int (nI ac), .ref (g 17), .ref (g 18), .ref (g 19), .int (nI tc), .ref (g 21), .ref (g 22), .ref (g 23), .ref (g 24), .long td9, .ref (g 26), .ref (g 27), .ref (g 28), .ref (g 29), .ref (g 30)])), (g 11, .inl (cI, 175, .inl (fun i9 => nI (rt i9))))] := hD
            refine lv_aload_n hx hb dX10_readSlip_122 rfl (lv_at hl 2 rfl) ?_
            refine va_get (D := G) (ci := 10) (v := .int (nI ((pl + 1) + 1))) (C := RX10) (T := TX10) (N := 31) hx hb hts hin10 hown hK.1 hP 2 rfl rfl 3 (by decide) k_0 (fun _ h9 => h9) rfl dX10_readSlip_123 ?_
            refine lv_aload_n hx hb dX10_readSlip_126 rfl (lv_at hl 2 rfl) ?_
            refine va_get (D := G) (ci := 10) (v := .int (nI ts)) (C := RX10) (T := TX10) (N := 31) hx hb hts hin10 hown hK.1 hP 2 rfl rfl 2 (by decide) k_1 (fun _ h9 => h9) rfl dX10_readSlip_127 ?_
            refine lv_icmp_ge (tgt := 148) hx hb dX10_readSlip_130 (by decide) (fun c_130 => ?_) (fun c_130 => ?_)
            · skip
              have c_130 := n_geT c_130 (by omega) (by omega)
              refine lv_bipush (v := (-9)) hx hb dX10_readSlip_148 (by decide) ?_
              refine top_i (y := (-9 : Int32)) (rfl) ?_
              refine lv_istore_n (lv' := [(3, .int (-9 : Int32)), (2, .int (nI u)), (1, .int (nI kw)), (0, .ref (g 0))]) hx hb dX10_readSlip_150 rfl hl (by decide) rfl (fun ls hl => ?_)
              refine lv_iload_n hx hb dX10_readSlip_151 rfl (lv_at hl 0 rfl) ?_
              refine aft_i (wr := [(g 1, .inl (cI, 64, .inl (fun i9 => nI (tx i9)))), (g 10, .inl (cI, 7, .inl (fun i9 => nI (rd i9)))), (g 0, .inr (10, [.int (nI 0), .ref (g 1), .int (nI ts), .int (nI ((pl + 1) + 1)), .int (nI rk), .ref (g 5), .int (nI sl), .ref (g 7), .int (nI rr), .int (nI rs), .ref (g 10), .ref (g 11), .ref (g 12), .long sd, .ref (g 14), .ref (g 15), .int (nI ac), .ref (g 17), .ref (g 18), .ref (g 19), .int (nI tc), .ref (g 21), .ref (g 22), .ref (g 23), .ref (g 24), .long td9, .ref (g 26), .ref (g 27), .ref (g 28), .ref (g 29), .ref (g 30)])), (g 11, .inl (cI, 175, .inl (fun i9 => nI (rt i9))))]) (va_runS (As := [.int (-9 : Int32)]) (rest := []) ⟨hx, hb, hml, hown, hts⟩ (c_X10_noOrder (r := (-9 : Int32)) _) (va_cwS 1 hts gX10_readSlip_X10_noOrder rfl rfl rfl (by decide +kernel) ⟨Nat.le_of_ble_eq_true rfl, Nat.le_of_ble_eq_true rfl⟩) (preS hK hP hD [] rfl rfl) rfl rfl hl.1 rfl (lv_room (Nat.le_of_ble_eq_true rfl)) dX10_readSlip_152 ⟨Nat.le_of_ble_eq_true rfl, Nat.le_of_ble_eq_true rfl⟩) hP hD hS hA [] [0, 1, 2, 3] rfl rfl rfl (by decide) (fun r_152 uu9 H locs hw hP hD hS => ?_)
              have hP : va_P G vwCl [(g 1, .inl (cI, 64, .inl (fun i9 => nI (tx i9)))), (g 10, .inl (cI, 7, .inl (fun i9 => nI (rd i9)))), (g 0, .inr (10, [.int (nI 0), .ref (g 1), .int (nI ts), .int (nI ((pl + 1) + 1)), .int (nI rk), .ref (g 5), .int (nI sl), .ref (g 7), .int (nI rr), .int (nI rs), .ref (g 10), .ref (g 11), .ref (g 12), .long sd, .ref (g 14), .ref (g 15), .int (nI ac), .ref (g 17), .ref (g 18), .ref (g 19), .int (nI tc), .ref (g 21), .ref (g 22), .ref (g 23), .ref (g 24), .long td9, .ref (g 26), .ref (g 27), .ref (g 28), .ref (g 29), .ref (g 30)])), (g 11, .inl (cI, 175, .inl (fun i9 => nI (rt i9))))] _ := hP
              have hD : va_D A [(g 1, .inl (cI, 64, .inl (fun i9 => nI (tx i9)))), (g 10, .inl (cI, 7, .inl (fun i9 => nI (rd i9)))), (g 0, .inr (10, [.int (nI 0), .ref (g 1), .int (nI ts), .int (nI ((pl + 1) + 1)), .int (nI rk), .ref (g 5), .int (nI sl), .ref (g 7), .int (nI rr), .int (nI rs), .ref (g 10), .ref (g 11), .ref (g 12), .long sd, .ref (g 14), .ref (g 15), .int (nI ac), .ref (g 17), .ref (g 18), .ref (g 19), .int (nI tc), .ref (g 21), .ref (g 22), .ref (g 23), .ref (g 24), .long td9, .ref (g 26), .ref (g 27), .ref (g 28), .ref (g 29), .ref (g 30)])), (g 11, .inl (cI, 175, .inl (fun i9 => nI (rt i9))))] := hD
              obtain rfl := hw
              refine top_i (y := bI (¬ isR 5 (-9 : Int32))) rfl ?_
              refine lv_if_ne (tgt := 181) hx hb dX10_readSlip_155 (by decide) (fun c_155 => ?_) (fun c_155 => ?_)
              · skip
                have c_155 := bI_t c_155
                refine lv_iconst (v := nI 0) hx hb dX10_readSlip_181 (by decide) ?_
                exact endZ hx hb hr hlocks (rfl) ((pl + 1 + 1, rr, rs, rd, rt)) (PaP_f (sl_end hs5 (by omega) (by decide)) (by omega)) (hP.sub [2, 0, 1, 3] rfl) (hD.sub [2, 0, 1, 3] (by decide) rfl) hS dX10_readSlip_182
              · skip
                have c_155 := bI_f c_155
                exact absurd nr9 c_155
            · skip
              have c_130 := n_geF c_130 (by omega) (by omega)
              have hc11 := htx (pl + 1 + 1) (by omega)
              refine lv_aload_n hx hb dX10_readSlip_133 rfl (lv_at hl 2 rfl) ?_
              refine va_get (D := G) (ci := 10) (v := .ref (g 1)) (C := RX10) (T := TX10) (N := 31) hx hb hts hin10 hown hK.1 hP 2 rfl rfl 1 (by decide) k_3 (fun _ h9 => h9) rfl dX10_readSlip_134 ?_
              refine lv_aload_n hx hb dX10_readSlip_137 rfl (lv_at hl 2 rfl) ?_
              refine va_get (D := G) (ci := 10) (v := .int (nI ((pl + 1) + 1))) (C := RX10) (T := TX10) (N := 31) hx hb hts hin10 hown hK.1 hP 2 rfl rfl 3 (by decide) k_0 (fun _ h9 => h9) rfl dX10_readSlip_138 ?_
              refine ald hx hb hK hP 0 0 rfl rfl (j := (pl + 1) + 1) (by omega) (by omega) dX10_readSlip_141 ?_
              refine lv_bipush (v := nI 48) hx hb dX10_readSlip_142 (by decide) ?_
              refine lv_isub hx hb dX10_readSlip_144 ?_
              refine lv_goto (tgt := 150) hx hb dX10_readSlip_145 (by decide) ?_
              refine lv_istore_n (lv' := [(3, .int ((nI (tx ((pl + 1) + 1))) - (nI 48))), (2, .int (nI u)), (1, .int (nI kw)), (0, .ref (g 0))]) hx hb dX10_readSlip_150 rfl hl (by decide) rfl (fun ls hl => ?_)
              refine lv_iload_n hx hb dX10_readSlip_151 rfl (lv_at hl 0 rfl) ?_
              refine aft_i (wr := [(g 1, .inl (cI, 64, .inl (fun i9 => nI (tx i9)))), (g 10, .inl (cI, 7, .inl (fun i9 => nI (rd i9)))), (g 0, .inr (10, [.int (nI 0), .ref (g 1), .int (nI ts), .int (nI ((pl + 1) + 1)), .int (nI rk), .ref (g 5), .int (nI sl), .ref (g 7), .int (nI rr), .int (nI rs), .ref (g 10), .ref (g 11), .ref (g 12), .long sd, .ref (g 14), .ref (g 15), .int (nI ac), .ref (g 17), .ref (g 18), .ref (g 19), .int (nI tc), .ref (g 21), .ref (g 22), .ref (g 23), .ref (g 24), .long td9, .ref (g 26), .ref (g 27), .ref (g 28), .ref (g 29), .ref (g 30)])), (g 11, .inl (cI, 175, .inl (fun i9 => nI (rt i9))))]) (va_runS (As := [.int ((nI (tx ((pl + 1) + 1))) - (nI 48))]) (rest := []) ⟨hx, hb, hml, hown, hts⟩ (c_X10_noOrder (r := (nI (tx ((pl + 1) + 1))) - (nI 48)) _) (va_cwS 1 hts gX10_readSlip_X10_noOrder rfl rfl rfl (by decide +kernel) ⟨Nat.le_of_ble_eq_true rfl, Nat.le_of_ble_eq_true rfl⟩) (preS hK hP hD [] rfl rfl) rfl rfl hl.1 rfl (lv_room (Nat.le_of_ble_eq_true rfl)) dX10_readSlip_152 ⟨Nat.le_of_ble_eq_true rfl, Nat.le_of_ble_eq_true rfl⟩) hP hD hS hA [] [0, 1, 2, 3] rfl rfl rfl (by decide) (fun r_152 uu9 H locs hw hP hD hS => ?_)
              have hP : va_P G vwCl [(g 1, .inl (cI, 64, .inl (fun i9 => nI (tx i9)))), (g 10, .inl (cI, 7, .inl (fun i9 => nI (rd i9)))), (g 0, .inr (10, [.int (nI 0), .ref (g 1), .int (nI ts), .int (nI ((pl + 1) + 1)), .int (nI rk), .ref (g 5), .int (nI sl), .ref (g 7), .int (nI rr), .int (nI rs), .ref (g 10), .ref (g 11), .ref (g 12), .long sd, .ref (g 14), .ref (g 15), .int (nI ac), .ref (g 17), .ref (g 18), .ref (g 19), .int (nI tc), .ref (g 21), .ref (g 22), .ref (g 23), .ref (g 24), .long td9, .ref (g 26), .ref (g 27), .ref (g 28), .ref (g 29), .ref (g 30)])), (g 11, .inl (cI, 175, .inl (fun i9 => nI (rt i9))))] _ := hP
              have hD : va_D A [(g 1, .inl (cI, 64, .inl (fun i9 => nI (tx i9)))), (g 10, .inl (cI, 7, .inl (fun i9 => nI (rd i9)))), (g 0, .inr (10, [.int (nI 0), .ref (g 1), .int (nI ts), .int (nI ((pl + 1) + 1)), .int (nI rk), .ref (g 5), .int (nI sl), .ref (g 7), .int (nI rr), .int (nI rs), .ref (g 10), .ref (g 11), .ref (g 12), .long sd, .ref (g 14), .ref (g 15), .int (nI ac), .ref (g 17), .ref (g 18), .ref (g 19), .int (nI tc), .ref (g 21), .ref (g 22), .ref (g 23), .ref (g 24), .long td9, .ref (g 26), .ref (g 27), .ref (g 28), .ref (g 29), .ref (g 30)])), (g 11, .inl (cI, 175, .inl (fun i9 => nI (rt i9))))] := hD
              obtain rfl := hw
              refine top_i (y := bI (¬ isR 5 ((nI (tx ((pl + 1) + 1))) - (nI 48)))) rfl ?_
              refine lv_if_ne (tgt := 181) hx hb dX10_readSlip_155 (by decide) (fun c_155 => ?_) (fun c_155 => ?_)
              · skip
                have c_155 := bI_t c_155
                refine lv_iconst (v := nI 0) hx hb dX10_readSlip_181 (by decide) ?_
                exact endZ hx hb hr hlocks (rfl) ((pl + 1 + 1, rr, rs, rd, rt)) (PaP_f (sl5_no hs5 (by omega) (by omega) hu (fun ⟨v, h1, h2, _⟩ => c_155 ⟨v, h1, (fig_iff hc11 (by omega)).mpr h2⟩)) (by omega)) (hP.sub [2, 0, 1, 3] rfl) (hD.sub [2, 0, 1, 3] (by decide) rfl) hS dX10_readSlip_182
              · skip
                have c_155 := bI_f c_155
                obtain ⟨v, hv, hvw⟩ := Classical.not_not.mp c_155
                have hvc := (fig_iff hc11 (by omega)).mp hvw
                rw [hvw] at hl
                refine lv_iload_n hx hb dX10_readSlip_158 rfl (lv_at hl 1 rfl) ?_
                refine lv_iload_n hx hb dX10_readSlip_159 rfl (lv_at hl 0 rfl) ?_
                refine lv_icmp_eq (tgt := 181) hx hb dX10_readSlip_160 (by decide) (fun c_160 => ?_) (fun c_160 => ?_)
                · skip
                  have c_160 := n_eqT c_160 (by omega) (by omega)
                  refine lv_iconst (v := nI 0) hx hb dX10_readSlip_181 (by decide) ?_
                  exact endZ hx hb hr hlocks (rfl) ((pl + 1 + 1, rr, rs, rd, rt)) (PaP_f (sl5_no hs5 (by omega) (by omega) hu (fun ⟨v2, h1, h2, h3, _⟩ => h3 (by omega))) (by omega)) (hP.sub [2, 0, 1, 3] rfl) (hD.sub [2, 0, 1, 3] (by decide) rfl) hS dX10_readSlip_182
                · skip
                  have c_160 := n_eqF c_160 (by omega) (by omega)
                  refine lv_aload_n hx hb dX10_readSlip_163 rfl (lv_at hl 3 rfl) ?_
                  refine va_get (D := G) (ci := 10) (v := .ref (g 11)) (C := RX10) (T := TX10) (N := 31) hx hb hts hin10 hown hK.1 hP 2 rfl rfl 11 (by decide) k_4 (fun _ h9 => h9) rfl dX10_readSlip_164 ?_
                  refine lv_bipush (v := nI 25) hx hb dX10_readSlip_167 (by decide) ?_
                  refine lv_iload_n hx hb dX10_readSlip_169 rfl (lv_at hl 2 rfl) ?_
                  refine lv_imul hx hb dX10_readSlip_170 ?_
                  refine top_i (y := nI (25 * kw)) (pk_mul _ _) ?_
                  refine lv_iconst (v := nI 5) hx hb dX10_readSlip_171 (by decide) ?_
                  refine lv_iload_n hx hb dX10_readSlip_172 rfl (lv_at hl 1 rfl) ?_
                  refine lv_imul hx hb dX10_readSlip_173 ?_
                  refine top_i (y := nI (5 * u)) (pk_mul _ _) ?_
                  refine lv_iadd hx hb dX10_readSlip_174 ?_
                  refine top_i (y := nI (25 * kw + (5 * u))) (nI_add _ _) ?_
                  refine lv_iload_n hx hb dX10_readSlip_175 rfl (lv_at hl 0 rfl) ?_
                  refine lv_iadd hx hb dX10_readSlip_176 ?_
                  refine top_i (y := nI (25 * kw + (5 * u) + v)) (nI_add _ _) ?_
                  refine ald hx hb hK hP 3 0 rfl rfl (j := 25 * kw + (5 * u) + v) (by omega) (by omega) dX10_readSlip_177 ?_
                  refine top_i (y := nI (slT rt kw u v)) (by rw [slT, show (kw * 5 + u) * 5 + v = 25 * kw + 5 * u + v by omega]) ?_
                  have hx9 : slT rt kw u v < 10 := f2 _ (by omega)
                  refine lv_if_le (tgt := 183) hx hb dX10_readSlip_178 (by decide) (fun c_178 => ?_) (fun c_178 => ?_)
                  · skip
                    have c_178 := z_leT c_178 (by omega)
                    have hs6 := sl5_ok hs5 (by omega) hu hv hvc (fun z => c_160 z.symm) c_178
                    refine lv_aload_n hx hb dX10_readSlip_183 rfl (lv_at hl 3 rfl) ?_
                    refine lv_dup hx hb dX10_readSlip_184 rfl ?_
                    refine va_get (D := G) (ci := 10) (v := .int (nI ((pl + 1) + 1))) (C := RX10) (T := TX10) (N := 31) hx hb hts hin10 hown hK.1 hP 2 rfl rfl 3 (by decide) k_0 (fun _ h9 => h9) rfl dX10_readSlip_185 ?_
                    refine lv_iconst (v := nI 1) hx hb dX10_readSlip_188 (by decide) ?_
                    refine lv_iadd hx hb dX10_readSlip_189 ?_
                    refine top_i (y := nI ((pl + 1) + 1 + 1)) (nI_add _ _) ?_
                    refine va_put (D := G) (ci := 10) (v := .int (nI ((pl + 1) + 1 + 1))) (ty := tyX10 3) (C := RX10) (T := TX10) (N := 31) hx hb hts hin10 tyX10 tyX10_ok nmX10 hown hK.1 hP hD hS 2 rfl rfl 3 (by decide) k_0 (fun _ h9 => h9) rfl (by decide +kernel) rfl rfl (Nat.le_of_ble_eq_true rfl) dX10_readSlip_190 (fun H locs hP hD hS => ?_)
                    have hP : va_P G vwCl [(g 1, .inl (cI, 64, .inl (fun i9 => nI (tx i9)))), (g 10, .inl (cI, 7, .inl (fun i9 => nI (rd i9)))), (g 0, .inr (10, [.int (nI 0), .ref (g 1), .int (nI ts), .int (nI ((pl + 1) + 1 + 1)), .int (nI rk), .ref (g 5), .int (nI sl), .ref (g 7), .int (nI rr), .int (nI rs), .ref (g 10), .ref (g 11), .ref (g 12), .long sd, .ref (g 14), .ref (g 15), .int (nI ac), .ref (g 17), .ref (g 18), .ref (g 19), .int (nI tc), .ref (g 21), .ref (g 22), .ref (g 23), .ref (g 24), .long td9, .ref (g 26), .ref (g 27), .ref (g 28), .ref (g 29), .ref (g 30)])), (g 11, .inl (cI, 175, .inl (fun i9 => nI (rt i9))))] _ := hP
                    have hD : va_D A [(g 1, .inl (cI, 64, .inl (fun i9 => nI (tx i9)))), (g 10, .inl (cI, 7, .inl (fun i9 => nI (rd i9)))), (g 0, .inr (10, [.int (nI 0), .ref (g 1), .int (nI ts), .int (nI ((pl + 1) + 1 + 1)), .int (nI rk), .ref (g 5), .int (nI sl), .ref (g 7), .int (nI rr), .int (nI rs), .ref (g 10), .ref (g 11), .ref (g 12), .long sd, .ref (g 14), .ref (g 15), .int (nI ac), .ref (g 17), .ref (g 18), .ref (g 19), .int (nI tc), .ref (g 21), .ref (g 22), .ref (g 23), .ref (g 24), .long td9, .ref (g 26), .ref (g 27), .ref (g 28), .ref (g 29), .ref (g 30)])), (g 11, .inl (cI, 175, .inl (fun i9 => nI (rt i9))))] := hD
                    refine lv_aload_n hx hb dX10_readSlip_193 rfl (lv_at hl 3 rfl) ?_
                    refine lv_iload_n hx hb dX10_readSlip_194 rfl (lv_at hl 2 rfl) ?_
                    refine lv_iload_n hx hb dX10_readSlip_195 rfl (lv_at hl 1 rfl) ?_
                    refine aft_i (wr := [(g 1, .inl (cI, 64, .inl (fun i9 => nI (tx i9)))), (g 10, .inl (cI, 7, .inl (fun i9 => nI (rd i9))))]) (va_runV (As := [.int (nI kw), .int (nI u)]) (rest := []) ⟨hx, hb, hml, hown, hts⟩ (c_X10_left (g := g) (ts := ts) (pl := (pl + 1) + 1 + 1) (rk := rk) (sl := sl) (rr := rr) (rs := rs) (ac := ac) (tc := tc) (sd := sd) (td9 := td9) (rt := rt) (k := kw) (u := u) (hk := by omega) (hu := hu) (hrt := f2) (hs := f1 _ _ (by omega) hu) _) (cwV 2 hts gX10_readSlip_X10_left rfl rfl rfl (by decide +kernel) ⟨Nat.le_of_ble_eq_true rfl, Nat.le_of_ble_eq_true rfl⟩) (preV (cq := (RX10, TX10, 31)) (q0 := 2) (ci := 10) hK hP hD [2, 3] rfl rfl rfl rfl) rfl rfl hl.1 rfl (lv_room (Nat.le_of_ble_eq_true rfl)) dX10_readSlip_196 ⟨Nat.le_of_ble_eq_true rfl, Nat.le_of_ble_eq_true rfl⟩) hP hD hS hA [2, 3] [0, 1] rfl rfl rfl (by decide) (fun r_196 uu9 H locs hw hP hD hS => ?_)
                    have hP : va_P G vwCl [(g 1, .inl (cI, 64, .inl (fun i9 => nI (tx i9)))), (g 10, .inl (cI, 7, .inl (fun i9 => nI (rd i9)))), (g 0, .inr (10, [.int (nI 0), .ref (g 1), .int (nI ts), .int (nI ((pl + 1) + 1 + 1)), .int (nI rk), .ref (g 5), .int (nI sl), .ref (g 7), .int (nI rr), .int (nI rs), .ref (g 10), .ref (g 11), .ref (g 12), .long sd, .ref (g 14), .ref (g 15), .int (nI ac), .ref (g 17), .ref (g 18), .ref (g 19), .int (nI tc), .ref (g 21), .ref (g 22), .ref (g 23), .ref (g 24), .long td9, .ref (g 26), .ref (g 27), .ref (g 28), .ref (g 29), .ref (g 30)])), (g 11, .inl (cI, 175, .inl (fun i9 => nI (rt i9))))] _ := hP
                    have hD : va_D A [(g 1, .inl (cI, 64, .inl (fun i9 => nI (tx i9)))), (g 10, .inl (cI, 7, .inl (fun i9 => nI (rd i9)))), (g 0, .inr (10, [.int (nI 0), .ref (g 1), .int (nI ts), .int (nI ((pl + 1) + 1 + 1)), .int (nI rk), .ref (g 5), .int (nI sl), .ref (g 7), .int (nI rr), .int (nI rs), .ref (g 10), .ref (g 11), .ref (g 12), .long sd, .ref (g 14), .ref (g 15), .int (nI ac), .ref (g 17), .ref (g 18), .ref (g 19), .int (nI tc), .ref (g 21), .ref (g 22), .ref (g 23), .ref (g 24), .long td9, .ref (g 26), .ref (g 27), .ref (g 28), .ref (g 29), .ref (g 30)])), (g 11, .inl (cI, 175, .inl (fun i9 => nI (rt i9))))] := hD
                    obtain rfl := hw
                    refine top_i (y := nI (lefN rt kw u)) rfl ?_
                    refine lv_istore (lv' := [(4, .int (nI (lefN rt kw u))), (3, .int (nI v)), (2, .int (nI u)), (1, .int (nI kw)), (0, .ref (g 0))]) hx hb dX10_readSlip_199 hl (by decide) rfl (fun ls hl => ?_)
                    refine lv_aload_n hx hb dX10_readSlip_201 rfl (lv_at hl 4 rfl) ?_
                    refine lv_iconst (v := nI 1) hx hb dX10_readSlip_202 (by decide) ?_
                    refine lv_iload hx hb dX10_readSlip_203 (lv_at hl 0 rfl) ?_
                    refine lv_bipush (v := nI 9) hx hb dX10_readSlip_205 (by decide) ?_
                    refine lv_icmp_le (tgt := 215) hx hb dX10_readSlip_207 (by decide) (fun c_207 => ?_) (fun c_207 => ?_)
                    · skip
                      have c_207 := n_leT c_207 (by omega) (by omega)
                      refine lv_iload hx hb dX10_readSlip_215 (lv_at hl 0 rfl) ?_
                      refine top_i (y := nI (mn9 (lefN rt kw u))) (by rw [mn9, if_neg (by omega)]) ?_
                      refine aft_i (wr := [(g 10, .inl (cI, 7, .inl (fun i9 => nI (rd i9)))), (g 11, .inl (cI, 175, .inl (fun i9 => nI (rt i9))))]) (va_runV (As := [.int (nI 1), .int (nI (mn9 (lefN rt kw u)))]) (rest := []) ⟨hx, hb, hml, hown, hts⟩ (c_X10_figure (g := g) (ts := ts) (pl := ((pl + 1) + 1 + 1)) (rk := rk) (sl := sl) (rr := rr) (rs := rs) (ac := ac) (tc := tc) (sd := sd) (td9 := td9) (tx := tx) (a := 1) (b := mn9 (lefN rt kw u)) (hpl := by omega) (hts := by first | assumption | omega | exact hok.1 _ (by omega) | exact hok.2.2 _ _ (by omega) (by omega) | exact hok.2.1) (htx := by first | assumption | omega | exact hok.1 _ (by omega) | exact hok.2.2 _ _ (by omega) (by omega) | exact hok.2.1) (ha := by decide) (hb9 := by unfold mn9; split <;> omega) _) (cwV 2 hts gX10_readSlip_X10_figure rfl rfl rfl (by decide +kernel) ⟨Nat.le_of_ble_eq_true rfl, Nat.le_of_ble_eq_true rfl⟩) (preV (cq := (RX10, TX10, 31)) (q0 := 2) (ci := 10) hK hP hD [2, 0] rfl rfl rfl rfl) rfl rfl hl.1 rfl (lv_room (Nat.le_of_ble_eq_true rfl)) dX10_readSlip_217 ⟨Nat.le_of_ble_eq_true rfl, Nat.le_of_ble_eq_true rfl⟩) hP hD hS hA [2, 0] [1, 3] rfl rfl rfl (by decide) (fun r_217 uu9 H locs hw hP hD hS => ?_)
                      obtain ⟨p1_217, rfl⟩ : ∃ z, z = uu9 := ⟨_, rfl⟩
                      have hP : va_P G vwCl [(g 10, .inl (cI, 7, .inl (fun i9 => nI (rd i9)))), (g 11, .inl (cI, 175, .inl (fun i9 => nI (rt i9)))), (g 0, .inr (10, [.int (nI 0), .ref (g 1), .int (nI ts), .int (nI p1_217), .int (nI rk), .ref (g 5), .int (nI sl), .ref (g 7), .int (nI rr), .int (nI rs), .ref (g 10), .ref (g 11), .ref (g 12), .long sd, .ref (g 14), .ref (g 15), .int (nI ac), .ref (g 17), .ref (g 18), .ref (g 19), .int (nI tc), .ref (g 21), .ref (g 22), .ref (g 23), .ref (g 24), .long td9, .ref (g 26), .ref (g 27), .ref (g 28), .ref (g 29), .ref (g 30)])), (g 1, .inl (cI, 64, .inl (fun i9 => nI (tx i9))))] _ := hP
                      have hD : va_D A [(g 10, .inl (cI, 7, .inl (fun i9 => nI (rd i9)))), (g 11, .inl (cI, 175, .inl (fun i9 => nI (rt i9)))), (g 0, .inr (10, [.int (nI 0), .ref (g 1), .int (nI ts), .int (nI p1_217), .int (nI rk), .ref (g 5), .int (nI sl), .ref (g 7), .int (nI rr), .int (nI rs), .ref (g 10), .ref (g 11), .ref (g 12), .long sd, .ref (g 14), .ref (g 15), .int (nI ac), .ref (g 17), .ref (g 18), .ref (g 19), .int (nI tc), .ref (g 21), .ref (g 22), .ref (g 23), .ref (g 24), .long td9, .ref (g 26), .ref (g 27), .ref (g 28), .ref (g 29), .ref (g 30)])), (g 1, .inl (cI, 64, .inl (fun i9 => nI (tx i9))))] := hD
                      have hw_217 := hw
                      have hw_217 : FgP tx ts ((pl + 1) + 1 + 1) 1 (mn9 (lefN rt kw u)) p1_217 r_217 := hw_217
                      refine lv_istore (lv' := [(5, .int r_217), (4, .int (nI (lefN rt kw u))), (3, .int (nI v)), (2, .int (nI u)), (1, .int (nI kw)), (0, .ref (g 0))]) hx hb dX10_readSlip_220 hl (by decide) rfl (fun ls hl => ?_)
                      refine lv_iload hx hb dX10_readSlip_222 (lv_at hl 0 rfl) ?_
                      refine lv_bipush (v := (-9)) hx hb dX10_readSlip_224 (by decide) ?_
                      refine lv_icmp_ne (tgt := 231) hx hb dX10_readSlip_226 (by decide) (fun c_226 => ?_) (fun c_226 => ?_)
                      · skip
                        obtain ⟨t, ht0, ht1, hrt9, hpq, htc⟩ := FgP_t hw_217 c_226
                        subst hrt9 hpq
                        refine lv_aload_n hx hb dX10_readSlip_231 rfl (lv_at hl 5 rfl) ?_
                        refine va_get (D := G) (ci := 10) (v := .ref (g 11)) (C := RX10) (T := TX10) (N := 31) hx hb hts hin10 hown hK.1 hP 2 rfl rfl 11 (by decide) k_4 (fun _ h9 => h9) rfl dX10_readSlip_232 ?_
                        refine lv_bipush (v := nI 25) hx hb dX10_readSlip_235 (by decide) ?_
                        refine lv_iload_n hx hb dX10_readSlip_237 rfl (lv_at hl 4 rfl) ?_
                        refine lv_imul hx hb dX10_readSlip_238 ?_
                        refine top_i (y := nI (25 * kw)) (pk_mul _ _) ?_
                        refine lv_iconst (v := nI 5) hx hb dX10_readSlip_239 (by decide) ?_
                        refine lv_iload_n hx hb dX10_readSlip_240 rfl (lv_at hl 3 rfl) ?_
                        refine lv_imul hx hb dX10_readSlip_241 ?_
                        refine top_i (y := nI (5 * u)) (pk_mul _ _) ?_
                        refine lv_iadd hx hb dX10_readSlip_242 ?_
                        refine top_i (y := nI (25 * kw + (5 * u))) (nI_add _ _) ?_
                        refine lv_iload_n hx hb dX10_readSlip_243 rfl (lv_at hl 2 rfl) ?_
                        refine lv_iadd hx hb dX10_readSlip_244 ?_
                        refine top_i (y := nI (25 * kw + (5 * u) + v)) (nI_add _ _) ?_
                        refine lv_iload hx hb dX10_readSlip_245 (lv_at hl 0 rfl) ?_
                        refine ast (f' := fun i9 => nI ((va_up rt (25 * kw + (5 * u) + v) t) i9)) hx hb hK hP hD hS 1 0 rfl rfl (j := 25 * kw + (5 * u) + v) (by omega) (by omega) (upd_nat) dX10_readSlip_247 (fun H locs hP hD hS => ?_)
                        have hP : va_P G vwCl [(g 10, .inl (cI, 7, .inl (fun i9 => nI (rd i9)))), (g 11, .inl (cI, 175, .inl (fun i9 => nI ((va_up rt (25 * kw + (5 * u) + v) t) i9)))), (g 0, .inr (10, [.int (nI 0), .ref (g 1), .int (nI ts), .int (nI (pl + 1 + 1 + 1 + 1)), .int (nI rk), .ref (g 5), .int (nI sl), .ref (g 7), .int (nI rr), .int (nI rs), .ref (g 10), .ref (g 11), .ref (g 12), .long sd, .ref (g 14), .ref (g 15), .int (nI ac), .ref (g 17), .ref (g 18), .ref (g 19), .int (nI tc), .ref (g 21), .ref (g 22), .ref (g 23), .ref (g 24), .long td9, .ref (g 26), .ref (g 27), .ref (g 28), .ref (g 29), .ref (g 30)])), (g 1, .inl (cI, 64, .inl (fun i9 => nI (tx i9))))] _ := hP
                        have hD : va_D A [(g 10, .inl (cI, 7, .inl (fun i9 => nI (rd i9)))), (g 11, .inl (cI, 175, .inl (fun i9 => nI ((va_up rt (25 * kw + (5 * u) + v) t) i9)))), (g 0, .inr (10, [.int (nI 0), .ref (g 1), .int (nI ts), .int (nI (pl + 1 + 1 + 1 + 1)), .int (nI rk), .ref (g 5), .int (nI sl), .ref (g 7), .int (nI rr), .int (nI rs), .ref (g 10), .ref (g 11), .ref (g 12), .long sd, .ref (g 14), .ref (g 15), .int (nI ac), .ref (g 17), .ref (g 18), .ref (g 19), .int (nI tc), .ref (g 21), .ref (g 22), .ref (g 23), .ref (g 24), .long td9, .ref (g 26), .ref (g 27), .ref (g 28), .ref (g 29), .ref (g 30)])), (g 1, .inl (cI, 64, .inl (fun i9 => nI (tx i9))))] := hD
                        refine lv_aload_n hx hb dX10_readSlip_248 rfl (lv_at hl 5 rfl) ?_
                        refine lv_dup hx hb dX10_readSlip_249 rfl ?_
                        refine va_get (D := G) (ci := 10) (v := .int (nI rs)) (C := RX10) (T := TX10) (N := 31) hx hb hts hin10 hown hK.1 hP 2 rfl rfl 9 (by decide) k_5 (fun _ h9 => h9) rfl dX10_readSlip_250 ?_
                        refine lv_iconst (v := nI 1) hx hb dX10_readSlip_253 (by decide) ?_
                        refine lv_iadd hx hb dX10_readSlip_254 ?_
                        refine top_i (y := nI (rs + 1)) (nI_add _ _) ?_
                        refine va_put (D := G) (ci := 10) (v := .int (nI (rs + 1))) (ty := tyX10 9) (C := RX10) (T := TX10) (N := 31) hx hb hts hin10 tyX10 tyX10_ok nmX10 hown hK.1 hP hD hS 2 rfl rfl 9 (by decide) k_5 (fun _ h9 => h9) rfl (by decide +kernel) rfl rfl (Nat.le_of_ble_eq_true rfl) dX10_readSlip_255 (fun H locs hP hD hS => ?_)
                        have hP : va_P G vwCl [(g 10, .inl (cI, 7, .inl (fun i9 => nI (rd i9)))), (g 11, .inl (cI, 175, .inl (fun i9 => nI ((va_up rt (25 * kw + (5 * u) + v) t) i9)))), (g 0, .inr (10, [.int (nI 0), .ref (g 1), .int (nI ts), .int (nI (pl + 1 + 1 + 1 + 1)), .int (nI rk), .ref (g 5), .int (nI sl), .ref (g 7), .int (nI rr), .int (nI (rs + 1)), .ref (g 10), .ref (g 11), .ref (g 12), .long sd, .ref (g 14), .ref (g 15), .int (nI ac), .ref (g 17), .ref (g 18), .ref (g 19), .int (nI tc), .ref (g 21), .ref (g 22), .ref (g 23), .ref (g 24), .long td9, .ref (g 26), .ref (g 27), .ref (g 28), .ref (g 29), .ref (g 30)])), (g 1, .inl (cI, 64, .inl (fun i9 => nI (tx i9))))] _ := hP
                        have hD : va_D A [(g 10, .inl (cI, 7, .inl (fun i9 => nI (rd i9)))), (g 11, .inl (cI, 175, .inl (fun i9 => nI ((va_up rt (25 * kw + (5 * u) + v) t) i9)))), (g 0, .inr (10, [.int (nI 0), .ref (g 1), .int (nI ts), .int (nI (pl + 1 + 1 + 1 + 1)), .int (nI rk), .ref (g 5), .int (nI sl), .ref (g 7), .int (nI rr), .int (nI (rs + 1)), .ref (g 10), .ref (g 11), .ref (g 12), .long sd, .ref (g 14), .ref (g 15), .int (nI ac), .ref (g 17), .ref (g 18), .ref (g 19), .int (nI tc), .ref (g 21), .ref (g 22), .ref (g 23), .ref (g 24), .long td9, .ref (g 26), .ref (g 27), .ref (g 28), .ref (g 29), .ref (g 30)])), (g 1, .inl (cI, 64, .inl (fun i9 => nI (tx i9))))] := hD
                        refine lv_iconst (v := nI 1) hx hb dX10_readSlip_258 (by decide) ?_
                        exact endZ hx hb hr hlocks (rfl) ((pl + 1 + 1 + 1 + 1, rr, rs + 1, rd, va_up rt (25 * kw + 5 * u + v) t)) (sl6_ok hs6 ht0 (by omega) (by omega) hu hv (fun z => c_160 z.symm) c_178 htc ht1) (hP.sub [2, 3, 0, 1] rfl) (hD.sub [2, 3, 0, 1] (by decide) rfl) hS dX10_readSlip_259
                      · skip
                        obtain ⟨hpq, hno⟩ := FgP_9 htx hw_217 c_226 (by omega)
                        refine lv_iconst (v := nI 0) hx hb dX10_readSlip_229 (by decide) ?_
                        exact endZ hx hb hr hlocks (rfl) ((p1_217, rr, rs, rd, rt)) (PaP_f (by rw [hpq]; exact sl6_no hs6 (by omega) hu hv (fun z => c_160 z.symm) c_178 hno) (by omega)) (hP.sub [2, 3, 0, 1] rfl) (hD.sub [2, 3, 0, 1] (by decide) rfl) hS dX10_readSlip_230
                    · skip
                      have c_207 := n_leF c_207 (by omega) (by omega)
                      refine lv_bipush (v := nI 9) hx hb dX10_readSlip_210 (by decide) ?_
                      refine lv_goto (tgt := 217) hx hb dX10_readSlip_212 (by decide) ?_
                      refine top_i (y := nI (mn9 (lefN rt kw u))) (by rw [mn9, if_pos c_207]) ?_
                      refine aft_i (wr := [(g 10, .inl (cI, 7, .inl (fun i9 => nI (rd i9)))), (g 11, .inl (cI, 175, .inl (fun i9 => nI (rt i9))))]) (va_runV (As := [.int (nI 1), .int (nI (mn9 (lefN rt kw u)))]) (rest := []) ⟨hx, hb, hml, hown, hts⟩ (c_X10_figure (g := g) (ts := ts) (pl := ((pl + 1) + 1 + 1)) (rk := rk) (sl := sl) (rr := rr) (rs := rs) (ac := ac) (tc := tc) (sd := sd) (td9 := td9) (tx := tx) (a := 1) (b := mn9 (lefN rt kw u)) (hpl := by omega) (hts := by first | assumption | omega | exact hok.1 _ (by omega) | exact hok.2.2 _ _ (by omega) (by omega) | exact hok.2.1) (htx := by first | assumption | omega | exact hok.1 _ (by omega) | exact hok.2.2 _ _ (by omega) (by omega) | exact hok.2.1) (ha := by decide) (hb9 := by unfold mn9; split <;> omega) _) (cwV 2 hts gX10_readSlip_X10_figure rfl rfl rfl (by decide +kernel) ⟨Nat.le_of_ble_eq_true rfl, Nat.le_of_ble_eq_true rfl⟩) (preV (cq := (RX10, TX10, 31)) (q0 := 2) (ci := 10) hK hP hD [2, 0] rfl rfl rfl rfl) rfl rfl hl.1 rfl (lv_room (Nat.le_of_ble_eq_true rfl)) dX10_readSlip_217 ⟨Nat.le_of_ble_eq_true rfl, Nat.le_of_ble_eq_true rfl⟩) hP hD hS hA [2, 0] [1, 3] rfl rfl rfl (by decide) (fun r_217 uu9 H locs hw hP hD hS => ?_)
                      obtain ⟨p1_217, rfl⟩ : ∃ z, z = uu9 := ⟨_, rfl⟩
                      have hP : va_P G vwCl [(g 10, .inl (cI, 7, .inl (fun i9 => nI (rd i9)))), (g 11, .inl (cI, 175, .inl (fun i9 => nI (rt i9)))), (g 0, .inr (10, [.int (nI 0), .ref (g 1), .int (nI ts), .int (nI p1_217), .int (nI rk), .ref (g 5), .int (nI sl), .ref (g 7), .int (nI rr), .int (nI rs), .ref (g 10), .ref (g 11), .ref (g 12), .long sd, .ref (g 14), .ref (g 15), .int (nI ac), .ref (g 17), .ref (g 18), .ref (g 19), .int (nI tc), .ref (g 21), .ref (g 22), .ref (g 23), .ref (g 24), .long td9, .ref (g 26), .ref (g 27), .ref (g 28), .ref (g 29), .ref (g 30)])), (g 1, .inl (cI, 64, .inl (fun i9 => nI (tx i9))))] _ := hP
                      have hD : va_D A [(g 10, .inl (cI, 7, .inl (fun i9 => nI (rd i9)))), (g 11, .inl (cI, 175, .inl (fun i9 => nI (rt i9)))), (g 0, .inr (10, [.int (nI 0), .ref (g 1), .int (nI ts), .int (nI p1_217), .int (nI rk), .ref (g 5), .int (nI sl), .ref (g 7), .int (nI rr), .int (nI rs), .ref (g 10), .ref (g 11), .ref (g 12), .long sd, .ref (g 14), .ref (g 15), .int (nI ac), .ref (g 17), .ref (g 18), .ref (g 19), .int (nI tc), .ref (g 21), .ref (g 22), .ref (g 23), .ref (g 24), .long td9, .ref (g 26), .ref (g 27), .ref (g 28), .ref (g 29), .ref (g 30)])), (g 1, .inl (cI, 64, .inl (fun i9 => nI (tx i9))))] := hD
                      have hw_217 := hw
                      have hw_217 : FgP tx ts ((pl + 1) + 1 + 1) 1 (mn9 (lefN rt kw u)) p1_217 r_217 := hw_217
                      refine lv_istore (lv' := [(5, .int r_217), (4, .int (nI (lefN rt kw u))), (3, .int (nI v)), (2, .int (nI u)), (1, .int (nI kw)), (0, .ref (g 0))]) hx hb dX10_readSlip_220 hl (by decide) rfl (fun ls hl => ?_)
                      refine lv_iload hx hb dX10_readSlip_222 (lv_at hl 0 rfl) ?_
                      refine lv_bipush (v := (-9)) hx hb dX10_readSlip_224 (by decide) ?_
                      refine lv_icmp_ne (tgt := 231) hx hb dX10_readSlip_226 (by decide) (fun c_226 => ?_) (fun c_226 => ?_)
                      · skip
                        obtain ⟨t, ht0, ht1, hrt9, hpq, htc⟩ := FgP_t hw_217 c_226
                        subst hrt9 hpq
                        refine lv_aload_n hx hb dX10_readSlip_231 rfl (lv_at hl 5 rfl) ?_
                        refine va_get (D := G) (ci := 10) (v := .ref (g 11)) (C := RX10) (T := TX10) (N := 31) hx hb hts hin10 hown hK.1 hP 2 rfl rfl 11 (by decide) k_4 (fun _ h9 => h9) rfl dX10_readSlip_232 ?_
                        refine lv_bipush (v := nI 25) hx hb dX10_readSlip_235 (by decide) ?_
                        refine lv_iload_n hx hb dX10_readSlip_237 rfl (lv_at hl 4 rfl) ?_
                        refine lv_imul hx hb dX10_readSlip_238 ?_
                        refine top_i (y := nI (25 * kw)) (pk_mul _ _) ?_
                        refine lv_iconst (v := nI 5) hx hb dX10_readSlip_239 (by decide) ?_
                        refine lv_iload_n hx hb dX10_readSlip_240 rfl (lv_at hl 3 rfl) ?_
                        refine lv_imul hx hb dX10_readSlip_241 ?_
                        refine top_i (y := nI (5 * u)) (pk_mul _ _) ?_
                        refine lv_iadd hx hb dX10_readSlip_242 ?_
                        refine top_i (y := nI (25 * kw + (5 * u))) (nI_add _ _) ?_
                        refine lv_iload_n hx hb dX10_readSlip_243 rfl (lv_at hl 2 rfl) ?_
                        refine lv_iadd hx hb dX10_readSlip_244 ?_
                        refine top_i (y := nI (25 * kw + (5 * u) + v)) (nI_add _ _) ?_
                        refine lv_iload hx hb dX10_readSlip_245 (lv_at hl 0 rfl) ?_
                        refine ast (f' := fun i9 => nI ((va_up rt (25 * kw + (5 * u) + v) t) i9)) hx hb hK hP hD hS 1 0 rfl rfl (j := 25 * kw + (5 * u) + v) (by omega) (by omega) (upd_nat) dX10_readSlip_247 (fun H locs hP hD hS => ?_)
                        have hP : va_P G vwCl [(g 10, .inl (cI, 7, .inl (fun i9 => nI (rd i9)))), (g 11, .inl (cI, 175, .inl (fun i9 => nI ((va_up rt (25 * kw + (5 * u) + v) t) i9)))), (g 0, .inr (10, [.int (nI 0), .ref (g 1), .int (nI ts), .int (nI (pl + 1 + 1 + 1 + 1)), .int (nI rk), .ref (g 5), .int (nI sl), .ref (g 7), .int (nI rr), .int (nI rs), .ref (g 10), .ref (g 11), .ref (g 12), .long sd, .ref (g 14), .ref (g 15), .int (nI ac), .ref (g 17), .ref (g 18), .ref (g 19), .int (nI tc), .ref (g 21), .ref (g 22), .ref (g 23), .ref (g 24), .long td9, .ref (g 26), .ref (g 27), .ref (g 28), .ref (g 29), .ref (g 30)])), (g 1, .inl (cI, 64, .inl (fun i9 => nI (tx i9))))] _ := hP
                        have hD : va_D A [(g 10, .inl (cI, 7, .inl (fun i9 => nI (rd i9)))), (g 11, .inl (cI, 175, .inl (fun i9 => nI ((va_up rt (25 * kw + (5 * u) + v) t) i9)))), (g 0, .inr (10, [.int (nI 0), .ref (g 1), .int (nI ts), .int (nI (pl + 1 + 1 + 1 + 1)), .int (nI rk), .ref (g 5), .int (nI sl), .ref (g 7), .int (nI rr), .int (nI rs), .ref (g 10), .ref (g 11), .ref (g 12), .long sd, .ref (g 14), .ref (g 15), .int (nI ac), .ref (g 17), .ref (g 18), .ref (g 19), .int (nI tc), .ref (g 21), .ref (g 22), .ref (g 23), .ref (g 24), .long td9, .ref (g 26), .ref (g 27), .ref (g 28), .ref (g 29), .ref (g 30)])), (g 1, .inl (cI, 64, .inl (fun i9 => nI (tx i9))))] := hD
                        refine lv_aload_n hx hb dX10_readSlip_248 rfl (lv_at hl 5 rfl) ?_
                        refine lv_dup hx hb dX10_readSlip_249 rfl ?_
                        refine va_get (D := G) (ci := 10) (v := .int (nI rs)) (C := RX10) (T := TX10) (N := 31) hx hb hts hin10 hown hK.1 hP 2 rfl rfl 9 (by decide) k_5 (fun _ h9 => h9) rfl dX10_readSlip_250 ?_
                        refine lv_iconst (v := nI 1) hx hb dX10_readSlip_253 (by decide) ?_
                        refine lv_iadd hx hb dX10_readSlip_254 ?_
                        refine top_i (y := nI (rs + 1)) (nI_add _ _) ?_
                        refine va_put (D := G) (ci := 10) (v := .int (nI (rs + 1))) (ty := tyX10 9) (C := RX10) (T := TX10) (N := 31) hx hb hts hin10 tyX10 tyX10_ok nmX10 hown hK.1 hP hD hS 2 rfl rfl 9 (by decide) k_5 (fun _ h9 => h9) rfl (by decide +kernel) rfl rfl (Nat.le_of_ble_eq_true rfl) dX10_readSlip_255 (fun H locs hP hD hS => ?_)
                        have hP : va_P G vwCl [(g 10, .inl (cI, 7, .inl (fun i9 => nI (rd i9)))), (g 11, .inl (cI, 175, .inl (fun i9 => nI ((va_up rt (25 * kw + (5 * u) + v) t) i9)))), (g 0, .inr (10, [.int (nI 0), .ref (g 1), .int (nI ts), .int (nI (pl + 1 + 1 + 1 + 1)), .int (nI rk), .ref (g 5), .int (nI sl), .ref (g 7), .int (nI rr), .int (nI (rs + 1)), .ref (g 10), .ref (g 11), .ref (g 12), .long sd, .ref (g 14), .ref (g 15), .int (nI ac), .ref (g 17), .ref (g 18), .ref (g 19), .int (nI tc), .ref (g 21), .ref (g 22), .ref (g 23), .ref (g 24), .long td9, .ref (g 26), .ref (g 27), .ref (g 28), .ref (g 29), .ref (g 30)])), (g 1, .inl (cI, 64, .inl (fun i9 => nI (tx i9))))] _ := hP
                        have hD : va_D A [(g 10, .inl (cI, 7, .inl (fun i9 => nI (rd i9)))), (g 11, .inl (cI, 175, .inl (fun i9 => nI ((va_up rt (25 * kw + (5 * u) + v) t) i9)))), (g 0, .inr (10, [.int (nI 0), .ref (g 1), .int (nI ts), .int (nI (pl + 1 + 1 + 1 + 1)), .int (nI rk), .ref (g 5), .int (nI sl), .ref (g 7), .int (nI rr), .int (nI (rs + 1)), .ref (g 10), .ref (g 11), .ref (g 12), .long sd, .ref (g 14), .ref (g 15), .int (nI ac), .ref (g 17), .ref (g 18), .ref (g 19), .int (nI tc), .ref (g 21), .ref (g 22), .ref (g 23), .ref (g 24), .long td9, .ref (g 26), .ref (g 27), .ref (g 28), .ref (g 29), .ref (g 30)])), (g 1, .inl (cI, 64, .inl (fun i9 => nI (tx i9))))] := hD
                        refine lv_iconst (v := nI 1) hx hb dX10_readSlip_258 (by decide) ?_
                        exact endZ hx hb hr hlocks (rfl) ((pl + 1 + 1 + 1 + 1, rr, rs + 1, rd, va_up rt (25 * kw + 5 * u + v) t)) (sl6_ok hs6 ht0 (by omega) (by omega) hu hv (fun z => c_160 z.symm) c_178 htc ht1) (hP.sub [2, 3, 0, 1] rfl) (hD.sub [2, 3, 0, 1] (by decide) rfl) hS dX10_readSlip_259
                      · skip
                        obtain ⟨hpq, hno⟩ := FgP_9 htx hw_217 c_226 (by omega)
                        refine lv_iconst (v := nI 0) hx hb dX10_readSlip_229 (by decide) ?_
                        exact endZ hx hb hr hlocks (rfl) ((p1_217, rr, rs, rd, rt)) (PaP_f (by rw [hpq]; exact sl6_no hs6 (by omega) hu hv (fun z => c_160 z.symm) c_178 hno) (by omega)) (hP.sub [2, 3, 0, 1] rfl) (hD.sub [2, 3, 0, 1] (by decide) rfl) hS dX10_readSlip_230
                  · skip
                    have c_178 := z_leF c_178 (by omega)
                    refine lv_iconst (v := nI 0) hx hb dX10_readSlip_181 (by decide) ?_
                    exact endZ hx hb hr hlocks (rfl) ((pl + 1 + 1, rr, rs, rd, rt)) (PaP_f (sl5_no hs5 (by omega) (by omega) hu (fun ⟨v2, h1, h2, _, h4⟩ => by rw [show v2 = v by omega] at h4; omega)) (by omega)) (hP.sub [2, 0, 1, 3] rfl) (hD.sub [2, 0, 1, 3] (by decide) rfl) hS dX10_readSlip_182
          · skip
            have c_107 := z_neF c_107 (by omega)
            refine lv_iconst (v := nI 0) hx hb dX10_readSlip_110 (by decide) ?_
            exact endZ hx hb hr hlocks (rfl) ((pl + 1, rr, rs, rd, rt)) (PaP_f (sl4_no hs4 (by omega) (by omega) (fun ⟨u2, h1, h2, h3⟩ => by rw [show u2 = u by omega] at h3; omega)) (by omega)) (hP.sub [2, 0, 1, 3] rfl) (hD.sub [2, 0, 1, 3] (by decide) rfl) hS dX10_readSlip_111

set_option maxHeartbeats 4000000 in
set_option maxRecDepth 100000 in
theorem c_X10_readPart {l : Launch} {G : va_G} {cI cJ cZ cS : ClassId} (g : Nat → Nat) (ts : Nat) (pl : Nat) (rk : Nat) (sl : Nat) (rr : Nat) (rs : Nat) (ac : Nat) (tc : Nat) (sd : Int64) (td9 : Int64) (tx : Nat → Nat) (rd : Nat → Nat) (rt : Nat → Nat) (hpl : pl ≤ ts) (hts : ts ≤ 64) (htx : ∀ j, j < ts → tx j < 256) (hrun : ∃ s9, runN tx pl = some s9 ∧ s9.1 = 1 ∧ RMo s9 rd rt rr rs) (hpl2 : pl < ts) : CI l G (kT cI cJ cZ cS) (S := Nat × Nat × Nat × (Nat → Nat) × (Nat → Nat)) yX10_readPart wsX10_readPart { frames := 3, cells := 0, slots := 0, locals := 73 } [.ref (g 0)] [(g 0, .inr (10, [.int (nI 0), .ref (g 1), .int (nI ts), .int (nI pl), .int (nI rk), .ref (g 5), .int (nI sl), .ref (g 7), .int (nI rr), .int (nI rs), .ref (g 10), .ref (g 11), .ref (g 12), .long sd, .ref (g 14), .ref (g 15), .int (nI ac), .ref (g 17), .ref (g 18), .ref (g 19), .int (nI tc), .ref (g 21), .ref (g 22), .ref (g 23), .ref (g 24), .long td9, .ref (g 26), .ref (g 27), .ref (g 28), .ref (g 29), .ref (g 30)])), (g 1, .inl (cI, 64, .inl (fun i9 => nI (tx i9)))), (g 10, .inl (cI, 7, .inl (fun i9 => nI (rd i9)))), (g 11, .inl (cI, 175, .inl (fun i9 => nI (rt i9))))] (fun res uu9 => match uu9 with | (p1, rr1, rs1, rd1, rt1) => PaP tx ts pl p1 rd1 rt1 rr1 rs1 res) (fun uu9 => match uu9 with | (p1, rr1, rs1, rd1, rt1) => [(g 0, .inr (10, [.int (nI 0), .ref (g 1), .int (nI ts), .int (nI p1), .int (nI rk), .ref (g 5), .int (nI sl), .ref (g 7), .int (nI rr1), .int (nI rs1), .ref (g 10), .ref (g 11), .ref (g 12), .long sd, .ref (g 14), .ref (g 15), .int (nI ac), .ref (g 17), .ref (g 18), .ref (g 19), .int (nI tc), .ref (g 21), .ref (g 22), .ref (g 23), .ref (g 24), .long td9, .ref (g 26), .ref (g 27), .ref (g 28), .ref (g 29), .ref (g 30)])), (g 1, .inl (cI, 64, .inl (fun i9 => nI (tx i9)))), (g 10, .inl (cI, 7, .inl (fun i9 => nI (rd1 i9)))), (g 11, .inl (cI, 175, .inl (fun i9 => nI (rt1 i9))))]) := by
  refine CI.of (cc := cX10_readPart) (maxL := 2) (by decide) rfl (Nat.le_of_ble_eq_true rfl) ?_
  intro p9 e9 s m below meth co9 A ls hB
  obtain ⟨hx, hb, hml, hr, hts, hown, hlocks, hmn, hK, hP, hD, hS, hA, hl⟩ := hB
  have hP : va_P G vwCl [(g 0, .inr (10, [.int (nI 0), .ref (g 1), .int (nI ts), .int (nI pl), .int (nI rk), .ref (g 5), .int (nI sl), .ref (g 7), .int (nI rr), .int (nI rs), .ref (g 10), .ref (g 11), .ref (g 12), .long sd, .ref (g 14), .ref (g 15), .int (nI ac), .ref (g 17), .ref (g 18), .ref (g 19), .int (nI tc), .ref (g 21), .ref (g 22), .ref (g 23), .ref (g 24), .long td9, .ref (g 26), .ref (g 27), .ref (g 28), .ref (g 29), .ref (g 30)])), (g 1, .inl (cI, 64, .inl (fun i9 => nI (tx i9)))), (g 10, .inl (cI, 7, .inl (fun i9 => nI (rd i9)))), (g 11, .inl (cI, 175, .inl (fun i9 => nI (rt i9))))] s.heap := hP
  have hD : va_D A [(g 0, .inr (10, [.int (nI 0), .ref (g 1), .int (nI ts), .int (nI pl), .int (nI rk), .ref (g 5), .int (nI sl), .ref (g 7), .int (nI rr), .int (nI rs), .ref (g 10), .ref (g 11), .ref (g 12), .long sd, .ref (g 14), .ref (g 15), .int (nI ac), .ref (g 17), .ref (g 18), .ref (g 19), .int (nI tc), .ref (g 21), .ref (g 22), .ref (g 23), .ref (g 24), .long td9, .ref (g 26), .ref (g 27), .ref (g 28), .ref (g 29), .ref (g 30)])), (g 1, .inl (cI, 64, .inl (fun i9 => nI (tx i9)))), (g 10, .inl (cI, 7, .inl (fun i9 => nI (rd i9)))), (g 11, .inl (cI, 175, .inl (fun i9 => nI (rt i9))))] := hD
  have hl : lv_has ls 2 [(0, .ref (g 0))] := hl
  have k_0 := hts (.fieldLink RX10 7 "HearsayMarchModel" "text" "[I") (by decide +kernel)
  have k_1 := hts (.fieldLink RX10 90 "HearsayMarchModel" "place" "I") (by decide +kernel)
  have k_2 := hts (.fieldLink RX10 110 "HearsayMarchModel" "readSlips" "I") (by decide +kernel)
  have k_3 := hts (.fieldLink RX10 93 "HearsayMarchModel" "readRanks" "I") (by decide +kernel)
  have hin10 : ∀ w ∈ wsX100, w ∈ wsX10_readPart := by decide +kernel
  have hc9 := htx pl hpl2
  obtain ⟨f1, f2, f3, f4, f5, f6⟩ := sl_rf (sl1_of hrun)
  refine lv_aload_n hx hb dX10_readPart_0 rfl (lv_at hl 0 rfl) ?_
  refine va_get (D := G) (ci := 10) (v := .ref (g 1)) (C := RX10) (T := TX10) (N := 31) hx hb hts hin10 hown hK.1 hP 0 rfl rfl 1 (by decide) k_0 (fun _ h9 => h9) rfl dX10_readPart_1 ?_
  refine lv_aload_n hx hb dX10_readPart_4 rfl (lv_at hl 0 rfl) ?_
  refine va_get (D := G) (ci := 10) (v := .int (nI pl)) (C := RX10) (T := TX10) (N := 31) hx hb hts hin10 hown hK.1 hP 0 rfl rfl 3 (by decide) k_1 (fun _ h9 => h9) rfl dX10_readPart_5 ?_
  refine ald hx hb hK hP 1 0 rfl rfl (j := pl) (by omega) (by omega) dX10_readPart_8 ?_
  refine lv_istore_n (lv' := [(1, .int (nI (tx pl))), (0, .ref (g 0))]) hx hb dX10_readPart_9 rfl hl (by decide) rfl (fun ls hl => ?_)
  refine lv_iload_n hx hb dX10_readPart_10 rfl (lv_at hl 0 rfl) ?_
  refine lv_bipush (v := nI 82) hx hb dX10_readPart_11 (by decide) ?_
  refine lv_icmp_ne (tgt := 40) hx hb dX10_readPart_13 (by decide) (fun c_13 => ?_) (fun c_13 => ?_)
  · skip
    have c_13 := n_neT c_13 (by omega) (by omega)
    refine lv_iload_n hx hb dX10_readPart_40 rfl (lv_at hl 0 rfl) ?_
    refine lv_bipush (v := nI 83) hx hb dX10_readPart_41 (by decide) ?_
    refine lv_icmp_ne (tgt := 77) hx hb dX10_readPart_43 (by decide) (fun c_43 => ?_) (fun c_43 => ?_)
    · skip
      have c_43 := n_neT c_43 (by omega) (by omega)
      have hno : ¬ ((tx pl = 82 ∧ rr < 7) ∨ (tx pl = 83 ∧ 1 < rr ∧ rs < 9)) := by omega
      refine lv_iconst (v := nI 0) hx hb dX10_readPart_77 (by decide) ?_
      exact endZ hx hb hr hlocks (rfl) ((pl, rr, rs, rd, rt)) (PaP_f (p1_no hrun hpl2 hno) (by omega)) (hP.sub [0, 1, 2, 3] rfl) (hD.sub [0, 1, 2, 3] (by decide) rfl) hS dX10_readPart_78
    · skip
      have c_43 := n_neF c_43 (by omega) (by omega)
      refine lv_aload_n hx hb dX10_readPart_46 rfl (lv_at hl 1 rfl) ?_
      refine va_get (D := G) (ci := 10) (v := .int (nI rs)) (C := RX10) (T := TX10) (N := 31) hx hb hts hin10 hown hK.1 hP 0 rfl rfl 9 (by decide) k_2 (fun _ h9 => h9) rfl dX10_readPart_47 ?_
      refine lv_bipush (v := nI 9) hx hb dX10_readPart_50 (by decide) ?_
      refine lv_icmp_ge (tgt := 77) hx hb dX10_readPart_52 (by decide) (fun c_52 => ?_) (fun c_52 => ?_)
      · skip
        have c_52 := n_geT c_52 (by omega) (by omega)
        have hno : ¬ ((tx pl = 82 ∧ rr < 7) ∨ (tx pl = 83 ∧ 1 < rr ∧ rs < 9)) := by omega
        refine lv_iconst (v := nI 0) hx hb dX10_readPart_77 (by decide) ?_
        exact endZ hx hb hr hlocks (rfl) ((pl, rr, rs, rd, rt)) (PaP_f (p1_no hrun hpl2 hno) (by omega)) (hP.sub [0, 1, 2, 3] rfl) (hD.sub [0, 1, 2, 3] (by decide) rfl) hS dX10_readPart_78
      · skip
        have c_52 := n_geF c_52 (by omega) (by omega)
        refine lv_aload_n hx hb dX10_readPart_55 rfl (lv_at hl 1 rfl) ?_
        refine aft_i (wr := [(g 1, .inl (cI, 64, .inl (fun i9 => nI (tx i9)))), (g 10, .inl (cI, 7, .inl (fun i9 => nI (rd i9))))]) (va_runV (As := []) (rest := []) ⟨hx, hb, hml, hown, hts⟩ (c_X10_hasWay (g := g) (ts := ts) (pl := pl) (rk := rk) (sl := sl) (rr := rr) (rs := rs) (ac := ac) (tc := tc) (sd := sd) (td9 := td9) (rt := rt) (hrr := f5) (hrt := f2) (hs := f1) _) (cwV 0 hts gX10_readPart_X10_hasWay rfl rfl rfl (by decide +kernel) ⟨Nat.le_of_ble_eq_true rfl, Nat.le_of_ble_eq_true rfl⟩) (preV (cq := (RX10, TX10, 31)) (q0 := 0) (ci := 10) hK hP hD [0, 3] rfl rfl rfl rfl) rfl rfl hl.1 rfl (lv_room (Nat.le_of_ble_eq_true rfl)) dX10_readPart_56 ⟨Nat.le_of_ble_eq_true rfl, Nat.le_of_ble_eq_true rfl⟩) hP hD hS hA [0, 3] [1, 2] rfl rfl rfl (by decide) (fun r_56 uu9 H locs hw hP hD hS => ?_)
        have hP : va_P G vwCl [(g 1, .inl (cI, 64, .inl (fun i9 => nI (tx i9)))), (g 10, .inl (cI, 7, .inl (fun i9 => nI (rd i9)))), (g 0, .inr (10, [.int (nI 0), .ref (g 1), .int (nI ts), .int (nI pl), .int (nI rk), .ref (g 5), .int (nI sl), .ref (g 7), .int (nI rr), .int (nI rs), .ref (g 10), .ref (g 11), .ref (g 12), .long sd, .ref (g 14), .ref (g 15), .int (nI ac), .ref (g 17), .ref (g 18), .ref (g 19), .int (nI tc), .ref (g 21), .ref (g 22), .ref (g 23), .ref (g 24), .long td9, .ref (g 26), .ref (g 27), .ref (g 28), .ref (g 29), .ref (g 30)])), (g 11, .inl (cI, 175, .inl (fun i9 => nI (rt i9))))] _ := hP
        have hD : va_D A [(g 1, .inl (cI, 64, .inl (fun i9 => nI (tx i9)))), (g 10, .inl (cI, 7, .inl (fun i9 => nI (rd i9)))), (g 0, .inr (10, [.int (nI 0), .ref (g 1), .int (nI ts), .int (nI pl), .int (nI rk), .ref (g 5), .int (nI sl), .ref (g 7), .int (nI rr), .int (nI rs), .ref (g 10), .ref (g 11), .ref (g 12), .long sd, .ref (g 14), .ref (g 15), .int (nI ac), .ref (g 17), .ref (g 18), .ref (g 19), .int (nI tc), .ref (g 21), .ref (g 22), .ref (g 23), .ref (g 24), .long td9, .ref (g 26), .ref (g 27), .ref (g 28), .ref (g 29), .ref (g 30)])), (g 11, .inl (cI, 175, .inl (fun i9 => nI (rt i9))))] := hD
        obtain rfl := hw
        refine top_i (y := bI (∃ k, 0 < k ∧ k < rr ∧ ∃ u, u < 5 ∧ 0 < lefN rt k u)) rfl ?_
        refine lv_if_eq (tgt := 77) hx hb dX10_readPart_59 (by decide) (fun c_59 => ?_) (fun c_59 => ?_)
        · skip
          have c_59 := bI_f c_59
          have hr2 : ¬ 1 < rr := fun z => c_59 ⟨1, by omega, z, hasL_ok f2 f4 c_52 (by omega)⟩
          have hno : ¬ ((tx pl = 82 ∧ rr < 7) ∨ (tx pl = 83 ∧ 1 < rr ∧ rs < 9)) := by omega
          refine lv_iconst (v := nI 0) hx hb dX10_readPart_77 (by decide) ?_
          exact endZ hx hb hr hlocks (rfl) ((pl, rr, rs, rd, rt)) (PaP_f (p1_no hrun hpl2 hno) (by omega)) (hP.sub [2, 0, 1, 3] rfl) (hD.sub [2, 0, 1, 3] (by decide) rfl) hS dX10_readPart_78
        · skip
          have c_59 := bI_t c_59
          obtain ⟨k1, hk1, hk2, -⟩ := c_59
          refine lv_aload_n hx hb dX10_readPart_62 rfl (lv_at hl 1 rfl) ?_
          refine lv_dup hx hb dX10_readPart_63 rfl ?_
          refine va_get (D := G) (ci := 10) (v := .int (nI pl)) (C := RX10) (T := TX10) (N := 31) hx hb hts hin10 hown hK.1 hP 2 rfl rfl 3 (by decide) k_1 (fun _ h9 => h9) rfl dX10_readPart_64 ?_
          refine lv_iconst (v := nI 1) hx hb dX10_readPart_67 (by decide) ?_
          refine lv_iadd hx hb dX10_readPart_68 ?_
          refine top_i (y := nI (pl + 1)) (nI_add _ _) ?_
          refine va_put (D := G) (ci := 10) (v := .int (nI (pl + 1))) (ty := tyX10 3) (C := RX10) (T := TX10) (N := 31) hx hb hts hin10 tyX10 tyX10_ok nmX10 hown hK.1 hP hD hS 2 rfl rfl 3 (by decide) k_1 (fun _ h9 => h9) rfl (by decide +kernel) rfl rfl (Nat.le_of_ble_eq_true rfl) dX10_readPart_69 (fun H locs hP hD hS => ?_)
          have hP : va_P G vwCl [(g 1, .inl (cI, 64, .inl (fun i9 => nI (tx i9)))), (g 10, .inl (cI, 7, .inl (fun i9 => nI (rd i9)))), (g 0, .inr (10, [.int (nI 0), .ref (g 1), .int (nI ts), .int (nI (pl + 1)), .int (nI rk), .ref (g 5), .int (nI sl), .ref (g 7), .int (nI rr), .int (nI rs), .ref (g 10), .ref (g 11), .ref (g 12), .long sd, .ref (g 14), .ref (g 15), .int (nI ac), .ref (g 17), .ref (g 18), .ref (g 19), .int (nI tc), .ref (g 21), .ref (g 22), .ref (g 23), .ref (g 24), .long td9, .ref (g 26), .ref (g 27), .ref (g 28), .ref (g 29), .ref (g 30)])), (g 11, .inl (cI, 175, .inl (fun i9 => nI (rt i9))))] _ := hP
          have hD : va_D A [(g 1, .inl (cI, 64, .inl (fun i9 => nI (tx i9)))), (g 10, .inl (cI, 7, .inl (fun i9 => nI (rd i9)))), (g 0, .inr (10, [.int (nI 0), .ref (g 1), .int (nI ts), .int (nI (pl + 1)), .int (nI rk), .ref (g 5), .int (nI sl), .ref (g 7), .int (nI rr), .int (nI rs), .ref (g 10), .ref (g 11), .ref (g 12), .long sd, .ref (g 14), .ref (g 15), .int (nI ac), .ref (g 17), .ref (g 18), .ref (g 19), .int (nI tc), .ref (g 21), .ref (g 22), .ref (g 23), .ref (g 24), .long td9, .ref (g 26), .ref (g 27), .ref (g 28), .ref (g 29), .ref (g 30)])), (g 11, .inl (cI, 175, .inl (fun i9 => nI (rt i9))))] := hD
          refine lv_aload_n hx hb dX10_readPart_72 rfl (lv_at hl 1 rfl) ?_
          refine aft_i (wr := []) (va_runV (As := []) (rest := []) ⟨hx, hb, hml, hown, hts⟩ (c_X10_readSlip (g := g) (ts := ts) (pl := pl + 1) (rk := rk) (sl := sl) (rr := rr) (rs := rs) (ac := ac) (tc := tc) (sd := sd) (td9 := td9) (tx := tx) (rd := rd) (rt := rt) (hpl := by omega) (hts := by first | assumption | omega | exact hok.1 _ (by omega) | exact hok.2.2 _ _ (by omega) (by omega) | exact hok.2.1) (htx := by first | assumption | omega | exact hok.1 _ (by omega) | exact hok.2.2 _ _ (by omega) (by omega) | exact hok.2.1) (hrun := p1_S hrun c_43 (by omega) (by omega)) (hs9 := by omega) _) (cwV 0 hts gX10_readPart_X10_readSlip rfl rfl rfl (by decide +kernel) ⟨Nat.le_of_ble_eq_true rfl, Nat.le_of_ble_eq_true rfl⟩) (preV (cq := (RX10, TX10, 31)) (q0 := 2) (ci := 10) hK hP hD [2, 0, 1, 3] rfl rfl rfl rfl) rfl rfl hl.1 rfl (lv_room (Nat.le_of_ble_eq_true rfl)) dX10_readPart_73 ⟨Nat.le_of_ble_eq_true rfl, Nat.le_of_ble_eq_true rfl⟩) hP hD hS hA [2, 0, 1, 3] [] rfl rfl rfl (by decide) (fun r_73 uu9 H locs hw hP hD hS => ?_)
          obtain ⟨p1_73, rr1_73, rs1_73, rd1_73, rt1_73⟩ := uu9
          have hP : va_P G vwCl [(g 0, .inr (10, [.int (nI 0), .ref (g 1), .int (nI ts), .int (nI p1_73), .int (nI rk), .ref (g 5), .int (nI sl), .ref (g 7), .int (nI rr1_73), .int (nI rs1_73), .ref (g 10), .ref (g 11), .ref (g 12), .long sd, .ref (g 14), .ref (g 15), .int (nI ac), .ref (g 17), .ref (g 18), .ref (g 19), .int (nI tc), .ref (g 21), .ref (g 22), .ref (g 23), .ref (g 24), .long td9, .ref (g 26), .ref (g 27), .ref (g 28), .ref (g 29), .ref (g 30)])), (g 1, .inl (cI, 64, .inl (fun i9 => nI (tx i9)))), (g 10, .inl (cI, 7, .inl (fun i9 => nI (rd1_73 i9)))), (g 11, .inl (cI, 175, .inl (fun i9 => nI (rt1_73 i9))))] _ := hP
          have hD : va_D A [(g 0, .inr (10, [.int (nI 0), .ref (g 1), .int (nI ts), .int (nI p1_73), .int (nI rk), .ref (g 5), .int (nI sl), .ref (g 7), .int (nI rr1_73), .int (nI rs1_73), .ref (g 10), .ref (g 11), .ref (g 12), .long sd, .ref (g 14), .ref (g 15), .int (nI ac), .ref (g 17), .ref (g 18), .ref (g 19), .int (nI tc), .ref (g 21), .ref (g 22), .ref (g 23), .ref (g 24), .long td9, .ref (g 26), .ref (g 27), .ref (g 28), .ref (g 29), .ref (g 30)])), (g 1, .inl (cI, 64, .inl (fun i9 => nI (tx i9)))), (g 10, .inl (cI, 7, .inl (fun i9 => nI (rd1_73 i9)))), (g 11, .inl (cI, 175, .inl (fun i9 => nI (rt1_73 i9))))] := hD
          have hw_73 := hw
          have hw_73 : PaP tx ts (pl + 1) p1_73 rd1_73 rt1_73 rr1_73 rs1_73 r_73 := hw_73
          exact endZ hx hb hr hlocks (PaP_nar hw_73) ((p1_73, rr1_73, rs1_73, rd1_73, rt1_73)) (PaP_mono hw_73) (hP.sub [0, 1, 2, 3] rfl) (hD.sub [0, 1, 2, 3] (by decide) rfl) hS dX10_readPart_76
  · skip
    have c_13 := n_neF c_13 (by omega) (by omega)
    refine lv_aload_n hx hb dX10_readPart_16 rfl (lv_at hl 1 rfl) ?_
    refine va_get (D := G) (ci := 10) (v := .int (nI rr)) (C := RX10) (T := TX10) (N := 31) hx hb hts hin10 hown hK.1 hP 0 rfl rfl 8 (by decide) k_3 (fun _ h9 => h9) rfl dX10_readPart_17 ?_
    refine lv_bipush (v := nI 7) hx hb dX10_readPart_20 (by decide) ?_
    refine lv_icmp_ge (tgt := 40) hx hb dX10_readPart_22 (by decide) (fun c_22 => ?_) (fun c_22 => ?_)
    · skip
      have c_22 := n_geT c_22 (by omega) (by omega)
      have hno : ¬ ((tx pl = 82 ∧ rr < 7) ∨ (tx pl = 83 ∧ 1 < rr ∧ rs < 9)) := by omega
      refine lv_iload_n hx hb dX10_readPart_40 rfl (lv_at hl 0 rfl) ?_
      refine lv_bipush (v := nI 83) hx hb dX10_readPart_41 (by decide) ?_
      refine lv_icmp_ne (tgt := 77) hx hb dX10_readPart_43 (by decide) (fun c_43 => ?_) (fun c_43 => ?_)
      · skip
        have c_43 := n_neT c_43 (by omega) (by omega)
        have hno : ¬ ((tx pl = 82 ∧ rr < 7) ∨ (tx pl = 83 ∧ 1 < rr ∧ rs < 9)) := by omega
        refine lv_iconst (v := nI 0) hx hb dX10_readPart_77 (by decide) ?_
        exact endZ hx hb hr hlocks (rfl) ((pl, rr, rs, rd, rt)) (PaP_f (p1_no hrun hpl2 hno) (by omega)) (hP.sub [0, 1, 2, 3] rfl) (hD.sub [0, 1, 2, 3] (by decide) rfl) hS dX10_readPart_78
      · skip
        have c_43 := n_neF c_43 (by omega) (by omega)
        refine lv_aload_n hx hb dX10_readPart_46 rfl (lv_at hl 1 rfl) ?_
        refine va_get (D := G) (ci := 10) (v := .int (nI rs)) (C := RX10) (T := TX10) (N := 31) hx hb hts hin10 hown hK.1 hP 0 rfl rfl 9 (by decide) k_2 (fun _ h9 => h9) rfl dX10_readPart_47 ?_
        refine lv_bipush (v := nI 9) hx hb dX10_readPart_50 (by decide) ?_
        refine lv_icmp_ge (tgt := 77) hx hb dX10_readPart_52 (by decide) (fun c_52 => ?_) (fun c_52 => ?_)
        · skip
          have c_52 := n_geT c_52 (by omega) (by omega)
          have hno : ¬ ((tx pl = 82 ∧ rr < 7) ∨ (tx pl = 83 ∧ 1 < rr ∧ rs < 9)) := by omega
          refine lv_iconst (v := nI 0) hx hb dX10_readPart_77 (by decide) ?_
          exact endZ hx hb hr hlocks (rfl) ((pl, rr, rs, rd, rt)) (PaP_f (p1_no hrun hpl2 hno) (by omega)) (hP.sub [0, 1, 2, 3] rfl) (hD.sub [0, 1, 2, 3] (by decide) rfl) hS dX10_readPart_78
        · skip
          have c_52 := n_geF c_52 (by omega) (by omega)
          refine lv_aload_n hx hb dX10_readPart_55 rfl (lv_at hl 1 rfl) ?_
          refine aft_i (wr := [(g 1, .inl (cI, 64, .inl (fun i9 => nI (tx i9)))), (g 10, .inl (cI, 7, .inl (fun i9 => nI (rd i9))))]) (va_runV (As := []) (rest := []) ⟨hx, hb, hml, hown, hts⟩ (c_X10_hasWay (g := g) (ts := ts) (pl := pl) (rk := rk) (sl := sl) (rr := rr) (rs := rs) (ac := ac) (tc := tc) (sd := sd) (td9 := td9) (rt := rt) (hrr := f5) (hrt := f2) (hs := f1) _) (cwV 0 hts gX10_readPart_X10_hasWay rfl rfl rfl (by decide +kernel) ⟨Nat.le_of_ble_eq_true rfl, Nat.le_of_ble_eq_true rfl⟩) (preV (cq := (RX10, TX10, 31)) (q0 := 0) (ci := 10) hK hP hD [0, 3] rfl rfl rfl rfl) rfl rfl hl.1 rfl (lv_room (Nat.le_of_ble_eq_true rfl)) dX10_readPart_56 ⟨Nat.le_of_ble_eq_true rfl, Nat.le_of_ble_eq_true rfl⟩) hP hD hS hA [0, 3] [1, 2] rfl rfl rfl (by decide) (fun r_56 uu9 H locs hw hP hD hS => ?_)
          have hP : va_P G vwCl [(g 1, .inl (cI, 64, .inl (fun i9 => nI (tx i9)))), (g 10, .inl (cI, 7, .inl (fun i9 => nI (rd i9)))), (g 0, .inr (10, [.int (nI 0), .ref (g 1), .int (nI ts), .int (nI pl), .int (nI rk), .ref (g 5), .int (nI sl), .ref (g 7), .int (nI rr), .int (nI rs), .ref (g 10), .ref (g 11), .ref (g 12), .long sd, .ref (g 14), .ref (g 15), .int (nI ac), .ref (g 17), .ref (g 18), .ref (g 19), .int (nI tc), .ref (g 21), .ref (g 22), .ref (g 23), .ref (g 24), .long td9, .ref (g 26), .ref (g 27), .ref (g 28), .ref (g 29), .ref (g 30)])), (g 11, .inl (cI, 175, .inl (fun i9 => nI (rt i9))))] _ := hP
          have hD : va_D A [(g 1, .inl (cI, 64, .inl (fun i9 => nI (tx i9)))), (g 10, .inl (cI, 7, .inl (fun i9 => nI (rd i9)))), (g 0, .inr (10, [.int (nI 0), .ref (g 1), .int (nI ts), .int (nI pl), .int (nI rk), .ref (g 5), .int (nI sl), .ref (g 7), .int (nI rr), .int (nI rs), .ref (g 10), .ref (g 11), .ref (g 12), .long sd, .ref (g 14), .ref (g 15), .int (nI ac), .ref (g 17), .ref (g 18), .ref (g 19), .int (nI tc), .ref (g 21), .ref (g 22), .ref (g 23), .ref (g 24), .long td9, .ref (g 26), .ref (g 27), .ref (g 28), .ref (g 29), .ref (g 30)])), (g 11, .inl (cI, 175, .inl (fun i9 => nI (rt i9))))] := hD
          obtain rfl := hw
          refine top_i (y := bI (∃ k, 0 < k ∧ k < rr ∧ ∃ u, u < 5 ∧ 0 < lefN rt k u)) rfl ?_
          refine lv_if_eq (tgt := 77) hx hb dX10_readPart_59 (by decide) (fun c_59 => ?_) (fun c_59 => ?_)
          · skip
            have c_59 := bI_f c_59
            have hr2 : ¬ 1 < rr := fun z => c_59 ⟨1, by omega, z, hasL_ok f2 f4 c_52 (by omega)⟩
            have hno : ¬ ((tx pl = 82 ∧ rr < 7) ∨ (tx pl = 83 ∧ 1 < rr ∧ rs < 9)) := by omega
            refine lv_iconst (v := nI 0) hx hb dX10_readPart_77 (by decide) ?_
            exact endZ hx hb hr hlocks (rfl) ((pl, rr, rs, rd, rt)) (PaP_f (p1_no hrun hpl2 hno) (by omega)) (hP.sub [2, 0, 1, 3] rfl) (hD.sub [2, 0, 1, 3] (by decide) rfl) hS dX10_readPart_78
          · skip
            have c_59 := bI_t c_59
            obtain ⟨k1, hk1, hk2, -⟩ := c_59
            refine lv_aload_n hx hb dX10_readPart_62 rfl (lv_at hl 1 rfl) ?_
            refine lv_dup hx hb dX10_readPart_63 rfl ?_
            refine va_get (D := G) (ci := 10) (v := .int (nI pl)) (C := RX10) (T := TX10) (N := 31) hx hb hts hin10 hown hK.1 hP 2 rfl rfl 3 (by decide) k_1 (fun _ h9 => h9) rfl dX10_readPart_64 ?_
            refine lv_iconst (v := nI 1) hx hb dX10_readPart_67 (by decide) ?_
            refine lv_iadd hx hb dX10_readPart_68 ?_
            refine top_i (y := nI (pl + 1)) (nI_add _ _) ?_
            refine va_put (D := G) (ci := 10) (v := .int (nI (pl + 1))) (ty := tyX10 3) (C := RX10) (T := TX10) (N := 31) hx hb hts hin10 tyX10 tyX10_ok nmX10 hown hK.1 hP hD hS 2 rfl rfl 3 (by decide) k_1 (fun _ h9 => h9) rfl (by decide +kernel) rfl rfl (Nat.le_of_ble_eq_true rfl) dX10_readPart_69 (fun H locs hP hD hS => ?_)
            have hP : va_P G vwCl [(g 1, .inl (cI, 64, .inl (fun i9 => nI (tx i9)))), (g 10, .inl (cI, 7, .inl (fun i9 => nI (rd i9)))), (g 0, .inr (10, [.int (nI 0), .ref (g 1), .int (nI ts), .int (nI (pl + 1)), .int (nI rk), .ref (g 5), .int (nI sl), .ref (g 7), .int (nI rr), .int (nI rs), .ref (g 10), .ref (g 11), .ref (g 12), .long sd, .ref (g 14), .ref (g 15), .int (nI ac), .ref (g 17), .ref (g 18), .ref (g 19), .int (nI tc), .ref (g 21), .ref (g 22), .ref (g 23), .ref (g 24), .long td9, .ref (g 26), .ref (g 27), .ref (g 28), .ref (g 29), .ref (g 30)])), (g 11, .inl (cI, 175, .inl (fun i9 => nI (rt i9))))] _ := hP
            have hD : va_D A [(g 1, .inl (cI, 64, .inl (fun i9 => nI (tx i9)))), (g 10, .inl (cI, 7, .inl (fun i9 => nI (rd i9)))), (g 0, .inr (10, [.int (nI 0), .ref (g 1), .int (nI ts), .int (nI (pl + 1)), .int (nI rk), .ref (g 5), .int (nI sl), .ref (g 7), .int (nI rr), .int (nI rs), .ref (g 10), .ref (g 11), .ref (g 12), .long sd, .ref (g 14), .ref (g 15), .int (nI ac), .ref (g 17), .ref (g 18), .ref (g 19), .int (nI tc), .ref (g 21), .ref (g 22), .ref (g 23), .ref (g 24), .long td9, .ref (g 26), .ref (g 27), .ref (g 28), .ref (g 29), .ref (g 30)])), (g 11, .inl (cI, 175, .inl (fun i9 => nI (rt i9))))] := hD
            refine lv_aload_n hx hb dX10_readPart_72 rfl (lv_at hl 1 rfl) ?_
            refine aft_i (wr := []) (va_runV (As := []) (rest := []) ⟨hx, hb, hml, hown, hts⟩ (c_X10_readSlip (g := g) (ts := ts) (pl := pl + 1) (rk := rk) (sl := sl) (rr := rr) (rs := rs) (ac := ac) (tc := tc) (sd := sd) (td9 := td9) (tx := tx) (rd := rd) (rt := rt) (hpl := by omega) (hts := by first | assumption | omega | exact hok.1 _ (by omega) | exact hok.2.2 _ _ (by omega) (by omega) | exact hok.2.1) (htx := by first | assumption | omega | exact hok.1 _ (by omega) | exact hok.2.2 _ _ (by omega) (by omega) | exact hok.2.1) (hrun := p1_S hrun c_43 (by omega) (by omega)) (hs9 := by omega) _) (cwV 0 hts gX10_readPart_X10_readSlip rfl rfl rfl (by decide +kernel) ⟨Nat.le_of_ble_eq_true rfl, Nat.le_of_ble_eq_true rfl⟩) (preV (cq := (RX10, TX10, 31)) (q0 := 2) (ci := 10) hK hP hD [2, 0, 1, 3] rfl rfl rfl rfl) rfl rfl hl.1 rfl (lv_room (Nat.le_of_ble_eq_true rfl)) dX10_readPart_73 ⟨Nat.le_of_ble_eq_true rfl, Nat.le_of_ble_eq_true rfl⟩) hP hD hS hA [2, 0, 1, 3] [] rfl rfl rfl (by decide) (fun r_73 uu9 H locs hw hP hD hS => ?_)
            obtain ⟨p1_73, rr1_73, rs1_73, rd1_73, rt1_73⟩ := uu9
            have hP : va_P G vwCl [(g 0, .inr (10, [.int (nI 0), .ref (g 1), .int (nI ts), .int (nI p1_73), .int (nI rk), .ref (g 5), .int (nI sl), .ref (g 7), .int (nI rr1_73), .int (nI rs1_73), .ref (g 10), .ref (g 11), .ref (g 12), .long sd, .ref (g 14), .ref (g 15), .int (nI ac), .ref (g 17), .ref (g 18), .ref (g 19), .int (nI tc), .ref (g 21), .ref (g 22), .ref (g 23), .ref (g 24), .long td9, .ref (g 26), .ref (g 27), .ref (g 28), .ref (g 29), .ref (g 30)])), (g 1, .inl (cI, 64, .inl (fun i9 => nI (tx i9)))), (g 10, .inl (cI, 7, .inl (fun i9 => nI (rd1_73 i9)))), (g 11, .inl (cI, 175, .inl (fun i9 => nI (rt1_73 i9))))] _ := hP
            have hD : va_D A [(g 0, .inr (10, [.int (nI 0), .ref (g 1), .int (nI ts), .int (nI p1_73), .int (nI rk), .ref (g 5), .int (nI sl), .ref (g 7), .int (nI rr1_73), .int (nI rs1_73), .ref (g 10), .ref (g 11), .ref (g 12), .long sd, .ref (g 14), .ref (g 15), .int (nI ac), .ref (g 17), .ref (g 18), .ref (g 19), .int (nI tc), .ref (g 21), .ref (g 22), .ref (g 23), .ref (g 24), .long td9, .ref (g 26), .ref (g 27), .ref (g 28), .ref (g 29), .ref (g 30)])), (g 1, .inl (cI, 64, .inl (fun i9 => nI (tx i9)))), (g 10, .inl (cI, 7, .inl (fun i9 => nI (rd1_73 i9)))), (g 11, .inl (cI, 175, .inl (fun i9 => nI (rt1_73 i9))))] := hD
            have hw_73 := hw
            have hw_73 : PaP tx ts (pl + 1) p1_73 rd1_73 rt1_73 rr1_73 rs1_73 r_73 := hw_73
            exact endZ hx hb hr hlocks (PaP_nar hw_73) ((p1_73, rr1_73, rs1_73, rd1_73, rt1_73)) (PaP_mono hw_73) (hP.sub [0, 1, 2, 3] rfl) (hD.sub [0, 1, 2, 3] (by decide) rfl) hS dX10_readPart_76
    · skip
      have c_22 := n_geF c_22 (by omega) (by omega)
      refine lv_aload_n hx hb dX10_readPart_25 rfl (lv_at hl 1 rfl) ?_
      refine lv_dup hx hb dX10_readPart_26 rfl ?_
      refine va_get (D := G) (ci := 10) (v := .int (nI pl)) (C := RX10) (T := TX10) (N := 31) hx hb hts hin10 hown hK.1 hP 0 rfl rfl 3 (by decide) k_1 (fun _ h9 => h9) rfl dX10_readPart_27 ?_
      refine lv_iconst (v := nI 1) hx hb dX10_readPart_30 (by decide) ?_
      refine lv_iadd hx hb dX10_readPart_31 ?_
      refine top_i (y := nI (pl + 1)) (nI_add _ _) ?_
      refine va_put (D := G) (ci := 10) (v := .int (nI (pl + 1))) (ty := tyX10 3) (C := RX10) (T := TX10) (N := 31) hx hb hts hin10 tyX10 tyX10_ok nmX10 hown hK.1 hP hD hS 0 rfl rfl 3 (by decide) k_1 (fun _ h9 => h9) rfl (by decide +kernel) rfl rfl (Nat.le_of_ble_eq_true rfl) dX10_readPart_32 (fun H locs hP hD hS => ?_)
      have hP : va_P G vwCl [(g 0, .inr (10, [.int (nI 0), .ref (g 1), .int (nI ts), .int (nI (pl + 1)), .int (nI rk), .ref (g 5), .int (nI sl), .ref (g 7), .int (nI rr), .int (nI rs), .ref (g 10), .ref (g 11), .ref (g 12), .long sd, .ref (g 14), .ref (g 15), .int (nI ac), .ref (g 17), .ref (g 18), .ref (g 19), .int (nI tc), .ref (g 21), .ref (g 22), .ref (g 23), .ref (g 24), .long td9, .ref (g 26), .ref (g 27), .ref (g 28), .ref (g 29), .ref (g 30)])), (g 1, .inl (cI, 64, .inl (fun i9 => nI (tx i9)))), (g 10, .inl (cI, 7, .inl (fun i9 => nI (rd i9)))), (g 11, .inl (cI, 175, .inl (fun i9 => nI (rt i9))))] _ := hP
      have hD : va_D A [(g 0, .inr (10, [.int (nI 0), .ref (g 1), .int (nI ts), .int (nI (pl + 1)), .int (nI rk), .ref (g 5), .int (nI sl), .ref (g 7), .int (nI rr), .int (nI rs), .ref (g 10), .ref (g 11), .ref (g 12), .long sd, .ref (g 14), .ref (g 15), .int (nI ac), .ref (g 17), .ref (g 18), .ref (g 19), .int (nI tc), .ref (g 21), .ref (g 22), .ref (g 23), .ref (g 24), .long td9, .ref (g 26), .ref (g 27), .ref (g 28), .ref (g 29), .ref (g 30)])), (g 1, .inl (cI, 64, .inl (fun i9 => nI (tx i9)))), (g 10, .inl (cI, 7, .inl (fun i9 => nI (rd i9)))), (g 11, .inl (cI, 175, .inl (fun i9 => nI (rt i9))))] := hD
      refine lv_aload_n hx hb dX10_readPart_35 rfl (lv_at hl 1 rfl) ?_
      refine aft_i (wr := []) (va_runV (As := []) (rest := []) ⟨hx, hb, hml, hown, hts⟩ (c_X10_readRank (g := g) (ts := ts) (pl := pl + 1) (rk := rk) (sl := sl) (rr := rr) (rs := rs) (ac := ac) (tc := tc) (sd := sd) (td9 := td9) (tx := tx) (rd := rd) (rt := rt) (hpl := by omega) (hts := by first | assumption | omega | exact hok.1 _ (by omega) | exact hok.2.2 _ _ (by omega) (by omega) | exact hok.2.1) (htx := by first | assumption | omega | exact hok.1 _ (by omega) | exact hok.2.2 _ _ (by omega) (by omega) | exact hok.2.1) (hrun := p1_R hrun c_13 (by omega)) (hrr := by omega) _) (cwV 0 hts gX10_readPart_X10_readRank rfl rfl rfl (by decide +kernel) ⟨Nat.le_of_ble_eq_true rfl, Nat.le_of_ble_eq_true rfl⟩) (preV (cq := (RX10, TX10, 31)) (q0 := 0) (ci := 10) hK hP hD [0, 1, 2, 3] rfl rfl rfl rfl) rfl rfl hl.1 rfl (lv_room (Nat.le_of_ble_eq_true rfl)) dX10_readPart_36 ⟨Nat.le_of_ble_eq_true rfl, Nat.le_of_ble_eq_true rfl⟩) hP hD hS hA [0, 1, 2, 3] [] rfl rfl rfl (by decide) (fun r_36 uu9 H locs hw hP hD hS => ?_)
      obtain ⟨p1_36, rr1_36, rs1_36, rd1_36, rt1_36⟩ := uu9
      have hP : va_P G vwCl [(g 0, .inr (10, [.int (nI 0), .ref (g 1), .int (nI ts), .int (nI p1_36), .int (nI rk), .ref (g 5), .int (nI sl), .ref (g 7), .int (nI rr1_36), .int (nI rs1_36), .ref (g 10), .ref (g 11), .ref (g 12), .long sd, .ref (g 14), .ref (g 15), .int (nI ac), .ref (g 17), .ref (g 18), .ref (g 19), .int (nI tc), .ref (g 21), .ref (g 22), .ref (g 23), .ref (g 24), .long td9, .ref (g 26), .ref (g 27), .ref (g 28), .ref (g 29), .ref (g 30)])), (g 1, .inl (cI, 64, .inl (fun i9 => nI (tx i9)))), (g 10, .inl (cI, 7, .inl (fun i9 => nI (rd1_36 i9)))), (g 11, .inl (cI, 175, .inl (fun i9 => nI (rt1_36 i9))))] _ := hP
      have hD : va_D A [(g 0, .inr (10, [.int (nI 0), .ref (g 1), .int (nI ts), .int (nI p1_36), .int (nI rk), .ref (g 5), .int (nI sl), .ref (g 7), .int (nI rr1_36), .int (nI rs1_36), .ref (g 10), .ref (g 11), .ref (g 12), .long sd, .ref (g 14), .ref (g 15), .int (nI ac), .ref (g 17), .ref (g 18), .ref (g 19), .int (nI tc), .ref (g 21), .ref (g 22), .ref (g 23), .ref (g 24), .long td9, .ref (g 26), .ref (g 27), .ref (g 28), .ref (g 29), .ref (g 30)])), (g 1, .inl (cI, 64, .inl (fun i9 => nI (tx i9)))), (g 10, .inl (cI, 7, .inl (fun i9 => nI (rd1_36 i9)))), (g 11, .inl (cI, 175, .inl (fun i9 => nI (rt1_36 i9))))] := hD
      have hw_36 := hw
      have hw_36 : PaP tx ts (pl + 1) p1_36 rd1_36 rt1_36 rr1_36 rs1_36 r_36 := hw_36
      exact endZ hx hb hr hlocks (PaP_nar hw_36) ((p1_36, rr1_36, rs1_36, rd1_36, rt1_36)) (PaP_mono hw_36) (hP.sub [0, 1, 2, 3] rfl) (hD.sub [0, 1, 2, 3] (by decide) rfl) hS dX10_readPart_39

set_option maxHeartbeats 4000000 in
set_option maxRecDepth 100000 in
theorem c_X10_readArmy {l : Launch} {G : va_G} {cI cJ cZ cS : ClassId} (g : Nat → Nat) (ts : Nat) (pl : Nat) (rk : Nat) (sl : Nat) (rr : Nat) (rs : Nat) (ac : Nat) (tc : Nat) (sd : Int64) (td9 : Int64) (tx : Nat → Nat) (rd : Nat → Nat) (rt : Nat → Nat) (hts : ts ≤ 64) (htx : ∀ j, j < ts → tx j < 256) : CI l G (kT cI cJ cZ cS) (S := Nat × Nat × Nat × (Nat → Nat) × (Nat → Nat)) yX10_readArmy wsX10_readArmy { frames := 4, cells := 0, slots := 0, locals := 94 } [.ref (g 0)] [(g 0, .inr (10, [.int (nI 0), .ref (g 1), .int (nI ts), .int (nI pl), .int (nI rk), .ref (g 5), .int (nI sl), .ref (g 7), .int (nI rr), .int (nI rs), .ref (g 10), .ref (g 11), .ref (g 12), .long sd, .ref (g 14), .ref (g 15), .int (nI ac), .ref (g 17), .ref (g 18), .ref (g 19), .int (nI tc), .ref (g 21), .ref (g 22), .ref (g 23), .ref (g 24), .long td9, .ref (g 26), .ref (g 27), .ref (g 28), .ref (g 29), .ref (g 30)])), (g 1, .inl (cI, 64, .inl (fun i9 => nI (tx i9)))), (g 10, .inl (cI, 7, .inl (fun i9 => nI (rd i9)))), (g 11, .inl (cI, 175, .inl (fun i9 => nI (rt i9))))] (fun res uu9 => match uu9 with | (p1, rr1, rs1, rd1, rt1) => FaultIs tx ts res ∧ (res = -9 → ∃ s9, runN tx ts = some s9 ∧ RMo s9 rd1 rt1 rr1 rs1)) (fun uu9 => match uu9 with | (p1, rr1, rs1, rd1, rt1) => [(g 0, .inr (10, [.int (nI 0), .ref (g 1), .int (nI ts), .int (nI p1), .int (nI rk), .ref (g 5), .int (nI sl), .ref (g 7), .int (nI rr1), .int (nI rs1), .ref (g 10), .ref (g 11), .ref (g 12), .long sd, .ref (g 14), .ref (g 15), .int (nI ac), .ref (g 17), .ref (g 18), .ref (g 19), .int (nI tc), .ref (g 21), .ref (g 22), .ref (g 23), .ref (g 24), .long td9, .ref (g 26), .ref (g 27), .ref (g 28), .ref (g 29), .ref (g 30)])), (g 1, .inl (cI, 64, .inl (fun i9 => nI (tx i9)))), (g 10, .inl (cI, 7, .inl (fun i9 => nI (rd1 i9)))), (g 11, .inl (cI, 175, .inl (fun i9 => nI (rt1 i9))))]) := by
  refine CI.of (cc := cX10_readArmy) (maxL := 2) (by decide) rfl (Nat.le_of_ble_eq_true rfl) ?_
  intro p9 e9 s m below meth co9 A ls hB
  obtain ⟨hx, hb, hml, hr, hts, hown, hlocks, hmn, hK, hP, hD, hS, hA, hl⟩ := hB
  have hP : va_P G vwCl [(g 0, .inr (10, [.int (nI 0), .ref (g 1), .int (nI ts), .int (nI pl), .int (nI rk), .ref (g 5), .int (nI sl), .ref (g 7), .int (nI rr), .int (nI rs), .ref (g 10), .ref (g 11), .ref (g 12), .long sd, .ref (g 14), .ref (g 15), .int (nI ac), .ref (g 17), .ref (g 18), .ref (g 19), .int (nI tc), .ref (g 21), .ref (g 22), .ref (g 23), .ref (g 24), .long td9, .ref (g 26), .ref (g 27), .ref (g 28), .ref (g 29), .ref (g 30)])), (g 1, .inl (cI, 64, .inl (fun i9 => nI (tx i9)))), (g 10, .inl (cI, 7, .inl (fun i9 => nI (rd i9)))), (g 11, .inl (cI, 175, .inl (fun i9 => nI (rt i9))))] s.heap := hP
  have hD : va_D A [(g 0, .inr (10, [.int (nI 0), .ref (g 1), .int (nI ts), .int (nI pl), .int (nI rk), .ref (g 5), .int (nI sl), .ref (g 7), .int (nI rr), .int (nI rs), .ref (g 10), .ref (g 11), .ref (g 12), .long sd, .ref (g 14), .ref (g 15), .int (nI ac), .ref (g 17), .ref (g 18), .ref (g 19), .int (nI tc), .ref (g 21), .ref (g 22), .ref (g 23), .ref (g 24), .long td9, .ref (g 26), .ref (g 27), .ref (g 28), .ref (g 29), .ref (g 30)])), (g 1, .inl (cI, 64, .inl (fun i9 => nI (tx i9)))), (g 10, .inl (cI, 7, .inl (fun i9 => nI (rd i9)))), (g 11, .inl (cI, 175, .inl (fun i9 => nI (rt i9))))] := hD
  have hl : lv_has ls 2 [(0, .ref (g 0))] := hl
  have k_0 := hts (.fieldLink RX10 90 "HearsayMarchModel" "place" "I") (by decide +kernel)
  have k_1 := hts (.fieldLink RX10 93 "HearsayMarchModel" "readRanks" "I") (by decide +kernel)
  have k_2 := hts (.fieldLink RX10 110 "HearsayMarchModel" "readSlips" "I") (by decide +kernel)
  have k_3 := hts (.fieldLink RX10 87 "HearsayMarchModel" "textSize" "I") (by decide +kernel)
  have k_4 := hts (.fieldLink RX10 7 "HearsayMarchModel" "text" "[I") (by decide +kernel)
  have k_5 := hts (.fieldLink RX10 22 "HearsayMarchModel" "readTenths" "[I") (by decide +kernel)
  have hin10 : ∀ w ∈ wsX100, w ∈ wsX10_readArmy := by decide +kernel
  refine lv_aload_n hx hb dX10_readArmy_0 rfl (lv_at hl 0 rfl) ?_
  refine lv_iconst (v := nI 0) hx hb dX10_readArmy_1 (by decide) ?_
  refine va_put (D := G) (ci := 10) (v := .int (nI 0)) (ty := tyX10 3) (C := RX10) (T := TX10) (N := 31) hx hb hts hin10 tyX10 tyX10_ok nmX10 hown hK.1 hP hD hS 0 rfl rfl 3 (by decide) k_0 (fun _ h9 => h9) rfl (by decide +kernel) rfl rfl (Nat.le_of_ble_eq_true rfl) dX10_readArmy_2 (fun H locs hP hD hS => ?_)
  have hP : va_P G vwCl [(g 0, .inr (10, [.int (nI 0), .ref (g 1), .int (nI ts), .int (nI 0), .int (nI rk), .ref (g 5), .int (nI sl), .ref (g 7), .int (nI rr), .int (nI rs), .ref (g 10), .ref (g 11), .ref (g 12), .long sd, .ref (g 14), .ref (g 15), .int (nI ac), .ref (g 17), .ref (g 18), .ref (g 19), .int (nI tc), .ref (g 21), .ref (g 22), .ref (g 23), .ref (g 24), .long td9, .ref (g 26), .ref (g 27), .ref (g 28), .ref (g 29), .ref (g 30)])), (g 1, .inl (cI, 64, .inl (fun i9 => nI (tx i9)))), (g 10, .inl (cI, 7, .inl (fun i9 => nI (rd i9)))), (g 11, .inl (cI, 175, .inl (fun i9 => nI (rt i9))))] _ := hP
  have hD : va_D A [(g 0, .inr (10, [.int (nI 0), .ref (g 1), .int (nI ts), .int (nI 0), .int (nI rk), .ref (g 5), .int (nI sl), .ref (g 7), .int (nI rr), .int (nI rs), .ref (g 10), .ref (g 11), .ref (g 12), .long sd, .ref (g 14), .ref (g 15), .int (nI ac), .ref (g 17), .ref (g 18), .ref (g 19), .int (nI tc), .ref (g 21), .ref (g 22), .ref (g 23), .ref (g 24), .long td9, .ref (g 26), .ref (g 27), .ref (g 28), .ref (g 29), .ref (g 30)])), (g 1, .inl (cI, 64, .inl (fun i9 => nI (tx i9)))), (g 10, .inl (cI, 7, .inl (fun i9 => nI (rd i9)))), (g 11, .inl (cI, 175, .inl (fun i9 => nI (rt i9))))] := hD
  refine lv_aload_n hx hb dX10_readArmy_5 rfl (lv_at hl 0 rfl) ?_
  refine lv_iconst (v := nI 0) hx hb dX10_readArmy_6 (by decide) ?_
  refine va_put (D := G) (ci := 10) (v := .int (nI 0)) (ty := tyX10 8) (C := RX10) (T := TX10) (N := 31) hx hb hts hin10 tyX10 tyX10_ok nmX10 hown hK.1 hP hD hS 0 rfl rfl 8 (by decide) k_1 (fun _ h9 => h9) rfl (by decide +kernel) rfl rfl (Nat.le_of_ble_eq_true rfl) dX10_readArmy_7 (fun H locs hP hD hS => ?_)
  have hP : va_P G vwCl [(g 0, .inr (10, [.int (nI 0), .ref (g 1), .int (nI ts), .int (nI 0), .int (nI rk), .ref (g 5), .int (nI sl), .ref (g 7), .int (nI 0), .int (nI rs), .ref (g 10), .ref (g 11), .ref (g 12), .long sd, .ref (g 14), .ref (g 15), .int (nI ac), .ref (g 17), .ref (g 18), .ref (g 19), .int (nI tc), .ref (g 21), .ref (g 22), .ref (g 23), .ref (g 24), .long td9, .ref (g 26), .ref (g 27), .ref (g 28), .ref (g 29), .ref (g 30)])), (g 1, .inl (cI, 64, .inl (fun i9 => nI (tx i9)))), (g 10, .inl (cI, 7, .inl (fun i9 => nI (rd i9)))), (g 11, .inl (cI, 175, .inl (fun i9 => nI (rt i9))))] _ := hP
  have hD : va_D A [(g 0, .inr (10, [.int (nI 0), .ref (g 1), .int (nI ts), .int (nI 0), .int (nI rk), .ref (g 5), .int (nI sl), .ref (g 7), .int (nI 0), .int (nI rs), .ref (g 10), .ref (g 11), .ref (g 12), .long sd, .ref (g 14), .ref (g 15), .int (nI ac), .ref (g 17), .ref (g 18), .ref (g 19), .int (nI tc), .ref (g 21), .ref (g 22), .ref (g 23), .ref (g 24), .long td9, .ref (g 26), .ref (g 27), .ref (g 28), .ref (g 29), .ref (g 30)])), (g 1, .inl (cI, 64, .inl (fun i9 => nI (tx i9)))), (g 10, .inl (cI, 7, .inl (fun i9 => nI (rd i9)))), (g 11, .inl (cI, 175, .inl (fun i9 => nI (rt i9))))] := hD
  refine lv_aload_n hx hb dX10_readArmy_10 rfl (lv_at hl 0 rfl) ?_
  refine lv_iconst (v := nI 0) hx hb dX10_readArmy_11 (by decide) ?_
  refine va_put (D := G) (ci := 10) (v := .int (nI 0)) (ty := tyX10 9) (C := RX10) (T := TX10) (N := 31) hx hb hts hin10 tyX10 tyX10_ok nmX10 hown hK.1 hP hD hS 0 rfl rfl 9 (by decide) k_2 (fun _ h9 => h9) rfl (by decide +kernel) rfl rfl (Nat.le_of_ble_eq_true rfl) dX10_readArmy_12 (fun H locs hP hD hS => ?_)
  have hP : va_P G vwCl [(g 0, .inr (10, [.int (nI 0), .ref (g 1), .int (nI ts), .int (nI 0), .int (nI rk), .ref (g 5), .int (nI sl), .ref (g 7), .int (nI 0), .int (nI 0), .ref (g 10), .ref (g 11), .ref (g 12), .long sd, .ref (g 14), .ref (g 15), .int (nI ac), .ref (g 17), .ref (g 18), .ref (g 19), .int (nI tc), .ref (g 21), .ref (g 22), .ref (g 23), .ref (g 24), .long td9, .ref (g 26), .ref (g 27), .ref (g 28), .ref (g 29), .ref (g 30)])), (g 1, .inl (cI, 64, .inl (fun i9 => nI (tx i9)))), (g 10, .inl (cI, 7, .inl (fun i9 => nI (rd i9)))), (g 11, .inl (cI, 175, .inl (fun i9 => nI (rt i9))))] _ := hP
  have hD : va_D A [(g 0, .inr (10, [.int (nI 0), .ref (g 1), .int (nI ts), .int (nI 0), .int (nI rk), .ref (g 5), .int (nI sl), .ref (g 7), .int (nI 0), .int (nI 0), .ref (g 10), .ref (g 11), .ref (g 12), .long sd, .ref (g 14), .ref (g 15), .int (nI ac), .ref (g 17), .ref (g 18), .ref (g 19), .int (nI tc), .ref (g 21), .ref (g 22), .ref (g 23), .ref (g 24), .long td9, .ref (g 26), .ref (g 27), .ref (g 28), .ref (g 29), .ref (g 30)])), (g 1, .inl (cI, 64, .inl (fun i9 => nI (tx i9)))), (g 10, .inl (cI, 7, .inl (fun i9 => nI (rd i9)))), (g 11, .inl (cI, 175, .inl (fun i9 => nI (rt i9))))] := hD
  refine lv_iconst (v := nI 0) hx hb dX10_readArmy_15 (by decide) ?_
  refine lv_istore_n (lv' := [(1, .int (nI 0)), (0, .ref (g 0))]) hx hb dX10_readArmy_16 rfl hl (by decide) rfl (fun ls hl => ?_)
  refine loopW (σ := Nat × (Nat → Nat)) 17 (fun xx9 H locs ls => match xx9 with | (i, t) => (i ≤ 175) ∧ (∀ j, j < i → t j = 0) ∧ va_P G vwCl [(g 0, .inr (10, [.int (nI 0), .ref (g 1), .int (nI ts), .int (nI 0), .int (nI rk), .ref (g 5), .int (nI sl), .ref (g 7), .int (nI 0), .int (nI 0), .ref (g 10), .ref (g 11), .ref (g 12), .long sd, .ref (g 14), .ref (g 15), .int (nI ac), .ref (g 17), .ref (g 18), .ref (g 19), .int (nI tc), .ref (g 21), .ref (g 22), .ref (g 23), .ref (g 24), .long td9, .ref (g 26), .ref (g 27), .ref (g 28), .ref (g 29), .ref (g 30)])), (g 1, .inl (cI, 64, .inl (fun i9 => nI (tx i9)))), (g 10, .inl (cI, 7, .inl (fun i9 => nI (rd i9)))), (g 11, .inl (cI, 175, .inl (fun i9 => nI (t i9))))] H ∧ va_D A [(g 0, .inr (10, [.int (nI 0), .ref (g 1), .int (nI ts), .int (nI 0), .int (nI rk), .ref (g 5), .int (nI sl), .ref (g 7), .int (nI 0), .int (nI 0), .ref (g 10), .ref (g 11), .ref (g 12), .long sd, .ref (g 14), .ref (g 15), .int (nI ac), .ref (g 17), .ref (g 18), .ref (g 19), .int (nI tc), .ref (g 21), .ref (g 22), .ref (g 23), .ref (g 24), .long td9, .ref (g 26), .ref (g 27), .ref (g 28), .ref (g 29), .ref (g 30)])), (g 1, .inl (cI, 64, .inl (fun i9 => nI (tx i9)))), (g 10, .inl (cI, 7, .inl (fun i9 => nI (rd i9)))), (g 11, .inl (cI, 175, .inl (fun i9 => nI (t i9))))] ∧ va_S A s.heap H locs ∧ lv_has ls 2 [(1, .int (nI i)), (0, .ref (g 0))]) (fun xx9 => match xx9 with | (i, t) => []) (fun xx9 => match xx9 with | (i, t) => 175 - i) ?_ (0, rt) ⟨by first | assumption | omega | (simp; done), fun j hj => absurd hj (Nat.not_lt_zero _), hP.sub [0, 1, 2, 3] rfl, hD.sub [0, 1, 2, 3] (by decide) rfl, hS, lv_sub hl [0, 1] rfl⟩
  intro xx9 H locs ls hI ih_17
  obtain ⟨i, t⟩ := xx9
  obtain ⟨hi, ht, hP, hD, hS, hl⟩ := hI
  have hi : i ≤ 175 := hi
  have ht : ∀ j, j < i → t j = 0 := ht
  have hP : va_P G vwCl [(g 0, .inr (10, [.int (nI 0), .ref (g 1), .int (nI ts), .int (nI 0), .int (nI rk), .ref (g 5), .int (nI sl), .ref (g 7), .int (nI 0), .int (nI 0), .ref (g 10), .ref (g 11), .ref (g 12), .long sd, .ref (g 14), .ref (g 15), .int (nI ac), .ref (g 17), .ref (g 18), .ref (g 19), .int (nI tc), .ref (g 21), .ref (g 22), .ref (g 23), .ref (g 24), .long td9, .ref (g 26), .ref (g 27), .ref (g 28), .ref (g 29), .ref (g 30)])), (g 1, .inl (cI, 64, .inl (fun i9 => nI (tx i9)))), (g 10, .inl (cI, 7, .inl (fun i9 => nI (rd i9)))), (g 11, .inl (cI, 175, .inl (fun i9 => nI (t i9))))] _ := hP
  have hD : va_D A [(g 0, .inr (10, [.int (nI 0), .ref (g 1), .int (nI ts), .int (nI 0), .int (nI rk), .ref (g 5), .int (nI sl), .ref (g 7), .int (nI 0), .int (nI 0), .ref (g 10), .ref (g 11), .ref (g 12), .long sd, .ref (g 14), .ref (g 15), .int (nI ac), .ref (g 17), .ref (g 18), .ref (g 19), .int (nI tc), .ref (g 21), .ref (g 22), .ref (g 23), .ref (g 24), .long td9, .ref (g 26), .ref (g 27), .ref (g 28), .ref (g 29), .ref (g 30)])), (g 1, .inl (cI, 64, .inl (fun i9 => nI (tx i9)))), (g 10, .inl (cI, 7, .inl (fun i9 => nI (rd i9)))), (g 11, .inl (cI, 175, .inl (fun i9 => nI (t i9))))] := hD
  have hl : lv_has ls 2 [(1, .int (nI i)), (0, .ref (g 0))] := hl
  refine lv_iload_n hx hb dX10_readArmy_17 rfl (lv_at hl 0 rfl) ?_
  refine lv_sipush (v := nI 175) hx hb dX10_readArmy_18 (by decide) ?_
  refine lv_icmp_ge (tgt := 37) hx hb dX10_readArmy_21 (by decide) (fun c_21 => ?_) (fun c_21 => ?_)
  · skip
    have c_21 := n_geT c_21 (by omega) (by omega)
    refine lv_aload_n hx hb dX10_readArmy_37 rfl (lv_at hl 1 rfl) ?_
    refine va_get (D := G) (ci := 10) (v := .int (nI ts)) (C := RX10) (T := TX10) (N := 31) hx hb hts hin10 hown hK.1 hP 0 rfl rfl 2 (by decide) k_3 (fun _ h9 => h9) rfl dX10_readArmy_38 ?_
    refine lv_if_eq (tgt := 55) hx hb dX10_readArmy_41 (by decide) (fun c_41 => ?_) (fun c_41 => ?_)
    · skip
      have c_41 := z_eqT c_41 (by omega)
      refine lv_iconst (v := nI 0) hx hb dX10_readArmy_55 (by decide) ?_
      exact endI hx hb hr hlocks ((0, 0, 0, rd, t)) (⟨Or.inr ⟨RS0, by rw [c_41]; rfl, by rw [c_41]; rfl⟩, fun z => absurd z (by decide)⟩) (hP.sub [0, 1, 2, 3] rfl) (hD.sub [0, 1, 2, 3] (by decide) rfl) hS dX10_readArmy_56
    · skip
      have c_41 := z_eqF c_41 (by omega)
      have hc9 := htx 0 (by omega)
      refine lv_aload_n hx hb dX10_readArmy_44 rfl (lv_at hl 1 rfl) ?_
      refine va_get (D := G) (ci := 10) (v := .ref (g 1)) (C := RX10) (T := TX10) (N := 31) hx hb hts hin10 hown hK.1 hP 0 rfl rfl 1 (by decide) k_4 (fun _ h9 => h9) rfl dX10_readArmy_45 ?_
      refine lv_iconst (v := nI 0) hx hb dX10_readArmy_48 (by decide) ?_
      refine ald hx hb hK hP 1 0 rfl rfl (j := 0) (by omega) (by omega) dX10_readArmy_49 ?_
      refine lv_bipush (v := nI 72) hx hb dX10_readArmy_50 (by decide) ?_
      refine lv_icmp_eq (tgt := 57) hx hb dX10_readArmy_52 (by decide) (fun c_52 => ?_) (fun c_52 => ?_)
      · skip
        have c_52 := n_eqT c_52 (by omega) (by omega)
        refine lv_aload_n hx hb dX10_readArmy_57 rfl (lv_at hl 1 rfl) ?_
        refine lv_iconst (v := nI 1) hx hb dX10_readArmy_58 (by decide) ?_
        refine va_put (D := G) (ci := 10) (v := .int (nI 1)) (ty := tyX10 3) (C := RX10) (T := TX10) (N := 31) hx hb hts hin10 tyX10 tyX10_ok nmX10 hown hK.1 hP hD hS 0 rfl rfl 3 (by decide) k_0 (fun _ h9 => h9) rfl (by decide +kernel) rfl rfl (Nat.le_of_ble_eq_true rfl) dX10_readArmy_59 (fun H locs hP hD hS => ?_)
        have hP : va_P G vwCl [(g 0, .inr (10, [.int (nI 0), .ref (g 1), .int (nI ts), .int (nI 1), .int (nI rk), .ref (g 5), .int (nI sl), .ref (g 7), .int (nI 0), .int (nI 0), .ref (g 10), .ref (g 11), .ref (g 12), .long sd, .ref (g 14), .ref (g 15), .int (nI ac), .ref (g 17), .ref (g 18), .ref (g 19), .int (nI tc), .ref (g 21), .ref (g 22), .ref (g 23), .ref (g 24), .long td9, .ref (g 26), .ref (g 27), .ref (g 28), .ref (g 29), .ref (g 30)])), (g 1, .inl (cI, 64, .inl (fun i9 => nI (tx i9)))), (g 10, .inl (cI, 7, .inl (fun i9 => nI (rd i9)))), (g 11, .inl (cI, 175, .inl (fun i9 => nI (t i9))))] _ := hP
        have hD : va_D A [(g 0, .inr (10, [.int (nI 0), .ref (g 1), .int (nI ts), .int (nI 1), .int (nI rk), .ref (g 5), .int (nI sl), .ref (g 7), .int (nI 0), .int (nI 0), .ref (g 10), .ref (g 11), .ref (g 12), .long sd, .ref (g 14), .ref (g 15), .int (nI ac), .ref (g 17), .ref (g 18), .ref (g 19), .int (nI tc), .ref (g 21), .ref (g 22), .ref (g 23), .ref (g 24), .long td9, .ref (g 26), .ref (g 27), .ref (g 28), .ref (g 29), .ref (g 30)])), (g 1, .inl (cI, 64, .inl (fun i9 => nI (tx i9)))), (g 10, .inl (cI, 7, .inl (fun i9 => nI (rd i9)))), (g 11, .inl (cI, 175, .inl (fun i9 => nI (t i9))))] := hD
        refine loopW (σ := Nat × Nat × Nat × (Nat → Nat) × (Nat → Nat)) 62 (fun xx9 H locs ls => match xx9 with | (p, r2, s2, d2, t2) => (p ≤ ts) ∧ (∃ s9, runN tx p = some s9 ∧ s9.1 = 1 ∧ RMo s9 d2 t2 r2 s2) ∧ va_P G vwCl [(g 0, .inr (10, [.int (nI 0), .ref (g 1), .int (nI ts), .int (nI p), .int (nI rk), .ref (g 5), .int (nI sl), .ref (g 7), .int (nI r2), .int (nI s2), .ref (g 10), .ref (g 11), .ref (g 12), .long sd, .ref (g 14), .ref (g 15), .int (nI ac), .ref (g 17), .ref (g 18), .ref (g 19), .int (nI tc), .ref (g 21), .ref (g 22), .ref (g 23), .ref (g 24), .long td9, .ref (g 26), .ref (g 27), .ref (g 28), .ref (g 29), .ref (g 30)])), (g 1, .inl (cI, 64, .inl (fun i9 => nI (tx i9)))), (g 10, .inl (cI, 7, .inl (fun i9 => nI (d2 i9)))), (g 11, .inl (cI, 175, .inl (fun i9 => nI (t2 i9))))] H ∧ va_D A [(g 0, .inr (10, [.int (nI 0), .ref (g 1), .int (nI ts), .int (nI p), .int (nI rk), .ref (g 5), .int (nI sl), .ref (g 7), .int (nI r2), .int (nI s2), .ref (g 10), .ref (g 11), .ref (g 12), .long sd, .ref (g 14), .ref (g 15), .int (nI ac), .ref (g 17), .ref (g 18), .ref (g 19), .int (nI tc), .ref (g 21), .ref (g 22), .ref (g 23), .ref (g 24), .long td9, .ref (g 26), .ref (g 27), .ref (g 28), .ref (g 29), .ref (g 30)])), (g 1, .inl (cI, 64, .inl (fun i9 => nI (tx i9)))), (g 10, .inl (cI, 7, .inl (fun i9 => nI (d2 i9)))), (g 11, .inl (cI, 175, .inl (fun i9 => nI (t2 i9))))] ∧ va_S A s.heap H locs ∧ lv_has ls 2 [(1, .int (nI i)), (0, .ref (g 0))]) (fun xx9 => match xx9 with | (p, r2, s2, d2, t2) => []) (fun xx9 => match xx9 with | (p, r2, s2, d2, t2) => ts - p) ?_ (1, 0, 0, rd, t) ⟨by first | assumption | omega | (simp; done), rd_0 c_52 (fun j hj => ht j (by omega)), hP.sub [0, 1, 2, 3] rfl, hD.sub [0, 1, 2, 3] (by decide) rfl, hS, lv_sub hl [0, 1] rfl⟩
        intro xx9 H locs ls hI ih_62
        obtain ⟨p, r2, s2, d2, t2⟩ := xx9
        obtain ⟨hp, hrun, hP, hD, hS, hl⟩ := hI
        have hp : p ≤ ts := hp
        have hrun : ∃ s9, runN tx p = some s9 ∧ s9.1 = 1 ∧ RMo s9 d2 t2 r2 s2 := hrun
        have hP : va_P G vwCl [(g 0, .inr (10, [.int (nI 0), .ref (g 1), .int (nI ts), .int (nI p), .int (nI rk), .ref (g 5), .int (nI sl), .ref (g 7), .int (nI r2), .int (nI s2), .ref (g 10), .ref (g 11), .ref (g 12), .long sd, .ref (g 14), .ref (g 15), .int (nI ac), .ref (g 17), .ref (g 18), .ref (g 19), .int (nI tc), .ref (g 21), .ref (g 22), .ref (g 23), .ref (g 24), .long td9, .ref (g 26), .ref (g 27), .ref (g 28), .ref (g 29), .ref (g 30)])), (g 1, .inl (cI, 64, .inl (fun i9 => nI (tx i9)))), (g 10, .inl (cI, 7, .inl (fun i9 => nI (d2 i9)))), (g 11, .inl (cI, 175, .inl (fun i9 => nI (t2 i9))))] _ := hP
        have hD : va_D A [(g 0, .inr (10, [.int (nI 0), .ref (g 1), .int (nI ts), .int (nI p), .int (nI rk), .ref (g 5), .int (nI sl), .ref (g 7), .int (nI r2), .int (nI s2), .ref (g 10), .ref (g 11), .ref (g 12), .long sd, .ref (g 14), .ref (g 15), .int (nI ac), .ref (g 17), .ref (g 18), .ref (g 19), .int (nI tc), .ref (g 21), .ref (g 22), .ref (g 23), .ref (g 24), .long td9, .ref (g 26), .ref (g 27), .ref (g 28), .ref (g 29), .ref (g 30)])), (g 1, .inl (cI, 64, .inl (fun i9 => nI (tx i9)))), (g 10, .inl (cI, 7, .inl (fun i9 => nI (d2 i9)))), (g 11, .inl (cI, 175, .inl (fun i9 => nI (t2 i9))))] := hD
        have hl : lv_has ls 2 [(1, .int (nI i)), (0, .ref (g 0))] := hl
        refine lv_aload_n hx hb dX10_readArmy_62 rfl (lv_at hl 1 rfl) ?_
        refine va_get (D := G) (ci := 10) (v := .int (nI p)) (C := RX10) (T := TX10) (N := 31) hx hb hts hin10 hown hK.1 hP 0 rfl rfl 3 (by decide) k_0 (fun _ h9 => h9) rfl dX10_readArmy_63 ?_
        refine lv_aload_n hx hb dX10_readArmy_66 rfl (lv_at hl 1 rfl) ?_
        refine va_get (D := G) (ci := 10) (v := .int (nI ts)) (C := RX10) (T := TX10) (N := 31) hx hb hts hin10 hown hK.1 hP 0 rfl rfl 2 (by decide) k_3 (fun _ h9 => h9) rfl dX10_readArmy_67 ?_
        refine lv_icmp_ge (tgt := 85) hx hb dX10_readArmy_70 (by decide) (fun c_70 => ?_) (fun c_70 => ?_)
        · skip
          have c_70 := n_geT c_70 (by omega) (by omega)
          have hpt : p = ts := by omega
          subst hpt
          refine lv_bipush (v := (-9)) hx hb dX10_readArmy_85 (by decide) ?_
          exact endI hx hb hr hlocks ((p, r2, s2, d2, t2)) (rd_end hrun) (hP.sub [0, 1, 2, 3] rfl) (hD.sub [0, 1, 2, 3] (by decide) rfl) hS dX10_readArmy_87
        · skip
          have c_70 := n_geF c_70 (by omega) (by omega)
          refine lv_aload_n hx hb dX10_readArmy_73 rfl (lv_at hl 1 rfl) ?_
          refine aft_i (wr := []) (va_runV (As := []) (rest := []) ⟨hx, hb, hml, hown, hts⟩ (c_X10_readPart (g := g) (ts := ts) (pl := p) (rk := rk) (sl := sl) (rr := r2) (rs := s2) (ac := ac) (tc := tc) (sd := sd) (td9 := td9) (tx := tx) (rd := d2) (rt := t2) (hpl := by omega) (hts := by first | assumption | omega | exact hok.1 _ (by omega) | exact hok.2.2 _ _ (by omega) (by omega) | exact hok.2.1) (htx := by first | assumption | omega | exact hok.1 _ (by omega) | exact hok.2.2 _ _ (by omega) (by omega) | exact hok.2.1) (hrun := hrun) (hpl2 := by omega) _) (cwV 0 hts gX10_readArmy_X10_readPart rfl rfl rfl (by decide +kernel) ⟨Nat.le_of_ble_eq_true rfl, Nat.le_of_ble_eq_true rfl⟩) (preV (cq := (RX10, TX10, 31)) (q0 := 0) (ci := 10) hK hP hD [0, 1, 2, 3] rfl rfl rfl rfl) rfl rfl hl.1 rfl (lv_room (Nat.le_of_ble_eq_true rfl)) dX10_readArmy_74 ⟨Nat.le_of_ble_eq_true rfl, Nat.le_of_ble_eq_true rfl⟩) hP hD hS hA [0, 1, 2, 3] [] rfl rfl rfl (by decide) (fun r_74 uu9 H locs hw hP hD hS => ?_)
          obtain ⟨p1_74, rr1_74, rs1_74, rd1_74, rt1_74⟩ := uu9
          have hP : va_P G vwCl [(g 0, .inr (10, [.int (nI 0), .ref (g 1), .int (nI ts), .int (nI p1_74), .int (nI rk), .ref (g 5), .int (nI sl), .ref (g 7), .int (nI rr1_74), .int (nI rs1_74), .ref (g 10), .ref (g 11), .ref (g 12), .long sd, .ref (g 14), .ref (g 15), .int (nI ac), .ref (g 17), .ref (g 18), .ref (g 19), .int (nI tc), .ref (g 21), .ref (g 22), .ref (g 23), .ref (g 24), .long td9, .ref (g 26), .ref (g 27), .ref (g 28), .ref (g 29), .ref (g 30)])), (g 1, .inl (cI, 64, .inl (fun i9 => nI (tx i9)))), (g 10, .inl (cI, 7, .inl (fun i9 => nI (rd1_74 i9)))), (g 11, .inl (cI, 175, .inl (fun i9 => nI (rt1_74 i9))))] _ := hP
          have hD : va_D A [(g 0, .inr (10, [.int (nI 0), .ref (g 1), .int (nI ts), .int (nI p1_74), .int (nI rk), .ref (g 5), .int (nI sl), .ref (g 7), .int (nI rr1_74), .int (nI rs1_74), .ref (g 10), .ref (g 11), .ref (g 12), .long sd, .ref (g 14), .ref (g 15), .int (nI ac), .ref (g 17), .ref (g 18), .ref (g 19), .int (nI tc), .ref (g 21), .ref (g 22), .ref (g 23), .ref (g 24), .long td9, .ref (g 26), .ref (g 27), .ref (g 28), .ref (g 29), .ref (g 30)])), (g 1, .inl (cI, 64, .inl (fun i9 => nI (tx i9)))), (g 10, .inl (cI, 7, .inl (fun i9 => nI (rd1_74 i9)))), (g 11, .inl (cI, 175, .inl (fun i9 => nI (rt1_74 i9))))] := hD
          have hw_74 := hw
          have hw_74 : PaP tx ts p p1_74 rd1_74 rt1_74 rr1_74 rs1_74 r_74 := hw_74
          refine lv_if_ne (tgt := 62) hx hb dX10_readArmy_77 (by decide) (fun c_77 => ?_) (fun c_77 => ?_)
          · skip
            exact ih_62 (p1_74, rr1_74, rs1_74, rd1_74, rt1_74) _ _ _ (by have := (PaP_y hw_74 c_77).1; have := (PaP_y hw_74 c_77).2.1; show ts - p1_74 < ts - p; omega) ⟨(PaP_y hw_74 c_77).2.1, (PaP_y hw_74 c_77).2.2, hP.sub [0, 1, 2, 3] rfl, hD.sub [0, 1, 2, 3] (by decide) rfl, hS, lv_sub hl [0, 1] rfl⟩
          · skip
            refine lv_aload_n hx hb dX10_readArmy_80 rfl (lv_at hl 1 rfl) ?_
            refine va_get (D := G) (ci := 10) (v := .int (nI p1_74)) (C := RX10) (T := TX10) (N := 31) hx hb hts hin10 hown hK.1 hP 0 rfl rfl 3 (by decide) k_0 (fun _ h9 => h9) rfl dX10_readArmy_81 ?_
            exact endI hx hb hr hlocks ((p1_74, rr1_74, rs1_74, rd1_74, rt1_74)) (⟨PaP_n hw_74 c_77, fun z => absurd z (nI_ne9 (by have := PaP_le hw_74; omega))⟩) (hP.sub [0, 1, 2, 3] rfl) (hD.sub [0, 1, 2, 3] (by decide) rfl) hS dX10_readArmy_84
      · skip
        have c_52 := n_eqF c_52 (by omega) (by omega)
        refine lv_iconst (v := nI 0) hx hb dX10_readArmy_55 (by decide) ?_
        exact endI hx hb hr hlocks ((0, 0, 0, rd, t)) (⟨Or.inl ⟨0, by omega, ⟨RS0, rfl⟩, rd_no c_52, rfl⟩, fun z => absurd z (by decide)⟩) (hP.sub [0, 1, 2, 3] rfl) (hD.sub [0, 1, 2, 3] (by decide) rfl) hS dX10_readArmy_56
  · skip
    have c_21 := n_geF c_21 (by omega) (by omega)
    refine lv_aload_n hx hb dX10_readArmy_24 rfl (lv_at hl 1 rfl) ?_
    refine va_get (D := G) (ci := 10) (v := .ref (g 11)) (C := RX10) (T := TX10) (N := 31) hx hb hts hin10 hown hK.1 hP 0 rfl rfl 11 (by decide) k_5 (fun _ h9 => h9) rfl dX10_readArmy_25 ?_
    refine lv_iload_n hx hb dX10_readArmy_28 rfl (lv_at hl 0 rfl) ?_
    refine lv_iconst (v := nI 0) hx hb dX10_readArmy_29 (by decide) ?_
    refine ast (f' := fun i9 => nI ((va_up t i 0) i9)) hx hb hK hP hD hS 3 0 rfl rfl (j := i) (by omega) (by omega) (upd_nat) dX10_readArmy_30 (fun H locs hP hD hS => ?_)
    have hP : va_P G vwCl [(g 0, .inr (10, [.int (nI 0), .ref (g 1), .int (nI ts), .int (nI 0), .int (nI rk), .ref (g 5), .int (nI sl), .ref (g 7), .int (nI 0), .int (nI 0), .ref (g 10), .ref (g 11), .ref (g 12), .long sd, .ref (g 14), .ref (g 15), .int (nI ac), .ref (g 17), .ref (g 18), .ref (g 19), .int (nI tc), .ref (g 21), .ref (g 22), .ref (g 23), .ref (g 24), .long td9, .ref (g 26), .ref (g 27), .ref (g 28), .ref (g 29), .ref (g 30)])), (g 1, .inl (cI, 64, .inl (fun i9 => nI (tx i9)))), (g 10, .inl (cI, 7, .inl (fun i9 => nI (rd i9)))), (g 11, .inl (cI, 175, .inl (fun i9 => nI ((va_up t i 0) i9))))] _ := hP
    have hD : va_D A [(g 0, .inr (10, [.int (nI 0), .ref (g 1), .int (nI ts), .int (nI 0), .int (nI rk), .ref (g 5), .int (nI sl), .ref (g 7), .int (nI 0), .int (nI 0), .ref (g 10), .ref (g 11), .ref (g 12), .long sd, .ref (g 14), .ref (g 15), .int (nI ac), .ref (g 17), .ref (g 18), .ref (g 19), .int (nI tc), .ref (g 21), .ref (g 22), .ref (g 23), .ref (g 24), .long td9, .ref (g 26), .ref (g 27), .ref (g 28), .ref (g 29), .ref (g 30)])), (g 1, .inl (cI, 64, .inl (fun i9 => nI (tx i9)))), (g 10, .inl (cI, 7, .inl (fun i9 => nI (rd i9)))), (g 11, .inl (cI, 175, .inl (fun i9 => nI ((va_up t i 0) i9))))] := hD
    refine lv_iinc (v := nI (i + 1)) (lv' := [(1, .int (nI (i + 1))), (0, .ref (g 0))]) hx hb dX10_readArmy_31 hl (k := 0) rfl (nI_inc _ 1 1 (by decide)) (by decide) rfl (fun ls hl => ?_)
    refine lv_goto (tgt := 17) hx hb dX10_readArmy_34 (by decide) ?_
    exact ih_17 (i + 1, va_up t i 0) _ _ _ (by first | omega | (simp only []; omega) | (show _ < _; omega)) ⟨by first | assumption | omega | (simp; done), fun j hj => by by_cases e : j = i; (rw [e, va_up_self]); rw [va_up_ne _ _ e]; exact ht j (by omega), hP.sub [0, 1, 2, 3] rfl, hD.sub [0, 1, 2, 3] (by decide) rfl, hS, lv_sub hl [0, 1] rfl⟩

set_option maxHeartbeats 4000000 in
set_option maxRecDepth 100000 in
theorem c_X10_fault {l : Launch} {G : va_G} {cI cJ cZ cS : ClassId} (g : Nat → Nat) (ts : Nat) (pl : Nat) (rk : Nat) (sl : Nat) (rr : Nat) (rs : Nat) (ac : Nat) (tc : Nat) (sd : Int64) (td9 : Int64) (tx : Nat → Nat) (rd : Nat → Nat) (rt : Nat → Nat) (hts : ts ≤ 64) (htx : ∀ j, j < ts → tx j < 256) : CI l G (kT cI cJ cZ cS) (S := Nat × Nat × Nat × (Nat → Nat) × (Nat → Nat)) yX10_fault wsX10_fault { frames := 5, cells := 0, slots := 0, locals := 115 } [.ref (g 0)] [(g 0, .inr (10, [.int (nI 0), .ref (g 1), .int (nI ts), .int (nI pl), .int (nI rk), .ref (g 5), .int (nI sl), .ref (g 7), .int (nI rr), .int (nI rs), .ref (g 10), .ref (g 11), .ref (g 12), .long sd, .ref (g 14), .ref (g 15), .int (nI ac), .ref (g 17), .ref (g 18), .ref (g 19), .int (nI tc), .ref (g 21), .ref (g 22), .ref (g 23), .ref (g 24), .long td9, .ref (g 26), .ref (g 27), .ref (g 28), .ref (g 29), .ref (g 30)])), (g 1, .inl (cI, 64, .inl (fun i9 => nI (tx i9)))), (g 10, .inl (cI, 7, .inl (fun i9 => nI (rd i9)))), (g 11, .inl (cI, 175, .inl (fun i9 => nI (rt i9))))] (fun res uu9 => match uu9 with | (p1, rr1, rs1, rd1, rt1) => FaultIs tx ts res ∧ (res = -9 → ∃ s9, runN tx ts = some s9 ∧ RMo s9 rd1 rt1 rr1 rs1)) (fun uu9 => match uu9 with | (p1, rr1, rs1, rd1, rt1) => [(g 0, .inr (10, [.int (nI 0), .ref (g 1), .int (nI ts), .int (nI p1), .int (nI rk), .ref (g 5), .int (nI sl), .ref (g 7), .int (nI rr1), .int (nI rs1), .ref (g 10), .ref (g 11), .ref (g 12), .long sd, .ref (g 14), .ref (g 15), .int (nI ac), .ref (g 17), .ref (g 18), .ref (g 19), .int (nI tc), .ref (g 21), .ref (g 22), .ref (g 23), .ref (g 24), .long td9, .ref (g 26), .ref (g 27), .ref (g 28), .ref (g 29), .ref (g 30)])), (g 1, .inl (cI, 64, .inl (fun i9 => nI (tx i9)))), (g 10, .inl (cI, 7, .inl (fun i9 => nI (rd1 i9)))), (g 11, .inl (cI, 175, .inl (fun i9 => nI (rt1 i9))))]) := by
  refine CI.of (cc := cX10_fault) (maxL := 1) (by decide) rfl (Nat.le_of_ble_eq_true rfl) ?_
  intro p9 e9 s m below meth co9 A ls hB
  obtain ⟨hx, hb, hml, hr, hts, hown, hlocks, hmn, hK, hP, hD, hS, hA, hl⟩ := hB
  have hP : va_P G vwCl [(g 0, .inr (10, [.int (nI 0), .ref (g 1), .int (nI ts), .int (nI pl), .int (nI rk), .ref (g 5), .int (nI sl), .ref (g 7), .int (nI rr), .int (nI rs), .ref (g 10), .ref (g 11), .ref (g 12), .long sd, .ref (g 14), .ref (g 15), .int (nI ac), .ref (g 17), .ref (g 18), .ref (g 19), .int (nI tc), .ref (g 21), .ref (g 22), .ref (g 23), .ref (g 24), .long td9, .ref (g 26), .ref (g 27), .ref (g 28), .ref (g 29), .ref (g 30)])), (g 1, .inl (cI, 64, .inl (fun i9 => nI (tx i9)))), (g 10, .inl (cI, 7, .inl (fun i9 => nI (rd i9)))), (g 11, .inl (cI, 175, .inl (fun i9 => nI (rt i9))))] s.heap := hP
  have hD : va_D A [(g 0, .inr (10, [.int (nI 0), .ref (g 1), .int (nI ts), .int (nI pl), .int (nI rk), .ref (g 5), .int (nI sl), .ref (g 7), .int (nI rr), .int (nI rs), .ref (g 10), .ref (g 11), .ref (g 12), .long sd, .ref (g 14), .ref (g 15), .int (nI ac), .ref (g 17), .ref (g 18), .ref (g 19), .int (nI tc), .ref (g 21), .ref (g 22), .ref (g 23), .ref (g 24), .long td9, .ref (g 26), .ref (g 27), .ref (g 28), .ref (g 29), .ref (g 30)])), (g 1, .inl (cI, 64, .inl (fun i9 => nI (tx i9)))), (g 10, .inl (cI, 7, .inl (fun i9 => nI (rd i9)))), (g 11, .inl (cI, 175, .inl (fun i9 => nI (rt i9))))] := hD
  have hl : lv_has ls 1 [(0, .ref (g 0))] := hl
  have k_0 := hts (.fieldLink RX10 72 "HearsayMarchModel" "thrown" "I") (by decide +kernel)
  have hin10 : ∀ w ∈ wsX100, w ∈ wsX10_fault := by decide +kernel
  refine lv_aload_n hx hb dX10_fault_0 rfl (lv_at hl 0 rfl) ?_
  refine lv_iconst (v := nI 0) hx hb dX10_fault_1 (by decide) ?_
  refine va_put (D := G) (ci := 10) (v := .int (nI 0)) (ty := tyX10 0) (C := RX10) (T := TX10) (N := 31) hx hb hts hin10 tyX10 tyX10_ok nmX10 hown hK.1 hP hD hS 0 rfl rfl 0 (by decide) k_0 (fun _ h9 => h9) rfl (by decide +kernel) rfl rfl (Nat.le_of_ble_eq_true rfl) dX10_fault_2 (fun H locs hP hD hS => ?_)
  have hP : va_P G vwCl [(g 0, .inr (10, [.int (nI 0), .ref (g 1), .int (nI ts), .int (nI pl), .int (nI rk), .ref (g 5), .int (nI sl), .ref (g 7), .int (nI rr), .int (nI rs), .ref (g 10), .ref (g 11), .ref (g 12), .long sd, .ref (g 14), .ref (g 15), .int (nI ac), .ref (g 17), .ref (g 18), .ref (g 19), .int (nI tc), .ref (g 21), .ref (g 22), .ref (g 23), .ref (g 24), .long td9, .ref (g 26), .ref (g 27), .ref (g 28), .ref (g 29), .ref (g 30)])), (g 1, .inl (cI, 64, .inl (fun i9 => nI (tx i9)))), (g 10, .inl (cI, 7, .inl (fun i9 => nI (rd i9)))), (g 11, .inl (cI, 175, .inl (fun i9 => nI (rt i9))))] _ := hP
  have hD : va_D A [(g 0, .inr (10, [.int (nI 0), .ref (g 1), .int (nI ts), .int (nI pl), .int (nI rk), .ref (g 5), .int (nI sl), .ref (g 7), .int (nI rr), .int (nI rs), .ref (g 10), .ref (g 11), .ref (g 12), .long sd, .ref (g 14), .ref (g 15), .int (nI ac), .ref (g 17), .ref (g 18), .ref (g 19), .int (nI tc), .ref (g 21), .ref (g 22), .ref (g 23), .ref (g 24), .long td9, .ref (g 26), .ref (g 27), .ref (g 28), .ref (g 29), .ref (g 30)])), (g 1, .inl (cI, 64, .inl (fun i9 => nI (tx i9)))), (g 10, .inl (cI, 7, .inl (fun i9 => nI (rd i9)))), (g 11, .inl (cI, 175, .inl (fun i9 => nI (rt i9))))] := hD
  refine lv_aload_n hx hb dX10_fault_5 rfl (lv_at hl 0 rfl) ?_
  refine aft_i (wr := []) (va_runV (As := []) (rest := []) ⟨hx, hb, hml, hown, hts⟩ (c_X10_readArmy (g := g) (ts := ts) (pl := pl) (rk := rk) (sl := sl) (rr := rr) (rs := rs) (ac := ac) (tc := tc) (sd := sd) (td9 := td9) (tx := tx) (rd := rd) (rt := rt) (hts := by first | assumption | omega | exact hok.1 _ (by omega) | exact hok.2.2 _ _ (by omega) (by omega) | exact hok.2.1) (htx := by first | assumption | omega | exact hok.1 _ (by omega) | exact hok.2.2 _ _ (by omega) (by omega) | exact hok.2.1) _) (cwV 0 hts gX10_fault_X10_readArmy rfl rfl rfl (by decide +kernel) ⟨Nat.le_of_ble_eq_true rfl, Nat.le_of_ble_eq_true rfl⟩) (preV (cq := (RX10, TX10, 31)) (q0 := 0) (ci := 10) hK hP hD [0, 1, 2, 3] rfl rfl rfl rfl) rfl rfl hl.1 rfl (lv_room (Nat.le_of_ble_eq_true rfl)) dX10_fault_6 ⟨Nat.le_of_ble_eq_true rfl, Nat.le_of_ble_eq_true rfl⟩) hP hD hS hA [0, 1, 2, 3] [] rfl rfl rfl (by decide) (fun r_6 uu9 H locs hw hP hD hS => ?_)
  obtain ⟨p1_6, rr1_6, rs1_6, rd1_6, rt1_6⟩ := uu9
  have hP : va_P G vwCl [(g 0, .inr (10, [.int (nI 0), .ref (g 1), .int (nI ts), .int (nI p1_6), .int (nI rk), .ref (g 5), .int (nI sl), .ref (g 7), .int (nI rr1_6), .int (nI rs1_6), .ref (g 10), .ref (g 11), .ref (g 12), .long sd, .ref (g 14), .ref (g 15), .int (nI ac), .ref (g 17), .ref (g 18), .ref (g 19), .int (nI tc), .ref (g 21), .ref (g 22), .ref (g 23), .ref (g 24), .long td9, .ref (g 26), .ref (g 27), .ref (g 28), .ref (g 29), .ref (g 30)])), (g 1, .inl (cI, 64, .inl (fun i9 => nI (tx i9)))), (g 10, .inl (cI, 7, .inl (fun i9 => nI (rd1_6 i9)))), (g 11, .inl (cI, 175, .inl (fun i9 => nI (rt1_6 i9))))] _ := hP
  have hD : va_D A [(g 0, .inr (10, [.int (nI 0), .ref (g 1), .int (nI ts), .int (nI p1_6), .int (nI rk), .ref (g 5), .int (nI sl), .ref (g 7), .int (nI rr1_6), .int (nI rs1_6), .ref (g 10), .ref (g 11), .ref (g 12), .long sd, .ref (g 14), .ref (g 15), .int (nI ac), .ref (g 17), .ref (g 18), .ref (g 19), .int (nI tc), .ref (g 21), .ref (g 22), .ref (g 23), .ref (g 24), .long td9, .ref (g 26), .ref (g 27), .ref (g 28), .ref (g 29), .ref (g 30)])), (g 1, .inl (cI, 64, .inl (fun i9 => nI (tx i9)))), (g 10, .inl (cI, 7, .inl (fun i9 => nI (rd1_6 i9)))), (g 11, .inl (cI, 175, .inl (fun i9 => nI (rt1_6 i9))))] := hD
  have hw_6 := hw
  have hw_6 : FaultIs tx ts r_6 ∧ (r_6 = -9 → ∃ s9, runN tx ts = some s9 ∧ RMo s9 rd1_6 rt1_6 rr1_6 rs1_6) := hw_6
  exact endI hx hb hr hlocks ((p1_6, rr1_6, rs1_6, rd1_6, rt1_6)) (hw_6) (hP.sub [0, 1, 2, 3] rfl) (hD.sub [0, 1, 2, 3] (by decide) rfl) hS dX10_fault_9
