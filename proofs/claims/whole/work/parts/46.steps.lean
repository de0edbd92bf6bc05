/-! one call on both sides: the same answer, and they agree again -/
theorem An1_eq {α : Type} {n m : Nat} {r : Int32} {F F' : Nat → α} {d res res' : α} (e : n = m) (h : ∀ k, k < m → F k = F' k) (h1 : An1 n r F d res) (h2 : An1 m r F' d res') : res = res' := by
  subst e
  by_cases c : isR n r
  · obtain ⟨k, hk, rfl⟩ := c
    rw [h1.1 k hk rfl, h2.1 k hk rfl, h k hk]
  · rw [h1.2 c, h2.2 c]
theorem An2_eq {α : Type} {n m : Nat} {r u : Int32} {F F' : Nat → Nat → α} {d res res' : α} (e : n = m) (h : ∀ k o, k < m → o < 5 → F k o = F' k o) (h1 : An2 n r u F d res) (h2 : An2 m r u F' d res') : res = res' := by
  subst e
  by_cases c : isR n r ∧ isR 5 u
  · obtain ⟨⟨k, hk, rfl⟩, o, ho, rfl⟩ := c
    rw [h1.1 k o hk ho rfl rfl, h2.1 k o hk ho rfl rfl, h k o hk ho]
  · rw [h1.2 c, h2.2 c]
theorem An3_eq {α : Type} {n m : Nat} {r u w : Int32} {F F' : Nat → Nat → Nat → α} {d res res' : α} (e : n = m) (h : ∀ k o x, k < m → o < 5 → x < 5 → F k o x = F' k o x) (h1 : An3 n r u w F d res) (h2 : An3 m r u w F' d res') : res = res' := by
  subst e
  by_cases c : isR n r ∧ isR 5 u ∧ isR 5 w
  · obtain ⟨⟨k, hk, rfl⟩, ⟨o, ho, rfl⟩, x, hx, rfl⟩ := c
    rw [h1.1 k o x hk ho hx rfl rfl rfl, h2.1 k o x hk ho hx rfl rfl rfl, h k o x hk ho hx]
  · rw [h1.2 c, h2.2 c]
theorem wr_st {n : Int32} {v : Int64} {tx yx t1 t2 : Nat → Nat} {ln ts n1 n2 : Nat} {r r' : Int32} (hT : RT tx ln ts yx) (hx : WrP n v tx ln t1 n1 r) (hm : WrP n v yx ts t2 n2 r') : r = r' ∧ RT t1 n1 n2 t2 := by
  obtain ⟨rfl, h2, h3, h4⟩ := hT
  by_cases c : ∃ k, 0 < k ∧ k < 9 ∧ n = nI k
  · obtain ⟨k, a1, a2, a3⟩ := c
    have a := hx.1 k a1 a2 a3
    have b := hm.1 k a1 a2 a3
    by_cases d : ln + k ≤ 64
    · obtain ⟨p1, p2, p3⟩ := a.1 d
      obtain ⟨q1, q2, q3⟩ := b.1 d
      refine ⟨by rw [p1, q1], by rw [p2, q2], by omega, fun j hj => ?_, fun j hj => ?_⟩
      · rw [p3 j (by omega), q3 j (by omega)]
        unfold appT
        by_cases z : ln ≤ j ∧ j < ln + k
        · rw [if_pos z, if_pos z]
        · rw [if_neg z, if_neg z, h3 j (by omega)]
      · rw [q3 j (by omega)]
        unfold appT
        by_cases z : ln ≤ j ∧ j < ln + k
        · rw [if_pos z]; exact Nat.mod_lt _ (by decide)
        · rw [if_neg z]; exact h4 j (by omega)
    · obtain ⟨p1, p2, p3⟩ := a.2 (by omega)
      obtain ⟨q1, q2, q3⟩ := b.2 (by omega)
      rw [p1, q1, p2, q2, p3, q3]
      exact ⟨rfl, rfl, h2, h3, h4⟩
  · have c' : ∀ k, 0 < k → k < 9 → ¬ n = nI k := fun k z1 z2 z3 => c ⟨k, z1, z2, z3⟩
    obtain ⟨p1, p2, p3⟩ := hx.2 c'
    obtain ⟨q1, q2, q3⟩ := hm.2 c'
    rw [p1, q1, p2, q2, p3, q3]
    exact ⟨rfl, rfl, h2, h3, h4⟩
theorem RC_note {rq fi ac aq fi1 ac1 : Nat} {bk bk1 : Nat → Nat → Nat → Int32} {bm bm1 : Nat → Int32} {bs bs1 bt bt1 : Nat → Int64} {bo bo1 pg : Nat → Int32} {v : Nat → Nat → Int32} {mi : Int32} {se sd : Int64} (hr : rq < 8) (h : RC rq fi ac bk bm bs aq bo bt) (hb : Boo v) (hs : SR rq v mi se pg sd) (hx : NoteP fi ac bk bm bs v mi se fi1 ac1 bk1 bm1 bs1) (hm : NtM aq bo bt pg sd bo1 bt1) : RC rq fi1 ac1 bk1 bm1 bs1 (acN aq + 1) bo1 bt1 := by
  obtain ⟨rfl, h2, h3, h4, h5⟩ := h
  obtain ⟨w, hw, rfl, rfl, rfl, rfl, rfl⟩ := hx
  obtain ⟨m1, m2, m3, m4⟩ := hm
  have ha := acN_lt h2
  have hf := fiN_lt (ac := ac) h3
  refine ⟨rfl, by omega, hf, fun i hi => ?_, fun j hj => ?_⟩
  · by_cases e : i = (fiN fi ac + acN ac) % 12
    · rw [e, va_up_self]; exact bo_cp hw hb
    · rw [va_up_ne _ _ e]; exact h4 i hi
  · by_cases e : j = acN ac
    · rw [e, va_up_self, va_up_self, va_up_self, m4]
      exact SR_v hw hr (SR_p (fun i hi => m3 i hi) hs)
    · have hne : ¬ (fiN fi ac + j) % 12 = (fiN fi ac + acN ac) % 12 := by omega
      rw [va_up_ne _ _ hne, va_up_ne _ _ hne, va_up_ne _ _ hne, m2 j (by omega)]
      have hi : (fiN fi ac + j) % 12 = (fi + (j + shN ac)) % 12 := by
        unfold fiN shN
        by_cases c : ac = 12
        · rw [if_pos c, if_pos c]; omega
        · rw [if_neg c, if_neg c]; rfl
      have hl : j + shN ac < ac := by
        unfold acN at hj e
        unfold shN
        by_cases c : ac = 12
        · rw [if_pos c] at hj e ⊢; omega
        · rw [if_neg c] at hj e ⊢; omega
      rw [hi]
      exact SR_p (fun i hi => m1 j i (by omega) hi) (h5 _ hl)
theorem army_RA {tx : Nat → Nat} {n : Nat} {s9 : RS} {kd tn ke te : Nat → Nat} {rk sl rq sq : Nat} {pg : Nat → Int32} (hr : runN tx n = some s9) (h : ArmyIs s9 kd tn rk sl) (hm : ArmM s9 rq sq ke te pg) : RA kd tn rk sl ke te rq sq ∧ ∀ f k, setV kd rk f k = setV ke rq f k := by
  obtain ⟨x1, x2, x3, x4, x5⟩ := h
  obtain ⟨m1, m2, m3, m4, -, -⟩ := hm
  have i := run_inv hr
  have i2 := run_inv2 hr
  obtain ⟨-, i1, -, -, -, -, i7, i8, -, -, i11⟩ := i
  have e1 : rk = rq := x1.symm.trans m1
  have hk : ∀ k, k < rq → kd k = ke k := fun k hk => by
    rw [x3 k (by omega), m3 k (by omega), if_pos hk]
  refine ⟨⟨e1, x2.symm.trans m2, by omega, ⟨x5, fun i hi => by rw [x4 i hi]; exact i7 i hi, fun k u h1 h2 => by rw [sim_sum x4 h1 h2]; exact i8 k u h1 h2⟩, ⟨fun k hk => ?_, fun i hi => by rw [m4 i hi]; exact i7 i hi, fun k u h1 h2 => by rw [sim_sum m4 h1 h2]; exact i8 k u h1 h2⟩, hk, fun i hi => by rw [x4 i hi, m4 i hi], fun k u h1 h2 => by rw [slT_congr m4 h1 h2 h2]; exact i2.2.1 k u h1 h2⟩, fun f k => ?_⟩
  · rw [m3 k hk]
    by_cases c : k < rq
    · rw [if_pos c]; exact i11 k (by omega)
    · rw [if_neg c]; decide
  · rw [e1]; exact set_cg hk
theorem tc_st {rk rq tc uc tc1 tc2 d : Nat} {r u r1 r2 : Int32} {tr tq td ur uq ud tr1 tq1 td1 tr2 tq2 td2 : Nat → Nat} (e : rk = rq) (hr : rq < 8) (hd : d < 2) (h : RV tr tq td tc ur uq ud uc) (hx : TcP rk r u d tr tq td tc tr1 tq1 td1 tc1 r1) (hm : TcP rq r u d ur uq ud uc tr2 tq2 td2 tc2 r2) : r1 = r2 ∧ RV tr1 tq1 td1 tc1 tr2 tq2 td2 tc2 := by
  subst e
  obtain ⟨rfl, rfl, rfl, rfl, h5, h6⟩ := h
  by_cases c : isR rk r ∧ isR 5 u
  · obtain ⟨⟨k, hk, rfl⟩, o, ho, rfl⟩ := c
    have a := hx.1 k o hk ho rfl rfl
    have b := hm.1 k o hk ho rfl rfl
    by_cases z : tc < 6
    · obtain ⟨rfl, rfl, rfl, rfl, rfl⟩ := a.1 z
      obtain ⟨rfl, rfl, rfl, rfl, rfl⟩ := b.1 z
      refine ⟨rfl, rfl, rfl, rfl, rfl, by omega, fun i hi => ?_⟩
      by_cases q : i = tc
      · rw [q, va_up_self, va_up_self, va_up_self]; exact ⟨by omega, ho, hd⟩
      · rw [va_up_ne _ _ q, va_up_ne _ _ q, va_up_ne _ _ q]; exact h6 i (by omega)
    · obtain ⟨rfl, rfl, rfl, rfl, rfl⟩ := a.2 z
      obtain ⟨rfl, rfl, rfl, rfl, rfl⟩ := b.2 z
      exact ⟨rfl, rfl, rfl, rfl, rfl, h5, h6⟩
  · obtain ⟨rfl, rfl, rfl, rfl, rfl⟩ := hx.2 c
    obtain ⟨rfl, rfl, rfl, rfl, rfl⟩ := hm.2 c
    exact ⟨rfl, rfl, rfl, rfl, rfl, h5, h6⟩
theorem dr_st {kd tn ke te : Nat → Nat} {rk sl rq sq : Nat} {v : Nat → Nat → Int32} {mi : Int32} {se sd : Int64} {pg : Nat → Int32} {r n row q r1 r2 : Int32} (hA : RA kd tn rk sl ke te rq sq) (hS : SR rq v mi se pg sd) (hx : DrP kd tn rk v se r n row q r1) (hm : DrP ke te rq (vOf pg) sd r n row q r2) : r1 = r2 := by
  obtain ⟨rfl, -, a3, -, -, a6, a7, -⟩ := hA
  obtain ⟨s1, -, rfl, s4, -⟩ := hS
  by_cases c : isR rk r
  · obtain ⟨k, hk, rfl⟩ := c
    have x := hx.1 k hk rfl
    have m := hm.1 k hk rfl
    by_cases d : DrOk n row q
    · have d2 := d
      obtain ⟨⟨n1, b1, b2, rfl, w, hw, rfl, b5, b6⟩, m1, hm1, rfl⟩ := d2
      obtain ⟨w1, x1, x2⟩ := x.1 n1 w m1 b1 b2 hw hm1 rfl rfl ⟨w, hw, rfl, b5, b6⟩ rfl
      obtain ⟨w2, y1, y2⟩ := m.1 n1 w m1 b1 b2 hw hm1 rfl rfl ⟨w, hw, rfl, b5, b6⟩ rfl
      have g : AgR rk w1 w2 := fun f j hf hj => by rw [x1 f j hf (by omega), y1 f j hf (by omega)]; exact s1 f j hf hj
      have o2 : SceneOk rk w2 := fun j hj => by rw [y1 5 j (by decide) (by omega), y1 6 j (by decide) (by omega)]; exact s4 j hj
      have o1 : SceneOk rk w1 := ag_ok (ag_symm g) o2
      have l1 := ag_drL (kd := ke) (tn := te) (se := sd) (w1 := w) (n1 := n1) g (by omega) n1
      rw [x2, y2, drL_cg a6 a7 a3 (by omega) o1 b6 n1 (Nat.le_refl _), drM_cg a6 a7 a3 (drL_ok o1 b6 n1 (Nat.le_refl _)) m1]
      have e : drL ke te rk w n1 n1 (w2, sd) = ((drL ke te rk w n1 n1 (w2, sd)).1, (drL ke te rk w n1 n1 (w1, sd)).2) := by rw [l1.2]
      rw [e]
      exact ag_drR (ag_drM l1.1 m1).1 hk
    · rw [x.2 d, m.2 d]
  · rw [hx.2 c, hm.2 c]
theorem st_write {zx x1 : XS} {zm m1 : MS} {n : Int32} {v7 : Int64} {r1 r2 : Int32} (h : Rel zx zm) (hx : xP_write n v7 zx x1 r1) (hm : mP_write n v7 zm m1 r2) : r1 = r2 ∧ Rel x1 m1 := by
  obtain ⟨tx, ln, stp, wy, wq, ho, dk, dt, dr, ds, kd, tn, rk, sl, v, mi, se, dv, dm, de, fi, ac, bk, bm, bs, fl, kk, km, ks, tr, tq, td, tc, pa, on, wh, en, eo, cm⟩ := zx; obtain ⟨ts, pl, rq, sq, rr, rs, aq, uc, sd, sv, yx, ke, rd, te, rt, pg, bo, bt, kp, kt, zz, ur, uq, ud, tw, th, pc, nx, wa, wt⟩ := zm; obtain ⟨hT, hQ, hA, ⟨hB9, hS9⟩, hC, hK9, hV⟩ := h
  obtain ⟨t1, n1, rfl, hx⟩ := hx
  obtain ⟨t1m, n1m, rfl, hm⟩ := hm
  obtain ⟨e, hT⟩ := wr_st hT hx hm
  exact ⟨e, hT, hQ, hA, ⟨hB9, hS9⟩, hC, hK9, hV⟩
theorem st_wipe {zx x1 : XS} {zm m1 : MS} {r1 r2 : Int32} (h : Rel zx zm) (hx : xP_wipe zx x1 r1) (hm : mP_wipe zm m1 r2) : r1 = r2 ∧ Rel x1 m1 := by
  obtain ⟨tx, ln, stp, wy, wq, ho, dk, dt, dr, ds, kd, tn, rk, sl, v, mi, se, dv, dm, de, fi, ac, bk, bm, bs, fl, kk, km, ks, tr, tq, td, tc, pa, on, wh, en, eo, cm⟩ := zx; obtain ⟨ts, pl, rq, sq, rr, rs, aq, uc, sd, sv, yx, ke, rd, te, rt, pg, bo, bt, kp, kt, zz, ur, uq, ud, tw, th, pc, nx, wa, wt⟩ := zm; obtain ⟨hT, hQ, hA, ⟨hB9, hS9⟩, hC, hK9, hV⟩ := h
  obtain ⟨rfl, hx⟩ := hx
  obtain ⟨rfl, hm⟩ := hm
  exact ⟨by rw [hx, hm, hT.1], ⟨rfl, by decide, fun j hj => absurd hj (Nat.not_lt_zero _), fun j hj => absurd hj (Nat.not_lt_zero _)⟩, hQ, hA, ⟨hB9, hS9⟩, hC, hK9, hV⟩
theorem st_fault {zx x1 : XS} {zm m1 : MS} {r1 r2 : Int32} (h : Rel zx zm) (hx : xP_fault zx x1 r1) (hm : mP_fault zm m1 r2) : r1 = r2 ∧ Rel x1 m1 := by
  obtain ⟨tx, ln, stp, wy, wq, ho, dk, dt, dr, ds, kd, tn, rk, sl, v, mi, se, dv, dm, de, fi, ac, bk, bm, bs, fl, kk, km, ks, tr, tq, td, tc, pa, on, wh, en, eo, cm⟩ := zx; obtain ⟨ts, pl, rq, sq, rr, rs, aq, uc, sd, sv, yx, ke, rd, te, rt, pg, bo, bt, kp, kt, zz, ur, uq, ud, tw, th, pc, nx, wa, wt⟩ := zm; obtain ⟨hT, hQ, hA, ⟨hB9, hS9⟩, hC, hK9, hV⟩ := h
  obtain ⟨st1, wy1, tq1, ho1, dr1, ds1, dk1, dt1, rfl, hx⟩ := hx
  obtain ⟨p1m, rr1m, rs1m, rd1m, rt1m, rfl, hm⟩ := hm
  have e := hT.1
  subst e
  exact ⟨Fault_fun (Fault_cg hT.2.2.1 hx.1) hm.1, hT, hx.2, hA, ⟨hB9, hS9⟩, hC, hK9, hV⟩
theorem st_army {zx x1 : XS} {zm m1 : MS} {r1 r2 : Int32} (h : Rel zx zm) (hx : xP_army zx x1 r1) (hm : mP_army zm m1 r2) : r1 = r2 ∧ Rel x1 m1 := by
  obtain ⟨tx, ln, stp, wy, wq, ho, dk, dt, dr, ds, kd, tn, rk, sl, v, mi, se, dv, dm, de, fi, ac, bk, bm, bs, fl, kk, km, ks, tr, tq, td, tc, pa, on, wh, en, eo, cm⟩ := zx; obtain ⟨ts, pl, rq, sq, rr, rs, aq, uc, sd, sv, yx, ke, rd, te, rt, pg, bo, bt, kp, kt, zz, ur, uq, ud, tw, th, pc, nx, wa, wt⟩ := zm; obtain ⟨hT, hQ, hA, ⟨hB9, hS9⟩, hC, hK9, hV⟩ := h
  obtain ⟨st1, wy1, tq1, ho1, dr1, ds1, dk1, dt1, kd1, tn1, rk1, sl1, v1, mi1, ac1, fl1, rfl, hx⟩ := hx
  obtain ⟨p1m, rr1m, rs1m, rd1m, rt1m, rk1m, sl1m, kd1m, tn1m, q1m, ac1m, zz1m, rfl, hm⟩ := hm
  have e := hT.1
  subst e
  obtain ⟨hQ, r0, f1, f2, f3⟩ := hx
  obtain ⟨f9, g1, g2⟩ := hm
  have e := Fault_fun (Fault_cg hT.2.2.1 f1) g1
  subst e
  rcases g2 with ⟨c, rfl, rfl, rfl, rfl, rfl, rfl, rfl, rfl⟩ | ⟨c, rfl, rfl, z0, s9, e9, am⟩
  · obtain ⟨rfl, rfl, rfl, rfl, rfl, rfl, rfl, rfl, rfl⟩ := f2 c
    exact ⟨rfl, hT, hQ, hA, ⟨hB9, hS9⟩, hC, hK9, hV⟩
  · obtain ⟨rfl, rfl, rfl, fl0, sv1, s8, e8, ai⟩ := f3 c
    have e : s8 = s9 := by
      rw [run_cg hT.2.2.1, e9] at e8
      exact (Option.some.inj e8).symm
    subst e
    obtain ⟨hA, hset⟩ := army_RA e9 ai am
    have hr := hA.2.2.1
    have hv : ∀ f k, f < 7 → k < 7 → v1 f k = vOf q1m f k := fun f k h1 h2 => by rw [sv1 f k h1 h2, am.2.2.2.2.1 f k h1 h2]; exact hset f k
    refine ⟨by rw [hA.1], hT, hQ, hA, ⟨fun j hj => by rw [sv1 6 j (by decide) hj]; exact bo_set j hj, fun f j hf hj => hv f j hf (by omega), am.2.2.2.2.2, hS9.2.2.1, ok_set hr am.2.2.2.2.1, fun h0 _ => ?_⟩, ⟨rfl, by decide, hC.2.2.1, hC.2.2.2.1, fun j hj => absurd hj (Nat.not_lt_zero _)⟩, ⟨fun i hi => ⟨by rw [fl0 i hi, z0 i hi], by rw [z0 i hi]; decide, (hK9.1 i hi).2.2⟩, fun i hi hz => absurd (z0 i hi) hz⟩, hV⟩
    rw [am.2.2.2.2.1 5 0 (by decide) (by decide)]
    rfl
theorem st_about {zx x1 : XS} {zm m1 : MS} {q : Int32} {r1 r2 : Int32} (h : Rel zx zm) (hx : xP_about q zx x1 r1) (hm : mP_about q zm m1 r2) : r1 = r2 ∧ Rel x1 m1 := by
  obtain ⟨tx, ln, stp, wy, wq, ho, dk, dt, dr, ds, kd, tn, rk, sl, v, mi, se, dv, dm, de, fi, ac, bk, bm, bs, fl, kk, km, ks, tr, tq, td, tc, pa, on, wh, en, eo, cm⟩ := zx; obtain ⟨ts, pl, rq, sq, rr, rs, aq, uc, sd, sv, yx, ke, rd, te, rt, pg, bo, bt, kp, kt, zz, ur, uq, ud, tw, th, pc, nx, wa, wt⟩ := zm; obtain ⟨hT, hQ, hA, ⟨hB9, hS9⟩, hC, hK9, hV⟩ := h
  obtain ⟨rfl, hx⟩ := hx
  obtain ⟨rfl, hm⟩ := hm
  obtain ⟨c1, c2⟩ : slpI v rk = slpI (vOf pg) rq ∧ hrsI v rk = hrsI (vOf pg) rq := by
    rw [hA.1]
    exact ⟨ag_slp hS9.1 _ (Nat.le_refl _), ag_hrs hS9.1 _ (Nat.le_refl _)⟩
  refine ⟨?_, hT, hQ, hA, ⟨hB9, hS9⟩, hC, hK9, hV⟩
  rw [hx, hm, c1, c2, hS9.2.1, hA.1, hA.2.1, hC.1, hT.1, hV.2.2.2.1]
theorem st_rank {zx x1 : XS} {zm m1 : MS} {r : Int32} {q : Int32} {r1 r2 : Int32} (h : Rel zx zm) (hx : xP_rank r q zx x1 r1) (hm : mP_rank r q zm m1 r2) : r1 = r2 ∧ Rel x1 m1 := by
  obtain ⟨tx, ln, stp, wy, wq, ho, dk, dt, dr, ds, kd, tn, rk, sl, v, mi, se, dv, dm, de, fi, ac, bk, bm, bs, fl, kk, km, ks, tr, tq, td, tc, pa, on, wh, en, eo, cm⟩ := zx; obtain ⟨ts, pl, rq, sq, rr, rs, aq, uc, sd, sv, yx, ke, rd, te, rt, pg, bo, bt, kp, kt, zz, ur, uq, ud, tw, th, pc, nx, wa, wt⟩ := zm; obtain ⟨hT, hQ, hA, ⟨hB9, hS9⟩, hC, hK9, hV⟩ := h
  obtain ⟨rfl, hx⟩ := hx
  obtain ⟨rfl, hm⟩ := hm
  exact ⟨An1_eq hA.1 (fun k hk => rkI_cg (hA.2.2.2.2.2.1 k hk) hS9.1 hk) hx hm, hT, hQ, hA, ⟨hB9, hS9⟩, hC, hK9, hV⟩
theorem st_slip {zx x1 : XS} {zm m1 : MS} {r : Int32} {u : Int32} {w : Int32} {r1 r2 : Int32} (h : Rel zx zm) (hx : xP_slip r u w zx x1 r1) (hm : mP_slip r u w zm m1 r2) : r1 = r2 ∧ Rel x1 m1 := by
  obtain ⟨tx, ln, stp, wy, wq, ho, dk, dt, dr, ds, kd, tn, rk, sl, v, mi, se, dv, dm, de, fi, ac, bk, bm, bs, fl, kk, km, ks, tr, tq, td, tc, pa, on, wh, en, eo, cm⟩ := zx; obtain ⟨ts, pl, rq, sq, rr, rs, aq, uc, sd, sv, yx, ke, rd, te, rt, pg, bo, bt, kp, kt, zz, ur, uq, ud, tw, th, pc, nx, wa, wt⟩ := zm; obtain ⟨hT, hQ, hA, ⟨hB9, hS9⟩, hC, hK9, hV⟩ := h
  obtain ⟨rfl, hx⟩ := hx
  obtain ⟨rfl, hm⟩ := hm
  exact ⟨An3_eq hA.1 (fun k o w hk ho hw => congrArg nI (way_cg hA.2.2.2.2.2.2.1 (by have := hA.2.2.1; omega) ho hw)) hx hm, hT, hQ, hA, ⟨hB9, hS9⟩, hC, hK9, hV⟩
theorem st_seed {zx x1 : XS} {zm m1 : MS} {z : Int64} {r1 r2 : Int64} (h : Rel zx zm) (hx : xP_seed z zx x1 r1) (hm : mP_seed z zm m1 r2) : r1 = r2 ∧ Rel x1 m1 := by
  obtain ⟨tx, ln, stp, wy, wq, ho, dk, dt, dr, ds, kd, tn, rk, sl, v, mi, se, dv, dm, de, fi, ac, bk, bm, bs, fl, kk, km, ks, tr, tq, td, tc, pa, on, wh, en, eo, cm⟩ := zx; obtain ⟨ts, pl, rq, sq, rr, rs, aq, uc, sd, sv, yx, ke, rd, te, rt, pg, bo, bt, kp, kt, zz, ur, uq, ud, tw, th, pc, nx, wa, wt⟩ := zm; obtain ⟨hT, hQ, hA, ⟨hB9, hS9⟩, hC, hK9, hV⟩ := h
  obtain ⟨rfl, hx⟩ := hx
  obtain ⟨rfl, hm⟩ := hm
  exact ⟨by rw [hx, hm, hS9.2.2.1], hT, hQ, hA, ⟨hB9, hS9.1, hS9.2.1, rfl, hS9.2.2.2⟩, hC, hK9, hV⟩
theorem st_say {zx x1 : XS} {zm m1 : MS} {q : Int32} {r1 r2 : Int32} (h : Rel zx zm) (hx : xP_say q zx x1 r1) (hm : mP_say q zm m1 r2) : r1 = r2 ∧ Rel x1 m1 := by
  obtain ⟨tx, ln, stp, wy, wq, ho, dk, dt, dr, ds, kd, tn, rk, sl, v, mi, se, dv, dm, de, fi, ac, bk, bm, bs, fl, kk, km, ks, tr, tq, td, tc, pa, on, wh, en, eo, cm⟩ := zx; obtain ⟨ts, pl, rq, sq, rr, rs, aq, uc, sd, sv, yx, ke, rd, te, rt, pg, bo, bt, kp, kt, zz, ur, uq, ud, tw, th, pc, nx, wa, wt⟩ := zm; obtain ⟨hT, hQ, hA, ⟨hB9, hS9⟩, hC, hK9, hV⟩ := h
  obtain ⟨fi1, ac1, bk1, bm1, bs1, v2, rfl, hx⟩ := hx
  obtain ⟨q1m, bo1m, bs1m, ac1m, rfl, hm⟩ := hm
  rcases hm with ⟨c, rfl, rfl, rfl, rfl, rfl⟩ | ⟨⟨o, ho, rfl⟩, c, rfl, rfl, rfl, rfl, rfl⟩ | ⟨o, ho, rfl, c, n1, rfl, g1, g2, rfl⟩
  · obtain ⟨rfl, e⟩ := hx.2 c
    cases e
    exact ⟨rfl, hT, hQ, hA, ⟨hB9, hS9⟩, hC, hK9, hV⟩
  · obtain ⟨rfl, e⟩ := (hx.1 o ho rfl).1 (by rw [hA.1]; exact c)
    cases e
    exact ⟨rfl, hT, hQ, hA, ⟨hB9, hS9⟩, hC, hK9, hV⟩
  · obtain ⟨rfl, rfl, hn⟩ := (hx.1 o ho rfl).2 (by rw [hA.1]; omega)
    have hk0 := hA.2.2.2.2.2.1 0 c
    have hag : AgR rq (giveV (kd 0) v o) (vOf q1m) := by
      rw [g1, hk0]; exact ag_give hS9.1 c
    refine ⟨hag 2 0 (by decide) c, hT, hQ, hA, ⟨bo_give hB9, hag, by rw [g2]; exact hS9.2.1, hS9.2.2.1, ?_, fun _ z => absurd (by rw [g1]; exact give_60) z⟩, RC_note hA.2.2.1 hC hB9 hS9 hn n1, hK9, hV⟩
    rw [g1]
    exact SceneOk_give hS9.2.2.2.1 ho
theorem st_minute {zx x1 : XS} {zm m1 : MS} {r1 r2 : Int32} (h : Rel zx zm) (hx : xP_minute zx x1 r1) (hm : mP_minute zm m1 r2) : r1 = r2 ∧ Rel x1 m1 := by
  obtain ⟨tx, ln, stp, wy, wq, ho, dk, dt, dr, ds, kd, tn, rk, sl, v, mi, se, dv, dm, de, fi, ac, bk, bm, bs, fl, kk, km, ks, tr, tq, td, tc, pa, on, wh, en, eo, cm⟩ := zx; obtain ⟨ts, pl, rq, sq, rr, rs, aq, uc, sd, sv, yx, ke, rd, te, rt, pg, bo, bt, kp, kt, zz, ur, uq, ud, tw, th, pc, nx, wa, wt⟩ := zm; obtain ⟨hT, hQ, hA, ⟨hB9, hS9⟩, hC, hK9, hV⟩ := h
  obtain ⟨fi1, ac1, bk1, bm1, bs1, rfl, hx⟩ := hx
  obtain ⟨q1m, bo1m, bs1m, t1m, rfl, hm⟩ := hm
  obtain ⟨n1, g1, g2, g3⟩ := hm
  obtain ⟨e1, hn⟩ := hx
  have hx4 := ag_ok (ag_symm hS9.1) hS9.2.2.2.1
  have hag : AgR rq (minV kd tn rk v se) (vOf q1m) := by
    rw [hA.1, (min_cg hA.2.2.2.2.2.1 hA.2.2.2.2.2.2.1 hA.2.2.1 hx4).1, ← hS9.2.2.1]
    exact ag_trans (ag_min hS9.1) (fun f j hf hj => (g1 f j hf hj).symm)
  have hok : SceneOk rq (vOf q1m) := ag_ok (fun f j hf hj => (g1 f j hf hj).symm) (SceneOk_min hS9.2.2.2.1)
  refine ⟨by rw [e1, g3, g2, hS9.2.1], hT, hQ, hA, ⟨bo_min hB9, hag, by rw [g2, hS9.2.1], ?_, hok, fun h0 _ => by rw [g1 5 0 (by decide) h0]; exact min_50⟩, RC_note hA.2.2.1 hC hB9 hS9 hn n1, hK9, hV⟩
  rw [hA.1, (min_cg hA.2.2.2.2.2.1 hA.2.2.2.2.2.2.1 hA.2.2.1 hx4).2, ← hS9.2.2.1]
  exact (ag_minS hS9.1).symm
theorem st_bugle {zx x1 : XS} {zm m1 : MS} {r1 r2 : Int32} (h : Rel zx zm) (hx : xP_bugle zx x1 r1) (hm : mP_bugle zm m1 r2) : r1 = r2 ∧ Rel x1 m1 := by
  obtain ⟨tx, ln, stp, wy, wq, ho, dk, dt, dr, ds, kd, tn, rk, sl, v, mi, se, dv, dm, de, fi, ac, bk, bm, bs, fl, kk, km, ks, tr, tq, td, tc, pa, on, wh, en, eo, cm⟩ := zx; obtain ⟨ts, pl, rq, sq, rr, rs, aq, uc, sd, sv, yx, ke, rd, te, rt, pg, bo, bt, kp, kt, zz, ur, uq, ud, tw, th, pc, nx, wa, wt⟩ := zm; obtain ⟨hT, hQ, hA, ⟨hB9, hS9⟩, hC, hK9, hV⟩ := h
  obtain ⟨fi1, ac1, bk1, bm1, bs1, rfl, hx⟩ := hx
  obtain ⟨q1m, bo1m, bs1m, rfl, hm⟩ := hm
  obtain ⟨g0, n1, g1, g2⟩ := hm
  obtain ⟨e1, hn⟩ := hx
  have hb := bug_cg (v := v) hA.2.2.2.2.2.1 rq (Nat.le_refl _)
  have ha := ag_bug (kd := ke) hS9.1 rq (Nat.le_refl _)
  refine ⟨?_, hT, hQ, hA, ⟨bo_bug hB9, ?_, by rw [g2]; exact hS9.2.1, hS9.2.2.1, by rw [g1]; exact ok_bug hS9.2.2.2.1, ?_⟩, RC_note hA.2.2.1 hC hB9 hS9 hn n1, hK9, hV⟩
  · rw [e1, g0, hA.1, hb.2, ha.2]
  · rw [g1, hA.1, hb.1]; exact ha.1
  · rw [g1, (bug_56 rq).1, (bug_56 rq).2]; exact hS9.2.2.2.2
theorem st_undo {zx x1 : XS} {zm m1 : MS} {r1 r2 : Int32} (h : Rel zx zm) (hx : xP_undo zx x1 r1) (hm : mP_undo zm m1 r2) : r1 = r2 ∧ Rel x1 m1 := by
  obtain ⟨tx, ln, stp, wy, wq, ho, dk, dt, dr, ds, kd, tn, rk, sl, v, mi, se, dv, dm, de, fi, ac, bk, bm, bs, fl, kk, km, ks, tr, tq, td, tc, pa, on, wh, en, eo, cm⟩ := zx; obtain ⟨ts, pl, rq, sq, rr, rs, aq, uc, sd, sv, yx, ke, rd, te, rt, pg, bo, bt, kp, kt, zz, ur, uq, ud, tw, th, pc, nx, wa, wt⟩ := zm; obtain ⟨hT, hQ, hA, ⟨hB9, hS9⟩, hC, hK9, hV⟩ := h
  obtain ⟨ac1, v2, mi2, se2, rfl, hx⟩ := hx
  obtain ⟨q1m, sd1m, ac1m, rfl, hm⟩ := hm
  have e := hC.1
  subst e
  rcases hm with ⟨c, rfl, rfl, rfl, rfl⟩ | ⟨c, rfl, g1, rfl, rfl⟩
  · obtain ⟨rfl, e⟩ := hx.1 c
    cases e
    exact ⟨rfl, hT, hQ, hA, ⟨hB9, hS9⟩, hC, hK9, hV⟩
  · obtain ⟨rfl, rfl, x1, rfl, rfl⟩ := hx.2 c
    have s := hC.2.2.2.2 (ac - 1) (by omega)
    exact ⟨rfl, hT, hQ, hA, ⟨bo_cp x1 (hC.2.2.2.1 _ (Nat.mod_lt _ (by decide))), SR_v x1 hA.2.2.1 (SR_p g1 s)⟩, ⟨rfl, by have := hC.2.1; omega, hC.2.2.1, hC.2.2.2.1, fun j hj => hC.2.2.2.2 j (by omega)⟩, hK9, hV⟩
theorem st_heard {zx x1 : XS} {zm m1 : MS} {r : Int32} {u : Int32} {w : Int32} {z : Int32} {r1 r2 : Int64} (h : Rel zx zm) (hx : xP_heard r u w z zx x1 r1) (hm : mP_heard r u w z zm m1 r2) : r1 = r2 ∧ Rel x1 m1 := by
  obtain ⟨tx, ln, stp, wy, wq, ho, dk, dt, dr, ds, kd, tn, rk, sl, v, mi, se, dv, dm, de, fi, ac, bk, bm, bs, fl, kk, km, ks, tr, tq, td, tc, pa, on, wh, en, eo, cm⟩ := zx; obtain ⟨ts, pl, rq, sq, rr, rs, aq, uc, sd, sv, yx, ke, rd, te, rt, pg, bo, bt, kp, kt, zz, ur, uq, ud, tw, th, pc, nx, wa, wt⟩ := zm; obtain ⟨hT, hQ, hA, ⟨hB9, hS9⟩, hC, hK9, hV⟩ := h
  obtain ⟨p1, o1, w1, rfl, hx⟩ := hx
  obtain ⟨p1m, n1m, rfl, hm⟩ := hm
  exact ⟨An3_eq hA.1 (fun k o w hk ho hw => by rw [spP_cg hA.2.2.2.2.2.1 hA.2.2.2.2.2.2.1 hA.2.2.1 (by omega) w hw]) hx hm, hT, hQ, hA, ⟨hB9, hS9⟩, hC, hK9, hV⟩
theorem st_comes {zx x1 : XS} {zm m1 : MS} {r : Int32} {u : Int32} {r1 r2 : Int32} (h : Rel zx zm) (hx : xP_comes r u zx x1 r1) (hm : mP_comes r u zm m1 r2) : r1 = r2 ∧ Rel x1 m1 := by
  obtain ⟨tx, ln, stp, wy, wq, ho, dk, dt, dr, ds, kd, tn, rk, sl, v, mi, se, dv, dm, de, fi, ac, bk, bm, bs, fl, kk, km, ks, tr, tq, td, tc, pa, on, wh, en, eo, cm⟩ := zx; obtain ⟨ts, pl, rq, sq, rr, rs, aq, uc, sd, sv, yx, ke, rd, te, rt, pg, bo, bt, kp, kt, zz, ur, uq, ud, tw, th, pc, nx, wa, wt⟩ := zm; obtain ⟨hT, hQ, hA, ⟨hB9, hS9⟩, hC, hK9, hV⟩ := h
  obtain ⟨p1, o1, w1, rfl, hx⟩ := hx
  obtain ⟨p1m, n1m, rfl, hm⟩ := hm
  exact ⟨An2_eq hA.1 (fun k o hk ho => by rw [com_cg hA.2.2.2.2.2.1 hA.2.2.2.2.2.2.1 hA.2.2.1 hk]) hx hm, hT, hQ, hA, ⟨hB9, hS9⟩, hC, hK9, hV⟩
theorem st_sure {zx x1 : XS} {zm m1 : MS} {r : Int32} {r1 r2 : Int32} (h : Rel zx zm) (hx : xP_sure r zx x1 r1) (hm : mP_sure r zm m1 r2) : r1 = r2 ∧ Rel x1 m1 := by
  obtain ⟨tx, ln, stp, wy, wq, ho, dk, dt, dr, ds, kd, tn, rk, sl, v, mi, se, dv, dm, de, fi, ac, bk, bm, bs, fl, kk, km, ks, tr, tq, td, tc, pa, on, wh, en, eo, cm⟩ := zx; obtain ⟨ts, pl, rq, sq, rr, rs, aq, uc, sd, sv, yx, ke, rd, te, rt, pg, bo, bt, kp, kt, zz, ur, uq, ud, tw, th, pc, nx, wa, wt⟩ := zm; obtain ⟨hT, hQ, hA, ⟨hB9, hS9⟩, hC, hK9, hV⟩ := h
  obtain ⟨p1, o1, w1, rfl, hx⟩ := hx
  obtain ⟨p1m, n1m, rfl, hm⟩ := hm
  exact ⟨An1_eq hA.1 (fun k hk => congrArg nI (surN_cg (fun o ho => com_cg hA.2.2.2.2.2.1 hA.2.2.2.2.2.2.1 hA.2.2.1 hk))) hx hm, hT, hQ, hA, ⟨hB9, hS9⟩, hC, hK9, hV⟩
theorem st_code {zx x1 : XS} {zm m1 : MS} {r : Int32} {r1 r2 : Int32} (h : Rel zx zm) (hx : xP_code r zx x1 r1) (hm : mP_code r zm m1 r2) : r1 = r2 ∧ Rel x1 m1 := by
  obtain ⟨tx, ln, stp, wy, wq, ho, dk, dt, dr, ds, kd, tn, rk, sl, v, mi, se, dv, dm, de, fi, ac, bk, bm, bs, fl, kk, km, ks, tr, tq, td, tc, pa, on, wh, en, eo, cm⟩ := zx; obtain ⟨ts, pl, rq, sq, rr, rs, aq, uc, sd, sv, yx, ke, rd, te, rt, pg, bo, bt, kp, kt, zz, ur, uq, ud, tw, th, pc, nx, wa, wt⟩ := zm; obtain ⟨hT, hQ, hA, ⟨hB9, hS9⟩, hC, hK9, hV⟩ := h
  obtain ⟨p1, o1, w1, m1, rfl, hx⟩ := hx
  obtain ⟨p1m, n1m, rfl, hm⟩ := hm
  exact ⟨An1_eq hA.1 (fun k hk => congrArg nI (codeN_congr (fun o ho => com_cg hA.2.2.2.2.2.1 hA.2.2.2.2.2.2.1 hA.2.2.1 hk) 32)) hx hm, hT, hQ, hA, ⟨hB9, hS9⟩, hC, hK9, hV⟩
theorem st_twoOfThree {zx x1 : XS} {zm m1 : MS} {r : Int32} {u : Int32} {z : Int32} {r1 r2 : Int64} (h : Rel zx zm) (hx : xP_twoOfThree r u z zx x1 r1) (hm : mP_twoOfThree r u z zm m1 r2) : r1 = r2 ∧ Rel x1 m1 := by
  obtain ⟨tx, ln, stp, wy, wq, ho, dk, dt, dr, ds, kd, tn, rk, sl, v, mi, se, dv, dm, de, fi, ac, bk, bm, bs, fl, kk, km, ks, tr, tq, td, tc, pa, on, wh, en, eo, cm⟩ := zx; obtain ⟨ts, pl, rq, sq, rr, rs, aq, uc, sd, sv, yx, ke, rd, te, rt, pg, bo, bt, kp, kt, zz, ur, uq, ud, tw, th, pc, nx, wa, wt⟩ := zm; obtain ⟨hT, hQ, hA, ⟨hB9, hS9⟩, hC, hK9, hV⟩ := h
  obtain ⟨p1, o1, w1, rfl, hx⟩ := hx
  obtain ⟨p1m, n1m, rfl, hm⟩ := hm
  exact ⟨An2_eq hA.1 (fun k o hk ho => by rw [spP_cg hA.2.2.2.2.2.1 hA.2.2.2.2.2.2.1 hA.2.2.1 (by omega) o ho]) hx hm, hT, hQ, hA, ⟨hB9, hS9⟩, hC, hK9, hV⟩
theorem st_help {zx x1 : XS} {zm m1 : MS} {u : Int32} {r1 r2 : Int32} (h : Rel zx zm) (hx : xP_help u zx x1 r1) (hm : mP_help u zm m1 r2) : r1 = r2 ∧ Rel x1 m1 := by
  obtain ⟨tx, ln, stp, wy, wq, ho, dk, dt, dr, ds, kd, tn, rk, sl, v, mi, se, dv, dm, de, fi, ac, bk, bm, bs, fl, kk, km, ks, tr, tq, td, tc, pa, on, wh, en, eo, cm⟩ := zx; obtain ⟨ts, pl, rq, sq, rr, rs, aq, uc, sd, sv, yx, ke, rd, te, rt, pg, bo, bt, kp, kt, zz, ur, uq, ud, tw, th, pc, nx, wa, wt⟩ := zm; obtain ⟨hT, hQ, hA, ⟨hB9, hS9⟩, hC, hK9, hV⟩ := h
  obtain ⟨p1, o1, w1, rfl, hx⟩ := hx
  obtain ⟨p1m, n1m, rfl, hm⟩ := hm
  have e := hA.1
  subst e
  exact ⟨An1_eq rfl (fun o ho => help_cg hA.2.2.2.2.2.1 hA.2.2.2.2.2.2.1 hA.2.2.1 ho) hx hm, hT, hQ, hA, ⟨hB9, hS9⟩, hC, hK9, hV⟩
theorem st_trace {zx x1 : XS} {zm m1 : MS} {r : Int32} {u : Int32} {d : Nat} {r1 r2 : Int32} (hd : d < 2) (h : Rel zx zm) (hx : xP_trace r u d zx x1 r1) (hm : mP_trace r u d zm m1 r2) : r1 = r2 ∧ Rel x1 m1 := by
  obtain ⟨tx, ln, stp, wy, wq, ho, dk, dt, dr, ds, kd, tn, rk, sl, v, mi, se, dv, dm, de, fi, ac, bk, bm, bs, fl, kk, km, ks, tr, tq, td, tc, pa, on, wh, en, eo, cm⟩ := zx; obtain ⟨ts, pl, rq, sq, rr, rs, aq, uc, sd, sv, yx, ke, rd, te, rt, pg, bo, bt, kp, kt, zz, ur, uq, ud, tw, th, pc, nx, wa, wt⟩ := zm; obtain ⟨hT, hQ, hA, ⟨hB9, hS9⟩, hC, hK9, hV⟩ := h
  obtain ⟨tr1, tq1, td1, tc1, rfl, hx⟩ := hx
  obtain ⟨tr1m, tq1m, td1m, tc1m, rfl, hm⟩ := hm
  obtain ⟨e, hV⟩ := tc_st hA.1 hA.2.2.1 hd hV hx hm
  exact ⟨e, hT, hQ, hA, ⟨hB9, hS9⟩, hC, hK9, hV⟩
theorem st_untrace {zx x1 : XS} {zm m1 : MS} {r1 r2 : Int32} (h : Rel zx zm) (hx : xP_untrace zx x1 r1) (hm : mP_untrace zm m1 r2) : r1 = r2 ∧ Rel x1 m1 := by
  obtain ⟨tx, ln, stp, wy, wq, ho, dk, dt, dr, ds, kd, tn, rk, sl, v, mi, se, dv, dm, de, fi, ac, bk, bm, bs, fl, kk, km, ks, tr, tq, td, tc, pa, on, wh, en, eo, cm⟩ := zx; obtain ⟨ts, pl, rq, sq, rr, rs, aq, uc, sd, sv, yx, ke, rd, te, rt, pg, bo, bt, kp, kt, zz, ur, uq, ud, tw, th, pc, nx, wa, wt⟩ := zm; obtain ⟨hT, hQ, hA, ⟨hB9, hS9⟩, hC, hK9, hV⟩ := h
  obtain ⟨rfl, hx⟩ := hx
  obtain ⟨rfl, hm⟩ := hm
  exact ⟨by rw [hx, hm, hV.2.2.2.1], hT, hQ, hA, ⟨hB9, hS9⟩, hC, hK9, hV.1, hV.2.1, hV.2.2.1, rfl, by decide, fun i hi => absurd hi (Nat.not_lt_zero _)⟩
theorem st_fits {zx x1 : XS} {zm m1 : MS} {r1 r2 : Int32} (h : Rel zx zm) (hx : xP_fits zx x1 r1) (hm : mP_fits zm m1 r2) : r1 = r2 ∧ Rel x1 m1 := by
  obtain ⟨tx, ln, stp, wy, wq, ho, dk, dt, dr, ds, kd, tn, rk, sl, v, mi, se, dv, dm, de, fi, ac, bk, bm, bs, fl, kk, km, ks, tr, tq, td, tc, pa, on, wh, en, eo, cm⟩ := zx; obtain ⟨ts, pl, rq, sq, rr, rs, aq, uc, sd, sv, yx, ke, rd, te, rt, pg, bo, bt, kp, kt, zz, ur, uq, ud, tw, th, pc, nx, wa, wt⟩ := zm; obtain ⟨hT, hQ, hA, ⟨hB9, hS9⟩, hC, hK9, hV⟩ := h
  obtain ⟨e1, o1, rfl, hx⟩ := hx
  obtain ⟨w1m, w2m, rfl, hm⟩ := hm
  have e := hA.1
  subst e
  obtain ⟨v1, v2, v3, v4, v5⟩ := hV
  refine ⟨?_, hT, hQ, hA, ⟨hB9, hS9⟩, hC, hK9, v1, v2, v3, v4, v5⟩
  rw [hx, hm, v1, v2, v3, v4]
  exact congrArg nI (sumN_congr (fun o ho => cnt_cg hA.2.2.2.2.2.1 hA.2.2.2.2.2.2.1 hA.2.2.1))
theorem st_told {zx x1 : XS} {zm m1 : MS} {r1 r2 : Int32} (h : Rel zx zm) (hx : xP_told zx x1 r1) (hm : mP_told zm m1 r2) : r1 = r2 ∧ Rel x1 m1 := by
  obtain ⟨tx, ln, stp, wy, wq, ho, dk, dt, dr, ds, kd, tn, rk, sl, v, mi, se, dv, dm, de, fi, ac, bk, bm, bs, fl, kk, km, ks, tr, tq, td, tc, pa, on, wh, en, eo, cm⟩ := zx; obtain ⟨ts, pl, rq, sq, rr, rs, aq, uc, sd, sv, yx, ke, rd, te, rt, pg, bo, bt, kp, kt, zz, ur, uq, ud, tw, th, pc, nx, wa, wt⟩ := zm; obtain ⟨hT, hQ, hA, ⟨hB9, hS9⟩, hC, hK9, hV⟩ := h
  obtain ⟨e1, o1, rfl, hx⟩ := hx
  obtain ⟨w1m, w2m, rfl, hm⟩ := hm
  have e := hA.1
  subst e
  obtain ⟨v1, v2, v3, v4, v5⟩ := hV
  refine ⟨?_, hT, hQ, hA, ⟨hB9, hS9⟩, hC, hK9, v1, v2, v3, v4, v5⟩
  rw [hx, hm, v1, v2, v3, v4]
  exact congrArg nI (comN_cg (fun o ho => cnt_cg hA.2.2.2.2.2.1 hA.2.2.2.2.2.2.1 hA.2.2.1))
theorem st_drill {zx x1 : XS} {zm m1 : MS} {r : Int32} {n : Int32} {row : Int32} {q : Int32} {r1 r2 : Int32} (h : Rel zx zm) (hx : xP_drill r n row q zx x1 r1) (hm : mP_drill r n row q zm m1 r2) : r1 = r2 ∧ Rel x1 m1 := by
  obtain ⟨tx, ln, stp, wy, wq, ho, dk, dt, dr, ds, kd, tn, rk, sl, v, mi, se, dv, dm, de, fi, ac, bk, bm, bs, fl, kk, km, ks, tr, tq, td, tc, pa, on, wh, en, eo, cm⟩ := zx; obtain ⟨ts, pl, rq, sq, rr, rs, aq, uc, sd, sv, yx, ke, rd, te, rt, pg, bo, bt, kp, kt, zz, ur, uq, ud, tw, th, pc, nx, wa, wt⟩ := zm; obtain ⟨hT, hQ, hA, ⟨hB9, hS9⟩, hC, hK9, hV⟩ := h
  obtain ⟨dv1, dm1, de1, rfl, hx⟩ := hx
  obtain ⟨tw1m, te1m, th1m, rfl, hm⟩ := hm
  exact ⟨dr_st hA hS9 hx hm, hT, hQ, hA, ⟨hB9, hS9⟩, hC, hK9, hV⟩
theorem st_keep {zx x1 : XS} {zm m1 : MS} {q : Int32} {r1 r2 : Int32} (h : Rel zx zm) (hx : xP_keep q zx x1 r1) (hm : mP_keep q zm m1 r2) : r1 = r2 ∧ Rel x1 m1 := by
  obtain ⟨tx, ln, stp, wy, wq, ho, dk, dt, dr, ds, kd, tn, rk, sl, v, mi, se, dv, dm, de, fi, ac, bk, bm, bs, fl, kk, km, ks, tr, tq, td, tc, pa, on, wh, en, eo, cm⟩ := zx; obtain ⟨ts, pl, rq, sq, rr, rs, aq, uc, sd, sv, yx, ke, rd, te, rt, pg, bo, bt, kp, kt, zz, ur, uq, ud, tw, th, pc, nx, wa, wt⟩ := zm; obtain ⟨hT, hQ, hA, ⟨hB9, hS9⟩, hC, hK9, hV⟩ := h
  obtain ⟨fl1, kk1, km1, ks1, rfl, hx⟩ := hx
  obtain ⟨kp1m, ks1m, zz1m, rfl, hm⟩ := hm
  rcases hm with ⟨c, rfl, rfl, rfl, rfl⟩ | ⟨j, hj, rfl, rfl, g1, g2, rfl, rfl⟩
  · obtain ⟨rfl, e⟩ := hx.2 c
    cases e
    exact ⟨rfl, hT, hQ, hA, ⟨hB9, hS9⟩, hC, hK9, hV⟩
  · obtain ⟨rfl, rfl, rfl, rfl, w, rfl, hw⟩ := hx.1 j hj rfl
    refine ⟨hS9.2.1.symm, hT, hQ, hA, ⟨hB9, hS9⟩, hC, ⟨fun i hi => ?_, fun i hi hz => ?_⟩, hV⟩
    · by_cases e : i = j
      · rw [e, va_up_self, va_up_self, va_up_self]; exact ⟨rfl, by decide, bo_cp hw hB9⟩
      · rw [va_up_ne _ _ e, va_up_ne _ _ e, va_up_ne _ _ e]; exact hK9.1 i hi
    · by_cases e : i = j
      · rw [e, va_up_self, va_up_self, va_up_self]
        have e2 : vp_updL kt j sd j = sd := by simp [vp_updL]
        rw [e2]
        exact SR_v hw hA.2.2.1 (SR_p (fun i hi => g1 i hi) hS9)
      · rw [va_up_ne _ _ e] at hz
        rw [va_up_ne _ _ e, va_up_ne _ _ e, va_up_ne _ _ e]
        have e2 : vp_updL kt j sd i = kt i := by simp [vp_updL, e]
        rw [e2]
        exact SR_p (fun z hz => g2 _ (by omega)) (hK9.2 i hi hz)
theorem st_again {zx x1 : XS} {zm m1 : MS} {q : Int32} {r1 r2 : Int32} (h : Rel zx zm) (hx : xP_again q zx x1 r1) (hm : mP_again q zm m1 r2) : r1 = r2 ∧ Rel x1 m1 := by
  obtain ⟨tx, ln, stp, wy, wq, ho, dk, dt, dr, ds, kd, tn, rk, sl, v, mi, se, dv, dm, de, fi, ac, bk, bm, bs, fl, kk, km, ks, tr, tq, td, tc, pa, on, wh, en, eo, cm⟩ := zx; obtain ⟨ts, pl, rq, sq, rr, rs, aq, uc, sd, sv, yx, ke, rd, te, rt, pg, bo, bt, kp, kt, zz, ur, uq, ud, tw, th, pc, nx, wa, wt⟩ := zm; obtain ⟨hT, hQ, hA, ⟨hB9, hS9⟩, hC, hK9, hV⟩ := h
  obtain ⟨ac1, v2, mi2, se2, rfl, hx⟩ := hx
  obtain ⟨q1m, sd1m, ac1m, rfl, hm⟩ := hm
  rcases hm with ⟨c, rfl, rfl, rfl, rfl⟩ | ⟨j, hj, rfl, ⟨c, rfl, rfl, rfl, rfl⟩ | ⟨c, g1, rfl, rfl, rfl⟩⟩
  · obtain ⟨rfl, e⟩ := hx.2 c
    cases e
    exact ⟨rfl, hT, hQ, hA, ⟨hB9, hS9⟩, hC, hK9, hV⟩
  · obtain ⟨rfl, e⟩ := (hx.1 j hj rfl).1 (by rw [(hK9.1 j hj).1]; exact c)
    cases e
    exact ⟨rfl, hT, hQ, hA, ⟨hB9, hS9⟩, hC, hK9, hV⟩
  · obtain ⟨rfl, rfl, rfl, rfl, x1⟩ := (hx.1 j hj rfl).2 (by rw [(hK9.1 j hj).1]; exact c)
    have s := SR_v x1 hA.2.2.1 (SR_p g1 (hK9.2 j hj c))
    exact ⟨s.2.1.symm, hT, hQ, hA, ⟨bo_cp x1 (hK9.1 j hj).2.2, s⟩, ⟨rfl, by decide, hC.2.2.1, hC.2.2.2.1, fun j hj => absurd hj (Nat.not_lt_zero _)⟩, hK9, hV⟩
