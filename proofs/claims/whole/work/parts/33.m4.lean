/-! the reference: a minute, the book -/
section
variable {pg pq pw q1 : Nat → Int32} {t : Nat → Int32} {v w : Nat → Nat → Int32} {rk j k n i o kk : Nat} {x : Int32}
theorem u_ne {f : Nat → Int32} (h : ¬ i = k) : upd f k x i = f i := if_neg h
theorem tellV_ne {f g : Nat} (hg : ¬ g = k) : tellV kk v k o f g = v f g := by
  unfold tellV takeV
  by_cases c : v 6 k = 0
  · rw [if_pos c, up2_at, if_neg (fun z => hg z.2), up2_at, if_neg (fun z => hg z.2), up2_at, if_neg (fun z => hg z.2)]
  · rw [if_neg c, up2_at, if_neg (fun z => hg z.2)]
theorem tellV_eq {f : Nat} (h : ∀ f, f < 7 → v f k = w f k) (hf : f < 7) : tellV kk v k o f k = tellV kk w k o f k := by
  have h6 := h 6 (by decide)
  have h0 := h 0 (by decide)
  have h2 := h 2 (by decide)
  have hff := h f hf
  unfold tellV takeV
  by_cases c : w 6 k = 0
  · rw [if_pos c, if_pos (h6.trans c)]
    simp only [up2_at, h0, h2, hff]
  · rw [if_neg c, if_neg (fun z => c (h6.symm.trans z))]
    simp only [up2_at, hff]
theorem tellR_eq (h : v 6 k = w 6 k) : tellR kk v k o = tellR kk w k o := by
  unfold tellR; rw [h]
theorem wayO_lt9 {tn : Nat → Nat} {u : Nat} {se : Int64} (hu : u < 5) : wayO tn k u se < 5 := by
  unfold wayO
  split
  · exact hu
  · exact pickN_lt hu
theorem gm_a {t2 : Nat → Int32} (h : ∀ f g, f < 7 → g < rk → w f g = if f = 5 ∧ j + 2 ≤ g then t2 g else vOf pq f g) (ht : t2 (j + 1) = -9) : ∀ f g, f < 7 → g < rk → up2 w 5 (j + 1) (-9) f g = if f = 5 ∧ j + 1 ≤ g then t2 g else vOf pq f g := by
  intro f g hf hg
  rw [up2_at]
  by_cases e : f = 5 ∧ g = j + 1
  · rw [if_pos e, if_pos ⟨e.1, by omega⟩, e.2]; exact ht.symm
  · rw [if_neg e, h f g hf hg]
    by_cases c : f = 5 ∧ j + 2 ≤ g
    · rw [if_pos c, if_pos ⟨c.1, by omega⟩]
    · rw [if_neg c, if_neg (by omega)]
theorem gm_b {t2 : Nat → Int32} (h : ∀ f g, f < 7 → g < rk → w f g = if f = 5 ∧ j + 2 ≤ g then t2 g else vOf pq f g) (hq : vOf q1 = tellV kk (vOf pq) (j + 1) o) (hj : j + 1 < rk) : ∀ f g, f < 7 → g < rk → up2 (tellV kk w (j + 1) o) 5 (j + 1) (tellR kk w (j + 1) o) f g = if f = 5 ∧ j + 1 ≤ g then upd t2 (j + 1) (tellR kk (vOf pq) (j + 1) o) g else vOf q1 f g := by
  intro f g hf hg
  have hk : ∀ f, f < 7 → w f (j + 1) = vOf pq f (j + 1) := fun f hf => by rw [h f (j + 1) hf hj, if_neg (by omega)]
  rw [up2_at]
  by_cases e : g = j + 1
  · subst e
    by_cases e5 : f = 5
    · rw [if_pos ⟨e5, rfl⟩, if_pos ⟨e5, Nat.le_refl _⟩, tellR_eq (hk 6 (by decide))]
      exact (if_pos rfl).symm
    · rw [if_neg (fun z => e5 z.1), if_neg (fun z => e5 z.1), hq]
      exact tellV_eq hk hf
  · rw [if_neg (fun z => e z.2), tellV_ne e, h f g hf hg]
    by_cases c : f = 5 ∧ j + 2 ≤ g
    · rw [if_pos c, if_pos ⟨c.1, by omega⟩, u_ne e]
    · rw [if_neg c, if_neg (by omega), hq, tellV_ne e]
theorem gm_u {i1 : Nat} (hsc : SceneOk rk (vOf pg)) (hlo : ∀ f g, f < 7 → g < i1 → vOf pq f g = vOf pg f g) (hj : j < i1) (hr : j < rk) (h7 : j < 7) (h : ¬ pq (35 + j) = -9) : ∃ u, u < 5 ∧ pq (35 + j) = nI u := by
  have e : pq (35 + j) = vOf pg 5 j := by rw [← vp5 (pg := pq) h7]; exact hlo 5 j (by decide) hj
  rw [e] at h ⊢
  exact ((hsc j hr).1).resolve_left h
theorem gm_0 {t2 : Nat → Int32} {i1 : Nat} (h : ∀ f g, f < 7 → g < rk → w f g = if f = 5 ∧ i1 ≤ g then t2 g else vOf pq f g) (ht : ∀ g, g < i1 → t2 g = -9) (h9 : i1 ≤ 1) (hr : rk = 0 ∨ 1 ≤ i1) : ∀ f g, f < 7 → g < rk → wkV (up2 w 5 0 (-9)) 0 f g = if f = 5 ∧ 0 ≤ g then t2 g else vOf (upd pq 49 x) f g := by
  intro f g hf hg
  show up2 w 5 0 (-9) f g = _
  rw [vOf_49, up2_at]
  by_cases e : f = 5 ∧ g = 0
  · rw [if_pos e, if_pos ⟨e.1, by omega⟩, e.2]
    exact (ht 0 (by omega)).symm
  · rw [if_neg e, h f g hf hg]
    by_cases c : f = 5
    · rw [if_pos ⟨c, by omega⟩, if_pos ⟨c, by omega⟩]
    · rw [if_neg (fun z => c z.1), if_neg (fun z => c z.1)]
theorem gm_49 (h : pq 49 = pg 49) : upd pq 49 (pq 49 + nI 1) 49 = pg 49 + nI 1 := by
  rw [← h]; exact if_pos rfl
def nNo (d : Int32) : Int32 := if d = nI 1 then nI 1 else nI 0
def nEa (d : Int32) : Int32 := if d = nI 2 then (-1) else if d = nI 3 then nI 1 else nI 0
theorem add_z (x : Int32) : x + nI 0 = x := Int32.add_zero x
theorem walk_at {f g : Nat} : walkV w n f g = if f = 4 ∧ g = n then w 4 n + nNo (w 2 n) else if f = 3 ∧ g = n then w 3 n + nEa (w 2 n) else w f g := by
  have n1 : (nI 1 : Int32) = nI 1 := rfl
  unfold walkV nNo nEa
  by_cases d1 : w 2 n = nI 1
  · rw [if_pos d1, if_pos d1, if_neg (show ¬ w 2 n = nI 2 by rw [d1]; decide), if_neg (show ¬ w 2 n = nI 3 by rw [d1]; decide), up2_at, add_z]
    by_cases e : f = 4 ∧ g = n
    · rw [if_pos e, if_pos e]
    · rw [if_neg e, if_neg e]
      by_cases q : f = 3 ∧ g = n
      · rw [if_pos q, q.1, q.2]
      · rw [if_neg q]
  · rw [if_neg d1, if_neg d1, add_z]
    by_cases d2 : w 2 n = nI 2
    · rw [if_pos d2, if_pos d2, up2_at]
      by_cases e : f = 4 ∧ g = n
      · rw [if_pos e, if_neg (by omega), e.1, e.2]
      · rw [if_neg e]
        by_cases q : f = 3 ∧ g = n
        · rw [if_pos q, if_pos q, Int32.sub_eq_add_neg]; rfl
        · rw [if_neg q, if_neg q]
    · rw [if_neg d2, if_neg d2]
      by_cases d3 : w 2 n = nI 3
      · rw [if_pos d3, if_pos d3, up2_at]
        by_cases e : f = 4 ∧ g = n
        · rw [if_pos e, if_neg (by omega), e.1, e.2]
        · rw [if_neg e]
      · rw [if_neg d3, if_neg d3, add_z]
        by_cases e : f = 4 ∧ g = n
        · rw [if_pos e, e.1, e.2]
        · rw [if_neg e]
          by_cases q : f = 3 ∧ g = n
          · rw [if_pos q, q.1, q.2]
          · rw [if_neg q]
theorem gm_s {W : Nat → Nat → Int32} {t2 : Nat → Int32} (h : ∀ f g, f < 7 → g < rk → wkV W n f g = if f = 5 ∧ n ≤ g then t2 g else vOf pw f g) (hn : n < rk) (h7 : n < 7) : ∀ f g, f < 7 → g < rk → wkV W (n + 1) f g = if f = 5 ∧ n + 1 ≤ g then t2 g else vOf (upd (upd (upd pw (35 + n) (t2 n)) (28 + n) (pw (28 + n) + nNo (pw (14 + n)))) (21 + n) (pw (21 + n) + nEa (pw (14 + n)))) f g := by
  intro f g hf hg
  have w2 : wkV W n 2 n = pw (14 + n) := by rw [h 2 n (by decide) hn, if_neg (by omega), vp2 h7]
  have w3 : wkV W n 3 n = pw (21 + n) := by rw [h 3 n (by decide) hn, if_neg (by omega), vp3 h7]
  have w4 : wkV W n 4 n = pw (28 + n) := by rw [h 4 n (by decide) hn, if_neg (by omega), vp4 h7]
  rw [vOf_up (f := 3) (k := n) (by decide) h7 (by omega), vOf_up (f := 4) (k := n) (by decide) h7 (by omega), vOf_up (f := 5) (k := n) (by decide) h7 (by omega)]
  show walkV (wkV W n) n f g = _
  rw [walk_at, w2, w3, w4, up2_at, up2_at, up2_at, h f g hf hg]
  by_cases e4 : f = 4 ∧ g = n
  · rw [if_pos e4, if_neg (by omega), if_neg (by omega), if_pos e4]
  · rw [if_neg e4, if_neg e4]
    by_cases e3 : f = 3 ∧ g = n
    · rw [if_pos e3, if_neg (by omega), if_pos e3]
    · rw [if_neg e3, if_neg e3]
      by_cases e5 : f = 5 ∧ g = n
      · rw [if_pos ⟨e5.1, by omega⟩, if_neg (by omega), if_pos e5, e5.2]
      · rw [if_neg e5]
        by_cases c : f = 5 ∧ n ≤ g
        · rw [if_pos c, if_pos (by omega)]
        · rw [if_neg c, if_neg (by omega)]
end
def shN (ac : Nat) : Nat := if ac = 12 then 1 else 0
/-- what the reference's book holds once an act is written -/
def NtM (ac : Nat) (bo : Nat → Int32) (bs : Nat → Int64) (pg : Nat → Int32) (sd : Int64) (bo1 : Nat → Int32) (bs1 : Nat → Int64) : Prop :=
  (∀ j i, j < acN ac → i < 50 → bo1 (50 * j + i) = bo (50 * (j + shN ac) + i)) ∧ (∀ j, j < acN ac → bs1 j = bs (j + shN ac)) ∧ (∀ i, i < 50 → bo1 (50 * acN ac + i) = pg i) ∧ bs1 (acN ac) = sd
theorem nt_b {ac : Nat} {bo : Nat → Int32} (h : ¬ ac = 12) : ∀ j i, j < acN ac → i < 50 → bo (50 * j + i) = bo (50 * (j + shN ac) + i) := by
  intro j i _ _
  rw [shN, if_neg h]; rfl
theorem nt_a {ac : Nat} {b bo : Nat → Int32} (h : ac = 12) (hb : ∀ j, j < 550 → b j = bo (j + 50)) : ∀ j i, j < acN ac → i < 50 → b (50 * j + i) = bo (50 * (j + shN ac) + i) := by
  intro j i hj hi
  rw [acN, if_pos h] at hj
  rw [shN, if_pos h, hb _ (by omega), show 50 * j + i + 50 = 50 * (j + 1) + i by omega]
theorem nt_s {b bo : Nat → Int32} {i : Nat} (hb : ∀ j, j < 600 → b j = if j < i then bo (j + 50) else bo j) (hi : i < 550) : ∀ j, j < 600 → upd b i (b (i + 50)) j = if j < i + 1 then bo (j + 50) else bo j := by
  intro j hj
  unfold upd
  by_cases e : j = i
  · rw [if_pos e, if_pos (by omega), hb _ (by omega), if_neg (by omega), e]
  · rw [if_neg e, hb j hj]
    by_cases c : j < i
    · rw [if_pos c, if_pos (by omega)]
    · rw [if_neg c, if_neg (by omega)]
theorem nt_d {d bs : Nat → Int64} {i : Nat} (hd : ∀ j, j < 12 → d j = if j < i then bs (j + 1) else bs j) (hi : i < 11) : ∀ j, j < 12 → vp_updL d i (d (i + 1)) j = if j < i + 1 then bs (j + 1) else bs j := by
  intro j hj
  unfold vp_updL
  by_cases e : j = i
  · rw [if_pos e, if_pos (by omega), hd _ (by omega), if_neg (by omega), e]
  · rw [if_neg e, hd j hj]
    by_cases c : j < i
    · rw [if_pos c, if_pos (by omega)]
    · rw [if_neg c, if_neg (by omega)]
set_option maxHeartbeats 4000000 in
set_option maxRecDepth 100000 in
theorem c_X10_goMinute {l : Launch} {G : va_G} {cI cJ cZ cS : ClassId} (g : Nat → Nat) (ts : Nat) (pl : Nat) (rk : Nat) (sl : Nat) (rr : Nat) (rs : Nat) (ac : Nat) (tc : Nat) (sd : Int64) (td9 : Int64) (kd : Nat → Nat) (tn : Nat → Nat) (pa : Nat) (pg : Nat → Int32) (th : Nat → Int32) (hrk : rk < 8) (hok : ArmyOk kd tn) (hdg : ∀ k u, k < 7 → u < 5 → slT tn k u u = 0) (hsc : SceneOk rk (vOf pg)) : CV l G (kT cI cJ cZ cS) (S := (Nat → Int32) × (Nat → Int32)) yX10_goMinute wsX10_goMinute { frames := 2, cells := 0, slots := 0, locals := 50 } [.ref (g 0), .ref pa] [(g 0, .inr (10, [.int (nI 0), .ref (g 1), .int (nI ts), .int (nI pl), .int (nI rk), .ref (g 5), .int (nI sl), .ref (g 7), .int (nI rr), .int (nI rs), .ref (g 10), .ref (g 11), .ref (g 12), .long sd, .ref (g 14), .ref (g 15), .int (nI ac), .ref (g 17), .ref (g 18), .ref (g 19), .int (nI tc), .ref (g 21), .ref (g 22), .ref (g 23), .ref (g 24), .long td9, .ref (g 26), .ref (g 27), .ref (g 28), .ref (g 29), .ref (g 30)])), (g 5, .inl (cI, 7, .inl (fun i9 => nI (kd i9)))), (g 7, .inl (cI, 175, .inl (fun i9 => nI (tn i9)))), (pa, .inl (cI, 50, .inl pg)), (g 26, .inl (cI, 7, .inl th))] (fun uu9 => match uu9 with | (q1, t1) => (∀ f j, f < 7 → j < rk → vOf q1 f j = minV kd tn rk (vOf pg) td9 f j) ∧ q1 49 = pg 49 + nI 1) (fun uu9 => match uu9 with | (q1, t1) => [(g 0, .inr (10, [.int (nI 0), .ref (g 1), .int (nI ts), .int (nI pl), .int (nI rk), .ref (g 5), .int (nI sl), .ref (g 7), .int (nI rr), .int (nI rs), .ref (g 10), .ref (g 11), .ref (g 12), .long sd, .ref (g 14), .ref (g 15), .int (nI ac), .ref (g 17), .ref (g 18), .ref (g 19), .int (nI tc), .ref (g 21), .ref (g 22), .ref (g 23), .ref (g 24), .long (minS kd tn rk (vOf pg) td9), .ref (g 26), .ref (g 27), .ref (g 28), .ref (g 29), .ref (g 30)])), (g 5, .inl (cI, 7, .inl (fun i9 => nI (kd i9)))), (g 7, .inl (cI, 175, .inl (fun i9 => nI (tn i9)))), (pa, .inl (cI, 50, .inl q1)), (g 26, .inl (cI, 7, .inl t1))]) := by
  refine CV.of (cc := cX10_goMinute) (maxL := 4) (by decide) rfl (Nat.le_of_ble_eq_true rfl) ?_
  intro p9 e9 s m below meth co9 A ls hB
  obtain ⟨hx, hb, hml, hr, hts, hown, hlocks, hmn, hK, hP, hD, hS, hA, hl⟩ := hB
  have hP : va_P G vwCl [(g 0, .inr (10, [.int (nI 0), .ref (g 1), .int (nI ts), .int (nI pl), .int (nI rk), .ref (g 5), .int (nI sl), .ref (g 7), .int (nI rr), .int (nI rs), .ref (g 10), .ref (g 11), .ref (g 12), .long sd, .ref (g 14), .ref (g 15), .int (nI ac), .ref (g 17), .ref (g 18), .ref (g 19), .int (nI tc), .ref (g 21), .ref (g 22), .ref (g 23), .ref (g 24), .long td9, .ref (g 26), .ref (g 27), .ref (g 28), .ref (g 29), .ref (g 30)])), (g 5, .inl (cI, 7, .inl (fun i9 => nI (kd i9)))), (g 7, .inl (cI, 175, .inl (fun i9 => nI (tn i9)))), (pa, .inl (cI, 50, .inl pg)), (g 26, .inl (cI, 7, .inl th))] s.heap := hP
  have hD : va_D A [(g 0, .inr (10, [.int (nI 0), .ref (g 1), .int (nI ts), .int (nI pl), .int (nI rk), .ref (g 5), .int (nI sl), .ref (g 7), .int (nI rr), .int (nI rs), .ref (g 10), .ref (g 11), .ref (g 12), .long sd, .ref (g 14), .ref (g 15), .int (nI ac), .ref (g 17), .ref (g 18), .ref (g 19), .int (nI tc), .ref (g 21), .ref (g 22), .ref (g 23), .ref (g 24), .long td9, .ref (g 26), .ref (g 27), .ref (g 28), .ref (g 29), .ref (g 30)])), (g 5, .inl (cI, 7, .inl (fun i9 => nI (kd i9)))), (g 7, .inl (cI, 175, .inl (fun i9 => nI (tn i9)))), (pa, .inl (cI, 50, .inl pg)), (g 26, .inl (cI, 7, .inl th))] := hD
  have hl : lv_has ls 4 [(0, .ref (g 0)), (1, .ref pa)] := hl
  have k_0 := hts (.fieldLink RX10 76 "HearsayMarchModel" "ranks" "I") (by decide +kernel)
  have k_1 := hts (.fieldLink RX10 57 "HearsayMarchModel" "then" "[I") (by decide +kernel)
  have hin10 : ∀ w ∈ wsX100, w ∈ wsX10_goMinute := by decide +kernel
  refine lv_iconst (v := nI 0) hx hb dX10_goMinute_0 (by decide) ?_
  refine lv_istore_n (lv' := [(2, .int (nI 0)), (0, .ref (g 0)), (1, .ref pa)]) hx hb dX10_goMinute_1 rfl hl (by decide) rfl (fun ls hl => ?_)
  refine loopW (σ := Nat × (Nat → Int32)) 2 (fun xx9 H locs ls => match xx9 with | (i, t) => (i ≤ 7) ∧ (∀ j, j < i → t j = -9) ∧ va_P G vwCl [(g 0, .inr (10, [.int (nI 0), .ref (g 1), .int (nI ts), .int (nI pl), .int (nI rk), .ref (g 5), .int (nI sl), .ref (g 7), .int (nI rr), .int (nI rs), .ref (g 10), .ref (g 11), .ref (g 12), .long sd, .ref (g 14), .ref (g 15), .int (nI ac), .ref (g 17), .ref (g 18), .ref (g 19), .int (nI tc), .ref (g 21), .ref (g 22), .ref (g 23), .ref (g 24), .long td9, .ref (g 26), .ref (g 27), .ref (g 28), .ref (g 29), .ref (g 30)])), (g 5, .inl (cI, 7, .inl (fun i9 => nI (kd i9)))), (g 7, .inl (cI, 175, .inl (fun i9 => nI (tn i9)))), (pa, .inl (cI, 50, .inl pg)), (g 26, .inl (cI, 7, .inl t))] H ∧ va_D A [(g 0, .inr (10, [.int (nI 0), .ref (g 1), .int (nI ts), .int (nI pl), .int (nI rk), .ref (g 5), .int (nI sl), .ref (g 7), .int (nI rr), .int (nI rs), .ref (g 10), .ref (g 11), .ref (g 12), .long sd, .ref (g 14), .ref (g 15), .int (nI ac), .ref (g 17), .ref (g 18), .ref (g 19), .int (nI tc), .ref (g 21), .ref (g 22), .ref (g 23), .ref (g 24), .long td9, .ref (g 26), .ref (g 27), .ref (g 28), .ref (g 29), .ref (g 30)])), (g 5, .inl (cI, 7, .inl (fun i9 => nI (kd i9)))), (g 7, .inl (cI, 175, .inl (fun i9 => nI (tn i9)))), (pa, .inl (cI, 50, .inl pg)), (g 26, .inl (cI, 7, .inl t))] ∧ va_S A s.heap H locs ∧ lv_has ls 4 [(2, .int (nI i)), (0, .ref (g 0)), (1, .ref pa)]) (fun xx9 => match xx9 with | (i, t) => []) (fun xx9 => match xx9 with | (i, t) => 7 - i) ?_ (0, th) ⟨by first | assumption | omega | (simp; done), fun j hj => absurd hj (Nat.not_lt_zero _), hP.sub [0, 1, 2, 3, 4] rfl, hD.sub [0, 1, 2, 3, 4] (by decide) rfl, hS, lv_sub hl [0, 1, 2] rfl⟩
  intro xx9 H locs ls hI ih_2
  obtain ⟨i, t⟩ := xx9
  obtain ⟨hi, ht, hP, hD, hS, hl⟩ := hI
  have hi : i ≤ 7 := hi
  have ht : ∀ j, j < i → t j = -9 := ht
  have hP : va_P G vwCl [(g 0, .inr (10, [.int (nI 0), .ref (g 1), .int (nI ts), .int (nI pl), .int (nI rk), .ref (g 5), .int (nI sl), .ref (g 7), .int (nI rr), .int (nI rs), .ref (g 10), .ref (g 11), .ref (g 12), .long sd, .ref (g 14), .ref (g 15), .int (nI ac), .ref (g 17), .ref (g 18), .ref (g 19), .int (nI tc), .ref (g 21), .ref (g 22), .ref (g 23), .ref (g 24), .long td9, .ref (g 26), .ref (g 27), .ref (g 28), .ref (g 29), .ref (g 30)])), (g 5, .inl (cI, 7, .inl (fun i9 => nI (kd i9)))), (g 7, .inl (cI, 175, .inl (fun i9 => nI (tn i9)))), (pa, .inl (cI, 50, .inl pg)), (g 26, .inl (cI, 7, .inl t))] _ := hP
  have hD : va_D A [(g 0, .inr (10, [.int (nI 0), .ref (g 1), .int (nI ts), .int (nI pl), .int (nI rk), .ref (g 5), .int (nI sl), .ref (g 7), .int (nI rr), .int (nI rs), .ref (g 10), .ref (g 11), .ref (g 12), .long sd, .ref (g 14), .ref (g 15), .int (nI ac), .ref (g 17), .ref (g 18), .ref (g 19), .int (nI tc), .ref (g 21), .ref (g 22), .ref (g 23), .ref (g 24), .long td9, .ref (g 26), .ref (g 27), .ref (g 28), .ref (g 29), .ref (g 30)])), (g 5, .inl (cI, 7, .inl (fun i9 => nI (kd i9)))), (g 7, .inl (cI, 175, .inl (fun i9 => nI (tn i9)))), (pa, .inl (cI, 50, .inl pg)), (g 26, .inl (cI, 7, .inl t))] := hD
  have hl : lv_has ls 4 [(2, .int (nI i)), (0, .ref (g 0)), (1, .ref pa)] := hl
  refine lv_iload_n hx hb dX10_goMinute_2 rfl (lv_at hl 0 rfl) ?_
  refine lv_bipush (v := nI 7) hx hb dX10_goMinute_3 (by decide) ?_
  refine lv_icmp_ge (tgt := 22) hx hb dX10_goMinute_5 (by decide) (fun c_5 => ?_) (fun c_5 => ?_)
  · skip
    have c_5 := n_geT c_5 (by omega) (by omega)
    refine lv_aload_n hx hb dX10_goMinute_22 rfl (lv_at hl 1 rfl) ?_
    refine va_get (D := G) (ci := 10) (v := .int (nI rk)) (C := RX10) (T := TX10) (N := 31) hx hb hts hin10 hown hK.1 hP 0 rfl rfl 4 (by decide) k_0 (fun _ h9 => h9) rfl dX10_goMinute_23 ?_
    refine lv_iconst (v := nI 1) hx hb dX10_goMinute_26 (by decide) ?_
    refine lv_isub hx hb dX10_goMinute_27 ?_
    refine top_i (y := nI rk + Int32.ofInt (-1)) (m1_sub rk) ?_
    refine lv_istore_n (lv' := [(2, .int (nI rk + Int32.ofInt (-1))), (0, .ref (g 0)), (1, .ref pa)]) hx hb dX10_goMinute_28 rfl hl (by decide) rfl (fun ls hl => ?_)
    refine loopW (σ := Nat × (Nat → Int32) × (Nat → Int32) × Int64 × (Nat → Nat → Int32)) 29 (fun xx9 H locs ls => match xx9 with | (i1, t2, pq, s1, w) => (i1 ≤ rk) ∧ (rk = 0 ∨ 1 ≤ i1) ∧ ((w, s1) = procM kd tn rk (rk - i1) (vOf pg, td9)) ∧ (∀ f j, f < 7 → j < rk → w f j = if f = 5 ∧ i1 ≤ j then t2 j else vOf pq f j) ∧ (∀ j, j < i1 → t2 j = -9) ∧ (∀ f j, f < 7 → j < i1 → vOf pq f j = vOf pg f j) ∧ (pq 49 = pg 49) ∧ va_P G vwCl [(g 0, .inr (10, [.int (nI 0), .ref (g 1), .int (nI ts), .int (nI pl), .int (nI rk), .ref (g 5), .int (nI sl), .ref (g 7), .int (nI rr), .int (nI rs), .ref (g 10), .ref (g 11), .ref (g 12), .long sd, .ref (g 14), .ref (g 15), .int (nI ac), .ref (g 17), .ref (g 18), .ref (g 19), .int (nI tc), .ref (g 21), .ref (g 22), .ref (g 23), .ref (g 24), .long s1, .ref (g 26), .ref (g 27), .ref (g 28), .ref (g 29), .ref (g 30)])), (g 5, .inl (cI, 7, .inl (fun i9 => nI (kd i9)))), (g 7, .inl (cI, 175, .inl (fun i9 => nI (tn i9)))), (pa, .inl (cI, 50, .inl pq)), (g 26, .inl (cI, 7, .inl t2))] H ∧ va_D A [(g 0, .inr (10, [.int (nI 0), .ref (g 1), .int (nI ts), .int (nI pl), .int (nI rk), .ref (g 5), .int (nI sl), .ref (g 7), .int (nI rr), .int (nI rs), .ref (g 10), .ref (g 11), .ref (g 12), .long sd, .ref (g 14), .ref (g 15), .int (nI ac), .ref (g 17), .ref (g 18), .ref (g 19), .int (nI tc), .ref (g 21), .ref (g 22), .ref (g 23), .ref (g 24), .long s1, .ref (g 26), .ref (g 27), .ref (g 28), .ref (g 29), .ref (g 30)])), (g 5, .inl (cI, 7, .inl (fun i9 => nI (kd i9)))), (g 7, .inl (cI, 175, .inl (fun i9 => nI (tn i9)))), (pa, .inl (cI, 50, .inl pq)), (g 26, .inl (cI, 7, .inl t2))] ∧ va_S A s.heap H locs ∧ lv_has ls 4 [(2, .int (nI i1 + Int32.ofInt (-1))), (0, .ref (g 0)), (1, .ref pa)]) (fun xx9 => match xx9 with | (i1, t2, pq, s1, w) => []) (fun xx9 => match xx9 with | (i1, t2, pq, s1, w) => i1) ?_ (rk, t, pg, td9, (vOf pg)) ⟨Nat.le_refl _, by omega, by rw [Nat.sub_self]; rfl, fun f j hf hj => by rw [if_neg (by omega)], fun j hj => ht j (by omega), fun f j _ _ => rfl, rfl, hP.sub [0, 1, 2, 3, 4] rfl, hD.sub [0, 1, 2, 3, 4] (by decide) rfl, hS, lv_sub hl [0, 1, 2] rfl⟩
    intro xx9 H locs ls hI ih_29
    obtain ⟨i1, t2, pq, s1, w⟩ := xx9
    obtain ⟨hi, hi1, hW, hmx, htl, hlo, h49, hP, hD, hS, hl⟩ := hI
    have hi : i1 ≤ rk := hi
    have hi1 : rk = 0 ∨ 1 ≤ i1 := hi1
    have hW : (w, s1) = procM kd tn rk (rk - i1) (vOf pg, td9) := hW
    have hmx : ∀ f j, f < 7 → j < rk → w f j = if f = 5 ∧ i1 ≤ j then t2 j else vOf pq f j := hmx
    have htl : ∀ j, j < i1 → t2 j = -9 := htl
    have hlo : ∀ f j, f < 7 → j < i1 → vOf pq f j = vOf pg f j := hlo
    have h49 : pq 49 = pg 49 := h49
    have hP : va_P G vwCl [(g 0, .inr (10, [.int (nI 0), .ref (g 1), .int (nI ts), .int (nI pl), .int (nI rk), .ref (g 5), .int (nI sl), .ref (g 7), .int (nI rr), .int (nI rs), .ref (g 10), .ref (g 11), .ref (g 12), .long sd, .ref (g 14), .ref (g 15), .int (nI ac), .ref (g 17), .ref (g 18), .ref (g 19), .int (nI tc), .ref (g 21), .ref (g 22), .ref (g 23), .ref (g 24), .long s1, .ref (g 26), .ref (g 27), .ref (g 28), .ref (g 29), .ref (g 30)])), (g 5, .inl (cI, 7, .inl (fun i9 => nI (kd i9)))), (g 7, .inl (cI, 175, .inl (fun i9 => nI (tn i9)))), (pa, .inl (cI, 50, .inl pq)), (g 26, .inl (cI, 7, .inl t2))] _ := hP
    have hD : va_D A [(g 0, .inr (10, [.int (nI 0), .ref (g 1), .int (nI ts), .int (nI pl), .int (nI rk), .ref (g 5), .int (nI sl), .ref (g 7), .int (nI rr), .int (nI rs), .ref (g 10), .ref (g 11), .ref (g 12), .long sd, .ref (g 14), .ref (g 15), .int (nI ac), .ref (g 17), .ref (g 18), .ref (g 19), .int (nI tc), .ref (g 21), .ref (g 22), .ref (g 23), .ref (g 24), .long s1, .ref (g 26), .ref (g 27), .ref (g 28), .ref (g 29), .ref (g 30)])), (g 5, .inl (cI, 7, .inl (fun i9 => nI (kd i9)))), (g 7, .inl (cI, 175, .inl (fun i9 => nI (tn i9)))), (pa, .inl (cI, 50, .inl pq)), (g 26, .inl (cI, 7, .inl t2))] := hD
    have hl : lv_has ls 4 [(2, .int (nI i1 + Int32.ofInt (-1))), (0, .ref (g 0)), (1, .ref pa)] := hl
    refine lv_iload_n hx hb dX10_goMinute_29 rfl (lv_at hl 0 rfl) ?_
    refine lv_if_le (tgt := 73) hx hb dX10_goMinute_30 (by decide) (fun c_30 => ?_) (fun c_30 => ?_)
    · skip
      have h9 := m1_le c_30 (by omega)
      rw [show s1 = minS kd tn rk (vOf pg) td9 from minS_eq hW h9 hi1] at hP hD
      have hP : va_P G vwCl [(g 0, .inr (10, [.int (nI 0), .ref (g 1), .int (nI ts), .int (nI pl), .int (nI rk), .ref (g 5), .int (nI sl), .ref (g 7), .int (nI rr), .int (nI rs), .ref (g 10), .ref (g 11), .ref (g 12), .long sd, .ref (g 14), .ref (g 15), .int (nI ac), .ref (g 17), .ref (g 18), .ref (g 19), .int (nI tc), .ref (g 21), .ref (g 22), .ref (g 23), .ref (g 24), .long (minS kd tn rk (vOf pg) td9), .ref (g 26), .ref (g 27), .ref (g 28), .ref (g 29), .ref (g 30)])), (g 5, .inl (cI, 7, .inl (fun i9 => nI (kd i9)))), (g 7, .inl (cI, 175, .inl (fun i9 => nI (tn i9)))), (pa, .inl (cI, 50, .inl pq)), (g 26, .inl (cI, 7, .inl t2))] _ := hP
      have hD : va_D A [(g 0, .inr (10, [.int (nI 0), .ref (g 1), .int (nI ts), .int (nI pl), .int (nI rk), .ref (g 5), .int (nI sl), .ref (g 7), .int (nI rr), .int (nI rs), .ref (g 10), .ref (g 11), .ref (g 12), .long sd, .ref (g 14), .ref (g 15), .int (nI ac), .ref (g 17), .ref (g 18), .ref (g 19), .int (nI tc), .ref (g 21), .ref (g 22), .ref (g 23), .ref (g 24), .long (minS kd tn rk (vOf pg) td9), .ref (g 26), .ref (g 27), .ref (g 28), .ref (g 29), .ref (g 30)])), (g 5, .inl (cI, 7, .inl (fun i9 => nI (kd i9)))), (g 7, .inl (cI, 175, .inl (fun i9 => nI (tn i9)))), (pa, .inl (cI, 50, .inl pq)), (g 26, .inl (cI, 7, .inl t2))] := hD
      refine lv_aload_n hx hb dX10_goMinute_73 rfl (lv_at hl 2 rfl) ?_
      refine lv_bipush (v := nI 49) hx hb dX10_goMinute_74 (by decide) ?_
      refine lv_dup2_11 hx hb dX10_goMinute_76 rfl rfl ?_
      refine ald hx hb hK hP 3 0 rfl rfl (j := 49) (by omega) (by omega) dX10_goMinute_77 ?_
      refine lv_iconst (v := nI 1) hx hb dX10_goMinute_78 (by decide) ?_
      refine lv_iadd hx hb dX10_goMinute_79 ?_
      refine ast (f' := upd pq 49 ((pq 49) + (nI 1))) hx hb hK hP hD hS 3 0 rfl rfl (j := 49) (by omega) (by omega) (rfl) dX10_goMinute_80 (fun H locs hP hD hS => ?_)
      have hP : va_P G vwCl [(g 0, .inr (10, [.int (nI 0), .ref (g 1), .int (nI ts), .int (nI pl), .int (nI rk), .ref (g 5), .int (nI sl), .ref (g 7), .int (nI rr), .int (nI rs), .ref (g 10), .ref (g 11), .ref (g 12), .long sd, .ref (g 14), .ref (g 15), .int (nI ac), .ref (g 17), .ref (g 18), .ref (g 19), .int (nI tc), .ref (g 21), .ref (g 22), .ref (g 23), .ref (g 24), .long (minS kd tn rk (vOf pg) td9), .ref (g 26), .ref (g 27), .ref (g 28), .ref (g 29), .ref (g 30)])), (g 5, .inl (cI, 7, .inl (fun i9 => nI (kd i9)))), (g 7, .inl (cI, 175, .inl (fun i9 => nI (tn i9)))), (pa, .inl (cI, 50, .inl (upd pq 49 ((pq 49) + (nI 1))))), (g 26, .inl (cI, 7, .inl t2))] _ := hP
      have hD : va_D A [(g 0, .inr (10, [.int (nI 0), .ref (g 1), .int (nI ts), .int (nI pl), .int (nI rk), .ref (g 5), .int (nI sl), .ref (g 7), .int (nI rr), .int (nI rs), .ref (g 10), .ref (g 11), .ref (g 12), .long sd, .ref (g 14), .ref (g 15), .int (nI ac), .ref (g 17), .ref (g 18), .ref (g 19), .int (nI tc), .ref (g 21), .ref (g 22), .ref (g 23), .ref (g 24), .long (minS kd tn rk (vOf pg) td9), .ref (g 26), .ref (g 27), .ref (g 28), .ref (g 29), .ref (g 30)])), (g 5, .inl (cI, 7, .inl (fun i9 => nI (kd i9)))), (g 7, .inl (cI, 175, .inl (fun i9 => nI (tn i9)))), (pa, .inl (cI, 50, .inl (upd pq 49 ((pq 49) + (nI 1))))), (g 26, .inl (cI, 7, .inl t2))] := hD
      refine lv_iconst (v := nI 0) hx hb dX10_goMinute_81 (by decide) ?_
      refine lv_istore_n (lv' := [(2, .int (nI 0)), (0, .ref (g 0)), (1, .ref pa)]) hx hb dX10_goMinute_82 rfl hl (by decide) rfl (fun ls hl => ?_)
      refine loopW (σ := Nat × (Nat → Int32)) 83 (fun xx9 H locs ls => match xx9 with | (n, pw) => (n ≤ rk) ∧ (∀ f j, f < 7 → j < rk → wkV (up2 w 5 0 (-9)) n f j = if f = 5 ∧ n ≤ j then t2 j else vOf pw f j) ∧ (pw 49 = pg 49 + nI 1) ∧ va_P G vwCl [(g 0, .inr (10, [.int (nI 0), .ref (g 1), .int (nI ts), .int (nI pl), .int (nI rk), .ref (g 5), .int (nI sl), .ref (g 7), .int (nI rr), .int (nI rs), .ref (g 10), .ref (g 11), .ref (g 12), .long sd, .ref (g 14), .ref (g 15), .int (nI ac), .ref (g 17), .ref (g 18), .ref (g 19), .int (nI tc), .ref (g 21), .ref (g 22), .ref (g 23), .ref (g 24), .long (minS kd tn rk (vOf pg) td9), .ref (g 26), .ref (g 27), .ref (g 28), .ref (g 29), .ref (g 30)])), (g 5, .inl (cI, 7, .inl (fun i9 => nI (kd i9)))), (g 7, .inl (cI, 175, .inl (fun i9 => nI (tn i9)))), (pa, .inl (cI, 50, .inl pw)), (g 26, .inl (cI, 7, .inl t2))] H ∧ va_D A [(g 0, .inr (10, [.int (nI 0), .ref (g 1), .int (nI ts), .int (nI pl), .int (nI rk), .ref (g 5), .int (nI sl), .ref (g 7), .int (nI rr), .int (nI rs), .ref (g 10), .ref (g 11), .ref (g 12), .long sd, .ref (g 14), .ref (g 15), .int (nI ac), .ref (g 17), .ref (g 18), .ref (g 19), .int (nI tc), .ref (g 21), .ref (g 22), .ref (g 23), .ref (g 24), .long (minS kd tn rk (vOf pg) td9), .ref (g 26), .ref (g 27), .ref (g 28), .ref (g 29), .ref (g 30)])), (g 5, .inl (cI, 7, .inl (fun i9 => nI (kd i9)))), (g 7, .inl (cI, 175, .inl (fun i9 => nI (tn i9)))), (pa, .inl (cI, 50, .inl pw)), (g 26, .inl (cI, 7, .inl t2))] ∧ va_S A s.heap H locs ∧ lv_has ls 4 [(2, .int (nI n)), (0, .ref (g 0)), (1, .ref pa)]) (fun xx9 => match xx9 with | (n, pw) => []) (fun xx9 => match xx9 with | (n, pw) => rk - n) ?_ (0, upd pq 49 ((pq 49) + (nI 1))) ⟨by first | assumption | omega | (simp; done), gm_0 hmx htl h9 hi1, gm_49 h49, hP.sub [0, 1, 2, 3, 4] rfl, hD.sub [0, 1, 2, 3, 4] (by decide) rfl, hS, lv_sub hl [0, 1, 2] rfl⟩
      intro xx9 H locs ls hI ih_83
      obtain ⟨n, pw⟩ := xx9
      obtain ⟨hn, hH, h50, hP, hD, hS, hl⟩ := hI
      have hn : n ≤ rk := hn
      have hH : ∀ f j, f < 7 → j < rk → wkV (up2 w 5 0 (-9)) n f j = if f = 5 ∧ n ≤ j then t2 j else vOf pw f j := hH
      have h50 : pw 49 = pg 49 + nI 1 := h50
      have hP : va_P G vwCl [(g 0, .inr (10, [.int (nI 0), .ref (g 1), .int (nI ts), .int (nI pl), .int (nI rk), .ref (g 5), .int (nI sl), .ref (g 7), .int (nI rr), .int (nI rs), .ref (g 10), .ref (g 11), .ref (g 12), .long sd, .ref (g 14), .ref (g 15), .int (nI ac), .ref (g 17), .ref (g 18), .ref (g 19), .int (nI tc), .ref (g 21), .ref (g 22), .ref (g 23), .ref (g 24), .long (minS kd tn rk (vOf pg) td9), .ref (g 26), .ref (g 27), .ref (g 28), .ref (g 29), .ref (g 30)])), (g 5, .inl (cI, 7, .inl (fun i9 => nI (kd i9)))), (g 7, .inl (cI, 175, .inl (fun i9 => nI (tn i9)))), (pa, .inl (cI, 50, .inl pw)), (g 26, .inl (cI, 7, .inl t2))] _ := hP
      have hD : va_D A [(g 0, .inr (10, [.int (nI 0), .ref (g 1), .int (nI ts), .int (nI pl), .int (nI rk), .ref (g 5), .int (nI sl), .ref (g 7), .int (nI rr), .int (nI rs), .ref (g 10), .ref (g 11), .ref (g 12), .long sd, .ref (g 14), .ref (g 15), .int (nI ac), .ref (g 17), .ref (g 18), .ref (g 19), .int (nI tc), .ref (g 21), .ref (g 22), .ref (g 23), .ref (g 24), .long (minS kd tn rk (vOf pg) td9), .ref (g 26), .ref (g 27), .ref (g 28), .ref (g 29), .ref (g 30)])), (g 5, .inl (cI, 7, .inl (fun i9 => nI (kd i9)))), (g 7, .inl (cI, 175, .inl (fun i9 => nI (tn i9)))), (pa, .inl (cI, 50, .inl pw)), (g 26, .inl (cI, 7, .inl t2))] := hD
      have hl : lv_has ls 4 [(2, .int (nI n)), (0, .ref (g 0)), (1, .ref pa)] := hl
      refine lv_iload_n hx hb dX10_goMinute_83 rfl (lv_at hl 0 rfl) ?_
      refine lv_aload_n hx hb dX10_goMinute_84 rfl (lv_at hl 1 rfl) ?_
      refine va_get (D := G) (ci := 10) (v := .int (nI rk)) (C := RX10) (T := TX10) (N := 31) hx hb hts hin10 hown hK.1 hP 0 rfl rfl 4 (by decide) k_0 (fun _ h9 => h9) rfl dX10_goMinute_85 ?_
      refine lv_icmp_ge (tgt := 163) hx hb dX10_goMinute_88 (by decide) (fun c_88 => ?_) (fun c_88 => ?_)
      · skip
        have c_88 := n_geT c_88 (by omega) (by omega)
        exact endV hx hb hr hlocks ((pw, t2)) (⟨fun f j hf hj => by rw [← minV_eq hW h9 hi1, ← show n = rk by omega, hH f j hf hj, if_neg (by omega)], h50⟩) (hP.sub [0, 1, 2, 3, 4] rfl) (hD.sub [0, 1, 2, 3, 4] (by decide) rfl) hS dX10_goMinute_163
      · skip
        have c_88 := n_geF c_88 (by omega) (by omega)
        refine lv_aload_n hx hb dX10_goMinute_91 rfl (lv_at hl 2 rfl) ?_
        refine lv_bipush (v := nI 35) hx hb dX10_goMinute_92 (by decide) ?_
        refine lv_iload_n hx hb dX10_goMinute_94 rfl (lv_at hl 0 rfl) ?_
        refine lv_iadd hx hb dX10_goMinute_95 ?_
        refine top_i (y := nI (35 + n)) (nI_add _ _) ?_
        refine lv_aload_n hx hb dX10_goMinute_96 rfl (lv_at hl 1 rfl) ?_
        refine va_get (D := G) (ci := 10) (v := .ref (g 26)) (C := RX10) (T := TX10) (N := 31) hx hb hts hin10 hown hK.1 hP 0 rfl rfl 26 (by decide) k_1 (fun _ h9 => h9) rfl dX10_goMinute_97 ?_
        refine lv_iload_n hx hb dX10_goMinute_100 rfl (lv_at hl 0 rfl) ?_
        refine ald hx hb hK hP 4 0 rfl rfl (j := n) (by omega) (by omega) dX10_goMinute_101 ?_
        refine ast (f' := upd pw (35 + n) (t2 n)) hx hb hK hP hD hS 3 0 rfl rfl (j := 35 + n) (by omega) (by omega) (rfl) dX10_goMinute_102 (fun H locs hP hD hS => ?_)
        have hP : va_P G vwCl [(g 0, .inr (10, [.int (nI 0), .ref (g 1), .int (nI ts), .int (nI pl), .int (nI rk), .ref (g 5), .int (nI sl), .ref (g 7), .int (nI rr), .int (nI rs), .ref (g 10), .ref (g 11), .ref (g 12), .long sd, .ref (g 14), .ref (g 15), .int (nI ac), .ref (g 17), .ref (g 18), .ref (g 19), .int (nI tc), .ref (g 21), .ref (g 22), .ref (g 23), .ref (g 24), .long (minS kd tn rk (vOf pg) td9), .ref (g 26), .ref (g 27), .ref (g 28), .ref (g 29), .ref (g 30)])), (g 5, .inl (cI, 7, .inl (fun i9 => nI (kd i9)))), (g 7, .inl (cI, 175, .inl (fun i9 => nI (tn i9)))), (pa, .inl (cI, 50, .inl (upd pw (35 + n) (t2 n)))), (g 26, .inl (cI, 7, .inl t2))] _ := hP
        have hD : va_D A [(g 0, .inr (10, [.int (nI 0), .ref (g 1), .int (nI ts), .int (nI pl), .int (nI rk), .ref (g 5), .int (nI sl), .ref (g 7), .int (nI rr), .int (nI rs), .ref (g 10), .ref (g 11), .ref (g 12), .long sd, .ref (g 14), .ref (g 15), .int (nI ac), .ref (g 17), .ref (g 18), .ref (g 19), .int (nI tc), .ref (g 21), .ref (g 22), .ref (g 23), .ref (g 24), .long (minS kd tn rk (vOf pg) td9), .ref (g 26), .ref (g 27), .ref (g 28), .ref (g 29), .ref (g 30)])), (g 5, .inl (cI, 7, .inl (fun i9 => nI (kd i9)))), (g 7, .inl (cI, 175, .inl (fun i9 => nI (tn i9)))), (pa, .inl (cI, 50, .inl (upd pw (35 + n) (t2 n)))), (g 26, .inl (cI, 7, .inl t2))] := hD
        refine lv_aload_n hx hb dX10_goMinute_103 rfl (lv_at hl 2 rfl) ?_
        refine lv_bipush (v := nI 14) hx hb dX10_goMinute_104 (by decide) ?_
        refine lv_iload_n hx hb dX10_goMinute_106 rfl (lv_at hl 0 rfl) ?_
        refine lv_iadd hx hb dX10_goMinute_107 ?_
        refine top_i (y := nI (14 + n)) (nI_add _ _) ?_
        refine ald hx hb hK hP 3 0 rfl rfl (j := 14 + n) (by omega) (by omega) dX10_goMinute_108 ?_
        refine top_i (y := pw (14 + n)) (u_ne (by omega)) ?_
        refine lv_istore_n (lv' := [(3, .int (pw (14 + n))), (2, .int (nI n)), (0, .ref (g 0)), (1, .ref pa)]) hx hb dX10_goMinute_109 rfl hl (by decide) rfl (fun ls hl => ?_)
        refine lv_aload_n hx hb dX10_goMinute_110 rfl (lv_at hl 3 rfl) ?_
        refine lv_bipush (v := nI 28) hx hb dX10_goMinute_111 (by decide) ?_
        refine lv_iload_n hx hb dX10_goMinute_113 rfl (lv_at hl 1 rfl) ?_
        refine lv_iadd hx hb dX10_goMinute_114 ?_
        refine top_i (y := nI (28 + n)) (nI_add _ _) ?_
        refine lv_dup2_11 hx hb dX10_goMinute_115 rfl rfl ?_
        refine ald hx hb hK hP 3 0 rfl rfl (j := 28 + n) (by omega) (by omega) dX10_goMinute_116 ?_
        refine top_i (y := pw (28 + n)) (u_ne (by omega)) ?_
        refine lv_iload_n hx hb dX10_goMinute_117 rfl (lv_at hl 0 rfl) ?_
        refine lv_iconst (v := nI 1) hx hb dX10_goMinute_118 (by decide) ?_
        refine lv_icmp_ne (tgt := 126) hx hb dX10_goMinute_119 (by decide) (fun c_119 => ?_) (fun c_119 => ?_)
        · skip
          refine lv_iconst (v := nI 0) hx hb dX10_goMinute_126 (by decide) ?_
          refine top_i (y := nNo (pw (14 + n))) (by rw [nNo, if_neg c_119]) ?_
          refine lv_iadd hx hb dX10_goMinute_127 ?_
          refine ast (f' := upd (upd pw (35 + n) (t2 n)) (28 + n) ((pw (28 + n)) + (nNo (pw (14 + n))))) hx hb hK hP hD hS 3 0 rfl rfl (j := 28 + n) (by omega) (by omega) (rfl) dX10_goMinute_128 (fun H locs hP hD hS => ?_)
          have hP : va_P G vwCl [(g 0, .inr (10, [.int (nI 0), .ref (g 1), .int (nI ts), .int (nI pl), .int (nI rk), .ref (g 5), .int (nI sl), .ref (g 7), .int (nI rr), .int (nI rs), .ref (g 10), .ref (g 11), .ref (g 12), .long sd, .ref (g 14), .ref (g 15), .int (nI ac), .ref (g 17), .ref (g 18), .ref (g 19), .int (nI tc), .ref (g 21), .ref (g 22), .ref (g 23), .ref (g 24), .long (minS kd tn rk (vOf pg) td9), .ref (g 26), .ref (g 27), .ref (g 28), .ref (g 29), .ref (g 30)])), (g 5, .inl (cI, 7, .inl (fun i9 => nI (kd i9)))), (g 7, .inl (cI, 175, .inl (fun i9 => nI (tn i9)))), (pa, .inl (cI, 50, .inl (upd (upd pw (35 + n) (t2 n)) (28 + n) ((pw (28 + n)) + (nNo (pw (14 + n))))))), (g 26, .inl (cI, 7, .inl t2))] _ := hP
          have hD : va_D A [(g 0, .inr (10, [.int (nI 0), .ref (g 1), .int (nI ts), .int (nI pl), .int (nI rk), .ref (g 5), .int (nI sl), .ref (g 7), .int (nI rr), .int (nI rs), .ref (g 10), .ref (g 11), .ref (g 12), .long sd, .ref (g 14), .ref (g 15), .int (nI ac), .ref (g 17), .ref (g 18), .ref (g 19), .int (nI tc), .ref (g 21), .ref (g 22), .ref (g 23), .ref (g 24), .long (minS kd tn rk (vOf pg) td9), .ref (g 26), .ref (g 27), .ref (g 28), .ref (g 29), .ref (g 30)])), (g 5, .inl (cI, 7, .inl (fun i9 => nI (kd i9)))), (g 7, .inl (cI, 175, .inl (fun i9 => nI (tn i9)))), (pa, .inl (cI, 50, .inl (upd (upd pw (35 + n) (t2 n)) (28 + n) ((pw (28 + n)) + (nNo (pw (14 + n))))))), (g 26, .inl (cI, 7, .inl t2))] := hD
          refine lv_aload_n hx hb dX10_goMinute_129 rfl (lv_at hl 3 rfl) ?_
          refine lv_bipush (v := nI 21) hx hb dX10_goMinute_130 (by decide) ?_
          refine lv_iload_n hx hb dX10_goMinute_132 rfl (lv_at hl 1 rfl) ?_
          refine lv_iadd hx hb dX10_goMinute_133 ?_
          refine top_i (y := nI (21 + n)) (nI_add _ _) ?_
          refine lv_dup2_11 hx hb dX10_goMinute_134 rfl rfl ?_
          refine ald hx hb hK hP 3 0 rfl rfl (j := 21 + n) (by omega) (by omega) dX10_goMinute_135 ?_
          refine top_i (y := pw (21 + n)) (by rw [u_ne (by omega), u_ne (by omega)]) ?_
          refine lv_iload_n hx hb dX10_goMinute_136 rfl (lv_at hl 0 rfl) ?_
          refine lv_iconst (v := nI 2) hx hb dX10_goMinute_137 (by decide) ?_
          refine lv_icmp_ne (tgt := 145) hx hb dX10_goMinute_138 (by decide) (fun c_138 => ?_) (fun c_138 => ?_)
          · skip
            refine lv_iload_n hx hb dX10_goMinute_145 rfl (lv_at hl 0 rfl) ?_
            refine lv_iconst (v := nI 3) hx hb dX10_goMinute_146 (by decide) ?_
            refine lv_icmp_ne (tgt := 154) hx hb dX10_goMinute_147 (by decide) (fun c_147 => ?_) (fun c_147 => ?_)
            · skip
              refine lv_iconst (v := nI 0) hx hb dX10_goMinute_154 (by decide) ?_
              refine top_i (y := nEa (pw (14 + n))) (by rw [nEa, if_neg c_138, if_neg c_147]) ?_
              refine lv_iadd hx hb dX10_goMinute_155 ?_
              refine ast (f' := upd (upd (upd pw (35 + n) (t2 n)) (28 + n) ((pw (28 + n)) + (nNo (pw (14 + n))))) (21 + n) ((pw (21 + n)) + (nEa (pw (14 + n))))) hx hb hK hP hD hS 3 0 rfl rfl (j := 21 + n) (by omega) (by omega) (rfl) dX10_goMinute_156 (fun H locs hP hD hS => ?_)
              have hP : va_P G vwCl [(g 0, .inr (10, [.int (nI 0), .ref (g 1), .int (nI ts), .int (nI pl), .int (nI rk), .ref (g 5), .int (nI sl), .ref (g 7), .int (nI rr), .int (nI rs), .ref (g 10), .ref (g 11), .ref (g 12), .long sd, .ref (g 14), .ref (g 15), .int (nI ac), .ref (g 17), .ref (g 18), .ref (g 19), .int (nI tc), .ref (g 21), .ref (g 22), .ref (g 23), .ref (g 24), .long (minS kd tn rk (vOf pg) td9), .ref (g 26), .ref (g 27), .ref (g 28), .ref (g 29), .ref (g 30)])), (g 5, .inl (cI, 7, .inl (fun i9 => nI (kd i9)))), (g 7, .inl (cI, 175, .inl (fun i9 => nI (tn i9)))), (pa, .inl (cI, 50, .inl (upd (upd (upd pw (35 + n) (t2 n)) (28 + n) ((pw (28 + n)) + (nNo (pw (14 + n))))) (21 + n) ((pw (21 + n)) + (nEa (pw (14 + n))))))), (g 26, .inl (cI, 7, .inl t2))] _ := hP
              have hD : va_D A [(g 0, .inr (10, [.int (nI 0), .ref (g 1), .int (nI ts), .int (nI pl), .int (nI rk), .ref (g 5), .int (nI sl), .ref (g 7), .int (nI rr), .int (nI rs), .ref (g 10), .ref (g 11), .ref (g 12), .long sd, .ref (g 14), .ref (g 15), .int (nI ac), .ref (g 17), .ref (g 18), .ref (g 19), .int (nI tc), .ref (g 21), .ref (g 22), .ref (g 23), .ref (g 24), .long (minS kd tn rk (vOf pg) td9), .ref (g 26), .ref (g 27), .ref (g 28), .ref (g 29), .ref (g 30)])), (g 5, .inl (cI, 7, .inl (fun i9 => nI (kd i9)))), (g 7, .inl (cI, 175, .inl (fun i9 => nI (tn i9)))), (pa, .inl (cI, 50, .inl (upd (upd (upd pw (35 + n) (t2 n)) (28 + n) ((pw (28 + n)) + (nNo (pw (14 + n))))) (21 + n) ((pw (21 + n)) + (nEa (pw (14 + n))))))), (g 26, .inl (cI, 7, .inl t2))] := hD
              refine lv_iinc (v := nI (n + 1)) (lv' := [(2, .int (nI (n + 1))), (3, .int (pw (14 + n))), (0, .ref (g 0)), (1, .ref pa)]) hx hb dX10_goMinute_157 hl (k := 1) rfl (nI_inc _ 1 1 (by decide)) (by decide) rfl (fun ls hl => ?_)
              refine lv_goto (tgt := 83) hx hb dX10_goMinute_160 (by decide) ?_
              exact ih_83 ((n + 1), upd (upd (upd pw (35 + n) (t2 n)) (28 + n) ((pw (28 + n)) + (nNo (pw (14 + n))))) (21 + n) ((pw (21 + n)) + (nEa (pw (14 + n))))) _ _ _ (by first | omega | (simp only []; omega) | (show _ < _; omega)) ⟨by first | assumption | omega | (simp; done), gm_s hH (by omega) (by omega), by rw [u_ne (by omega), u_ne (by omega), u_ne (by omega)]; exact h50, hP.sub [0, 1, 2, 3, 4] rfl, hD.sub [0, 1, 2, 3, 4] (by decide) rfl, hS, lv_sub hl [0, 2, 3] rfl⟩
            · skip
              refine lv_iconst (v := nI 1) hx hb dX10_goMinute_150 (by decide) ?_
              refine lv_goto (tgt := 155) hx hb dX10_goMinute_151 (by decide) ?_
              refine top_i (y := nEa (pw (14 + n))) (by rw [nEa, if_neg c_138, if_pos c_147]) ?_
              refine lv_iadd hx hb dX10_goMinute_155 ?_
              refine ast (f' := upd (upd (upd pw (35 + n) (t2 n)) (28 + n) ((pw (28 + n)) + (nNo (pw (14 + n))))) (21 + n) ((pw (21 + n)) + (nEa (pw (14 + n))))) hx hb hK hP hD hS 3 0 rfl rfl (j := 21 + n) (by omega) (by omega) (rfl) dX10_goMinute_156 (fun H locs hP hD hS => ?_)
              have hP : va_P G vwCl [(g 0, .inr (10, [.int (nI 0), .ref (g 1), .int (nI ts), .int (nI pl), .int (nI rk), .ref (g 5), .int (nI sl), .ref (g 7), .int (nI rr), .int (nI rs), .ref (g 10), .ref (g 11), .ref (g 12), .long sd, .ref (g 14), .ref (g 15), .int (nI ac), .ref (g 17), .ref (g 18), .ref (g 19), .int (nI tc), .ref (g 21), .ref (g 22), .ref (g 23), .ref (g 24), .long (minS kd tn rk (vOf pg) td9), .ref (g 26), .ref (g 27), .ref (g 28), .ref (g 29), .ref (g 30)])), (g 5, .inl (cI, 7, .inl (fun i9 => nI (kd i9)))), (g 7, .inl (cI, 175, .inl (fun i9 => nI (tn i9)))), (pa, .inl (cI, 50, .inl (upd (upd (upd pw (35 + n) (t2 n)) (28 + n) ((pw (28 + n)) + (nNo (pw (14 + n))))) (21 + n) ((pw (21 + n)) + (nEa (pw (14 + n))))))), (g 26, .inl (cI, 7, .inl t2))] _ := hP
              have hD : va_D A [(g 0, .inr (10, [.int (nI 0), .ref (g 1), .int (nI ts), .int (nI pl), .int (nI rk), .ref (g 5), .int (nI sl), .ref (g 7), .int (nI rr), .int (nI rs), .ref (g 10), .ref (g 11), .ref (g 12), .long sd, .ref (g 14), .ref (g 15), .int (nI ac), .ref (g 17), .ref (g 18), .ref (g 19), .int (nI tc), .ref (g 21), .ref (g 22), .ref (g 23), .ref (g 24), .long (minS kd tn rk (vOf pg) td9), .ref (g 26), .ref (g 27), .ref (g 28), .ref (g 29), .ref (g 30)])), (g 5, .inl (cI, 7, .inl (fun i9 => nI (kd i9)))), (g 7, .inl (cI, 175, .inl (fun i9 => nI (tn i9)))), (pa, .inl (cI, 50, .inl (upd (upd (upd pw (35 + n) (t2 n)) (28 + n) ((pw (28 + n)) + (nNo (pw (14 + n))))) (21 + n) ((pw (21 + n)) + (nEa (pw (14 + n))))))), (g 26, .inl (cI, 7, .inl t2))] := hD
              refine lv_iinc (v := nI (n + 1)) (lv' := [(2, .int (nI (n + 1))), (3, .int (pw (14 + n))), (0, .ref (g 0)), (1, .ref pa)]) hx hb dX10_goMinute_157 hl (k := 1) rfl (nI_inc _ 1 1 (by decide)) (by decide) rfl (fun ls hl => ?_)
              refine lv_goto (tgt := 83) hx hb dX10_goMinute_160 (by decide) ?_
              exact ih_83 ((n + 1), upd (upd (upd pw (35 + n) (t2 n)) (28 + n) ((pw (28 + n)) + (nNo (pw (14 + n))))) (21 + n) ((pw (21 + n)) + (nEa (pw (14 + n))))) _ _ _ (by first | omega | (simp only []; omega) | (show _ < _; omega)) ⟨by first | assumption | omega | (simp; done), gm_s hH (by omega) (by omega), by rw [u_ne (by omega), u_ne (by omega), u_ne (by omega)]; exact h50, hP.sub [0, 1, 2, 3, 4] rfl, hD.sub [0, 1, 2, 3, 4] (by decide) rfl, hS, lv_sub hl [0, 2, 3] rfl⟩
          · skip
            refine lv_iconst (v := (-1)) hx hb dX10_goMinute_141 (by decide) ?_
            refine lv_goto (tgt := 155) hx hb dX10_goMinute_142 (by decide) ?_
            refine top_i (y := nEa (pw (14 + n))) (by rw [nEa, if_pos c_138]) ?_
            refine lv_iadd hx hb dX10_goMinute_155 ?_
            refine ast (f' := upd (upd (upd pw (35 + n) (t2 n)) (28 + n) ((pw (28 + n)) + (nNo (pw (14 + n))))) (21 + n) ((pw (21 + n)) + (nEa (pw (14 + n))))) hx hb hK hP hD hS 3 0 rfl rfl (j := 21 + n) (by omega) (by omega) (rfl) dX10_goMinute_156 (fun H locs hP hD hS => ?_)
            have hP : va_P G vwCl [(g 0, .inr (10, [.int (nI 0), .ref (g 1), .int (nI ts), .int (nI pl), .int (nI rk), .ref (g 5), .int (nI sl), .ref (g 7), .int (nI rr), .int (nI rs), .ref (g 10), .ref (g 11), .ref (g 12), .long sd, .ref (g 14), .ref (g 15), .int (nI ac), .ref (g 17), .ref (g 18), .ref (g 19), .int (nI tc), .ref (g 21), .ref (g 22), .ref (g 23), .ref (g 24), .long (minS kd tn rk (vOf pg) td9), .ref (g 26), .ref (g 27), .ref (g 28), .ref (g 29), .ref (g 30)])), (g 5, .inl (cI, 7, .inl (fun i9 => nI (kd i9)))), (g 7, .inl (cI, 175, .inl (fun i9 => nI (tn i9)))), (pa, .inl (cI, 50, .inl (upd (upd (upd pw (35 + n) (t2 n)) (28 + n) ((pw (28 + n)) + (nNo (pw (14 + n))))) (21 + n) ((pw (21 + n)) + (nEa (pw (14 + n))))))), (g 26, .inl (cI, 7, .inl t2))] _ := hP
            have hD : va_D A [(g 0, .inr (10, [.int (nI 0), .ref (g 1), .int (nI ts), .int (nI pl), .int (nI rk), .ref (g 5), .int (nI sl), .ref (g 7), .int (nI rr), .int (nI rs), .ref (g 10), .ref (g 11), .ref (g 12), .long sd, .ref (g 14), .ref (g 15), .int (nI ac), .ref (g 17), .ref (g 18), .ref (g 19), .int (nI tc), .ref (g 21), .ref (g 22), .ref (g 23), .ref (g 24), .long (minS kd tn rk (vOf pg) td9), .ref (g 26), .ref (g 27), .ref (g 28), .ref (g 29), .ref (g 30)])), (g 5, .inl (cI, 7, .inl (fun i9 => nI (kd i9)))), (g 7, .inl (cI, 175, .inl (fun i9 => nI (tn i9)))), (pa, .inl (cI, 50, .inl (upd (upd (upd pw (35 + n) (t2 n)) (28 + n) ((pw (28 + n)) + (nNo (pw (14 + n))))) (21 + n) ((pw (21 + n)) + (nEa (pw (14 + n))))))), (g 26, .inl (cI, 7, .inl t2))] := hD
            refine lv_iinc (v := nI (n + 1)) (lv' := [(2, .int (nI (n + 1))), (3, .int (pw (14 + n))), (0, .ref (g 0)), (1, .ref pa)]) hx hb dX10_goMinute_157 hl (k := 1) rfl (nI_inc _ 1 1 (by decide)) (by decide) rfl (fun ls hl => ?_)
            refine lv_goto (tgt := 83) hx hb dX10_goMinute_160 (by decide) ?_
            exact ih_83 ((n + 1), upd (upd (upd pw (35 + n) (t2 n)) (28 + n) ((pw (28 + n)) + (nNo (pw (14 + n))))) (21 + n) ((pw (21 + n)) + (nEa (pw (14 + n))))) _ _ _ (by first | omega | (simp only []; omega) | (show _ < _; omega)) ⟨by first | assumption | omega | (simp; done), gm_s hH (by omega) (by omega), by rw [u_ne (by omega), u_ne (by omega), u_ne (by omega)]; exact h50, hP.sub [0, 1, 2, 3, 4] rfl, hD.sub [0, 1, 2, 3, 4] (by decide) rfl, hS, lv_sub hl [0, 2, 3] rfl⟩
        · skip
          refine lv_iconst (v := nI 1) hx hb dX10_goMinute_122 (by decide) ?_
          refine lv_goto (tgt := 127) hx hb dX10_goMinute_123 (by decide) ?_
          refine top_i (y := nNo (pw (14 + n))) (by rw [nNo, if_pos c_119]) ?_
          refine lv_iadd hx hb dX10_goMinute_127 ?_
          refine ast (f' := upd (upd pw (35 + n) (t2 n)) (28 + n) ((pw (28 + n)) + (nNo (pw (14 + n))))) hx hb hK hP hD hS 3 0 rfl rfl (j := 28 + n) (by omega) (by omega) (rfl) dX10_goMinute_128 (fun H locs hP hD hS => ?_)
          have hP : va_P G vwCl [(g 0, .inr (10, [.int (nI 0), .ref (g 1), .int (nI ts), .int (nI pl), .int (nI rk), .ref (g 5), .int (nI sl), .ref (g 7), .int (nI rr), .int (nI rs), .ref (g 10), .ref (g 11), .ref (g 12), .long sd, .ref (g 14), .ref (g 15), .int (nI ac), .ref (g 17), .ref (g 18), .ref (g 19), .int (nI tc), .ref (g 21), .ref (g 22), .ref (g 23), .ref (g 24), .long (minS kd tn rk (vOf pg) td9), .ref (g 26), .ref (g 27), .ref (g 28), .ref (g 29), .ref (g 30)])), (g 5, .inl (cI, 7, .inl (fun i9 => nI (kd i9)))), (g 7, .inl (cI, 175, .inl (fun i9 => nI (tn i9)))), (pa, .inl (cI, 50, .inl (upd (upd pw (35 + n) (t2 n)) (28 + n) ((pw (28 + n)) + (nNo (pw (14 + n))))))), (g 26, .inl (cI, 7, .inl t2))] _ := hP
          have hD : va_D A [(g 0, .inr (10, [.int (nI 0), .ref (g 1), .int (nI ts), .int (nI pl), .int (nI rk), .ref (g 5), .int (nI sl), .ref (g 7), .int (nI rr), .int (nI rs), .ref (g 10), .ref (g 11), .ref (g 12), .long sd, .ref (g 14), .ref (g 15), .int (nI ac), .ref (g 17), .ref (g 18), .ref (g 19), .int (nI tc), .ref (g 21), .ref (g 22), .ref (g 23), .ref (g 24), .long (minS kd tn rk (vOf pg) td9), .ref (g 26), .ref (g 27), .ref (g 28), .ref (g 29), .ref (g 30)])), (g 5, .inl (cI, 7, .inl (fun i9 => nI (kd i9)))), (g 7, .inl (cI, 175, .inl (fun i9 => nI (tn i9)))), (pa, .inl (cI, 50, .inl (upd (upd pw (35 + n) (t2 n)) (28 + n) ((pw (28 + n)) + (nNo (pw (14 + n))))))), (g 26, .inl (cI, 7, .inl t2))] := hD
          refine lv_aload_n hx hb dX10_goMinute_129 rfl (lv_at hl 3 rfl) ?_
          refine lv_bipush (v := nI 21) hx hb dX10_goMinute_130 (by decide) ?_
          refine lv_iload_n hx hb dX10_goMinute_132 rfl (lv_at hl 1 rfl) ?_
          refine lv_iadd hx hb dX10_goMinute_133 ?_
          refine top_i (y := nI (21 + n)) (nI_add _ _) ?_
          refine lv_dup2_11 hx hb dX10_goMinute_134 rfl rfl ?_
          refine ald hx hb hK hP 3 0 rfl rfl (j := 21 + n) (by omega) (by omega) dX10_goMinute_135 ?_
          refine top_i (y := pw (21 + n)) (by rw [u_ne (by omega), u_ne (by omega)]) ?_
          refine lv_iload_n hx hb dX10_goMinute_136 rfl (lv_at hl 0 rfl) ?_
          refine lv_iconst (v := nI 2) hx hb dX10_goMinute_137 (by decide) ?_
          refine lv_icmp_ne (tgt := 145) hx hb dX10_goMinute_138 (by decide) (fun c_138 => ?_) (fun c_138 => ?_)
          · skip
            refine lv_iload_n hx hb dX10_goMinute_145 rfl (lv_at hl 0 rfl) ?_
            refine lv_iconst (v := nI 3) hx hb dX10_goMinute_146 (by decide) ?_
            refine lv_icmp_ne (tgt := 154) hx hb dX10_goMinute_147 (by decide) (fun c_147 => ?_) (fun c_147 => ?_)
            · skip
              refine lv_iconst (v := nI 0) hx hb dX10_goMinute_154 (by decide) ?_
              refine top_i (y := nEa (pw (14 + n))) (by rw [nEa, if_neg c_138, if_neg c_147]) ?_
              refine lv_iadd hx hb dX10_goMinute_155 ?_
              refine ast (f' := upd (upd (upd pw (35 + n) (t2 n)) (28 + n) ((pw (28 + n)) + (nNo (pw (14 + n))))) (21 + n) ((pw (21 + n)) + (nEa (pw (14 + n))))) hx hb hK hP hD hS 3 0 rfl rfl (j := 21 + n) (by omega) (by omega) (rfl) dX10_goMinute_156 (fun H locs hP hD hS => ?_)
              have hP : va_P G vwCl [(g 0, .inr (10, [.int (nI 0), .ref (g 1), .int (nI ts), .int (nI pl), .int (nI rk), .ref (g 5), .int (nI sl), .ref (g 7), .int (nI rr), .int (nI rs), .ref (g 10), .ref (g 11), .ref (g 12), .long sd, .ref (g 14), .ref (g 15), .int (nI ac), .ref (g 17), .ref (g 18), .ref (g 19), .int (nI tc), .ref (g 21), .ref (g 22), .ref (g 23), .ref (g 24), .long (minS kd tn rk (vOf pg) td9), .ref (g 26), .ref (g 27), .ref (g 28), .ref (g 29), .ref (g 30)])), (g 5, .inl (cI, 7, .inl (fun i9 => nI (kd i9)))), (g 7, .inl (cI, 175, .inl (fun i9 => nI (tn i9)))), (pa, .inl (cI, 50, .inl (upd (upd (upd pw (35 + n) (t2 n)) (28 + n) ((pw (28 + n)) + (nNo (pw (14 + n))))) (21 + n) ((pw (21 + n)) + (nEa (pw (14 + n))))))), (g 26, .inl (cI, 7, .inl t2))] _ := hP
              have hD : va_D A [(g 0, .inr (10, [.int (nI 0), .ref (g 1), .int (nI ts), .int (nI pl), .int (nI rk), .ref (g 5), .int (nI sl), .ref (g 7), .int (nI rr), .int (nI rs), .ref (g 10), .ref (g 11), .ref (g 12), .long sd, .ref (g 14), .ref (g 15), .int (nI ac), .ref (g 17), .ref (g 18), .ref (g 19), .int (nI tc), .ref (g 21), .ref (g 22), .ref (g 23), .ref (g 24), .long (minS kd tn rk (vOf pg) td9), .ref (g 26), .ref (g 27), .ref (g 28), .ref (g 29), .ref (g 30)])), (g 5, .inl (cI, 7, .inl (fun i9 => nI (kd i9)))), (g 7, .inl (cI, 175, .inl (fun i9 => nI (tn i9)))), (pa, .inl (cI, 50, .inl (upd (upd (upd pw (35 + n) (t2 n)) (28 + n) ((pw (28 + n)) + (nNo (pw (14 + n))))) (21 + n) ((pw (21 + n)) + (nEa (pw (14 + n))))))), (g 26, .inl (cI, 7, .inl t2))] := hD
              refine lv_iinc (v := nI (n + 1)) (lv' := [(2, .int (nI (n + 1))), (3, .int (pw (14 + n))), (0, .ref (g 0)), (1, .ref pa)]) hx hb dX10_goMinute_157 hl (k := 1) rfl (nI_inc _ 1 1 (by decide)) (by decide) rfl (fun ls hl => ?_)
              refine lv_goto (tgt := 83) hx hb dX10_goMinute_160 (by decide) ?_
              exact ih_83 ((n + 1), upd (upd (upd pw (35 + n) (t2 n)) (28 + n) ((pw (28 + n)) + (nNo (pw (14 + n))))) (21 + n) ((pw (21 + n)) + (nEa (pw (14 + n))))) _ _ _ (by first | omega | (simp only []; omega) | (show _ < _; omega)) ⟨by first | assumption | omega | (simp; done), gm_s hH (by omega) (by omega), by rw [u_ne (by omega), u_ne (by omega), u_ne (by omega)]; exact h50, hP.sub [0, 1, 2, 3, 4] rfl, hD.sub [0, 1, 2, 3, 4] (by decide) rfl, hS, lv_sub hl [0, 2, 3] rfl⟩
            · skip
              refine lv_iconst (v := nI 1) hx hb dX10_goMinute_150 (by decide) ?_
              refine lv_goto (tgt := 155) hx hb dX10_goMinute_151 (by decide) ?_
              refine top_i (y := nEa (pw (14 + n))) (by rw [nEa, if_neg c_138, if_pos c_147]) ?_
              refine lv_iadd hx hb dX10_goMinute_155 ?_
              refine ast (f' := upd (upd (upd pw (35 + n) (t2 n)) (28 + n) ((pw (28 + n)) + (nNo (pw (14 + n))))) (21 + n) ((pw (21 + n)) + (nEa (pw (14 + n))))) hx hb hK hP hD hS 3 0 rfl rfl (j := 21 + n) (by omega) (by omega) (rfl) dX10_goMinute_156 (fun H locs hP hD hS => ?_)
              have hP : va_P G vwCl [(g 0, .inr (10, [.int (nI 0), .ref (g 1), .int (nI ts), .int (nI pl), .int (nI rk), .ref (g 5), .int (nI sl), .ref (g 7), .int (nI rr), .int (nI rs), .ref (g 10), .ref (g 11), .ref (g 12), .long sd, .ref (g 14), .ref (g 15), .int (nI ac), .ref (g 17), .ref (g 18), .ref (g 19), .int (nI tc), .ref (g 21), .ref (g 22), .ref (g 23), .ref (g 24), .long (minS kd tn rk (vOf pg) td9), .ref (g 26), .ref (g 27), .ref (g 28), .ref (g 29), .ref (g 30)])), (g 5, .inl (cI, 7, .inl (fun i9 => nI (kd i9)))), (g 7, .inl (cI, 175, .inl (fun i9 => nI (tn i9)))), (pa, .inl (cI, 50, .inl (upd (upd (upd pw (35 + n) (t2 n)) (28 + n) ((pw (28 + n)) + (nNo (pw (14 + n))))) (21 + n) ((pw (21 + n)) + (nEa (pw (14 + n))))))), (g 26, .inl (cI, 7, .inl t2))] _ := hP
              have hD : va_D A [(g 0, .inr (10, [.int (nI 0), .ref (g 1), .int (nI ts), .int (nI pl), .int (nI rk), .ref (g 5), .int (nI sl), .ref (g 7), .int (nI rr), .int (nI rs), .ref (g 10), .ref (g 11), .ref (g 12), .long sd, .ref (g 14), .ref (g 15), .int (nI ac), .ref (g 17), .ref (g 18), .ref (g 19), .int (nI tc), .ref (g 21), .ref (g 22), .ref (g 23), .ref (g 24), .long (minS kd tn rk (vOf pg) td9), .ref (g 26), .ref (g 27), .ref (g 28), .ref (g 29), .ref (g 30)])), (g 5, .inl (cI, 7, .inl (fun i9 => nI (kd i9)))), (g 7, .inl (cI, 175, .inl (fun i9 => nI (tn i9)))), (pa, .inl (cI, 50, .inl (upd (upd (upd pw (35 + n) (t2 n)) (28 + n) ((pw (28 + n)) + (nNo (pw (14 + n))))) (21 + n) ((pw (21 + n)) + (nEa (pw (14 + n))))))), (g 26, .inl (cI, 7, .inl t2))] := hD
              refine lv_iinc (v := nI (n + 1)) (lv' := [(2, .int (nI (n + 1))), (3, .int (pw (14 + n))), (0, .ref (g 0)), (1, .ref pa)]) hx hb dX10_goMinute_157 hl (k := 1) rfl (nI_inc _ 1 1 (by decide)) (by decide) rfl (fun ls hl => ?_)
              refine lv_goto (tgt := 83) hx hb dX10_goMinute_160 (by decide) ?_
              exact ih_83 ((n + 1), upd (upd (upd pw (35 + n) (t2 n)) (28 + n) ((pw (28 + n)) + (nNo (pw (14 + n))))) (21 + n) ((pw (21 + n)) + (nEa (pw (14 + n))))) _ _ _ (by first | omega | (simp only []; omega) | (show _ < _; omega)) ⟨by first | assumption | omega | (simp; done), gm_s hH (by omega) (by omega), by rw [u_ne (by omega), u_ne (by omega), u_ne (by omega)]; exact h50, hP.sub [0, 1, 2, 3, 4] rfl, hD.sub [0, 1, 2, 3, 4] (by decide) rfl, hS, lv_sub hl [0, 2, 3] rfl⟩
          · skip
            refine lv_iconst (v := (-1)) hx hb dX10_goMinute_141 (by decide) ?_
            refine lv_goto (tgt := 155) hx hb dX10_goMinute_142 (by decide) ?_
            refine top_i (y := nEa (pw (14 + n))) (by rw [nEa, if_pos c_138]) ?_
            refine lv_iadd hx hb dX10_goMinute_155 ?_
            refine ast (f' := upd (upd (upd pw (35 + n) (t2 n)) (28 + n) ((pw (28 + n)) + (nNo (pw (14 + n))))) (21 + n) ((pw (21 + n)) + (nEa (pw (14 + n))))) hx hb hK hP hD hS 3 0 rfl rfl (j := 21 + n) (by omega) (by omega) (rfl) dX10_goMinute_156 (fun H locs hP hD hS => ?_)
            have hP : va_P G vwCl [(g 0, .inr (10, [.int (nI 0), .ref (g 1), .int (nI ts), .int (nI pl), .int (nI rk), .ref (g 5), .int (nI sl), .ref (g 7), .int (nI rr), .int (nI rs), .ref (g 10), .ref (g 11), .ref (g 12), .long sd, .ref (g 14), .ref (g 15), .int (nI ac), .ref (g 17), .ref (g 18), .ref (g 19), .int (nI tc), .ref (g 21), .ref (g 22), .ref (g 23), .ref (g 24), .long (minS kd tn rk (vOf pg) td9), .ref (g 26), .ref (g 27), .ref (g 28), .ref (g 29), .ref (g 30)])), (g 5, .inl (cI, 7, .inl (fun i9 => nI (kd i9)))), (g 7, .inl (cI, 175, .inl (fun i9 => nI (tn i9)))), (pa, .inl (cI, 50, .inl (upd (upd (upd pw (35 + n) (t2 n)) (28 + n) ((pw (28 + n)) + (nNo (pw (14 + n))))) (21 + n) ((pw (21 + n)) + (nEa (pw (14 + n))))))), (g 26, .inl (cI, 7, .inl t2))] _ := hP
            have hD : va_D A [(g 0, .inr (10, [.int (nI 0), .ref (g 1), .int (nI ts), .int (nI pl), .int (nI rk), .ref (g 5), .int (nI sl), .ref (g 7), .int (nI rr), .int (nI rs), .ref (g 10), .ref (g 11), .ref (g 12), .long sd, .ref (g 14), .ref (g 15), .int (nI ac), .ref (g 17), .ref (g 18), .ref (g 19), .int (nI tc), .ref (g 21), .ref (g 22), .ref (g 23), .ref (g 24), .long (minS kd tn rk (vOf pg) td9), .ref (g 26), .ref (g 27), .ref (g 28), .ref (g 29), .ref (g 30)])), (g 5, .inl (cI, 7, .inl (fun i9 => nI (kd i9)))), (g 7, .inl (cI, 175, .inl (fun i9 => nI (tn i9)))), (pa, .inl (cI, 50, .inl (upd (upd (upd pw (35 + n) (t2 n)) (28 + n) ((pw (28 + n)) + (nNo (pw (14 + n))))) (21 + n) ((pw (21 + n)) + (nEa (pw (14 + n))))))), (g 26, .inl (cI, 7, .inl t2))] := hD
            refine lv_iinc (v := nI (n + 1)) (lv' := [(2, .int (nI (n + 1))), (3, .int (pw (14 + n))), (0, .ref (g 0)), (1, .ref pa)]) hx hb dX10_goMinute_157 hl (k := 1) rfl (nI_inc _ 1 1 (by decide)) (by decide) rfl (fun ls hl => ?_)
            refine lv_goto (tgt := 83) hx hb dX10_goMinute_160 (by decide) ?_
            exact ih_83 ((n + 1), upd (upd (upd pw (35 + n) (t2 n)) (28 + n) ((pw (28 + n)) + (nNo (pw (14 + n))))) (21 + n) ((pw (21 + n)) + (nEa (pw (14 + n))))) _ _ _ (by first | omega | (simp only []; omega) | (show _ < _; omega)) ⟨by first | assumption | omega | (simp; done), gm_s hH (by omega) (by omega), by rw [u_ne (by omega), u_ne (by omega), u_ne (by omega)]; exact h50, hP.sub [0, 1, 2, 3, 4] rfl, hD.sub [0, 1, 2, 3, 4] (by decide) rfl, hS, lv_sub hl [0, 2, 3] rfl⟩
    · skip
      obtain ⟨j, rfl⟩ := m1_nle c_30
      rw [m1_eq] at hl
      have hw5 : w 5 j = pq (35 + j) := by rw [hmx 5 j (by decide) (by omega), if_neg (by omega), vp5 (by omega)]
      refine lv_aload_n hx hb dX10_goMinute_33 rfl (lv_at hl 2 rfl) ?_
      refine lv_bipush (v := nI 34) hx hb dX10_goMinute_34 (by decide) ?_
      refine lv_iload_n hx hb dX10_goMinute_36 rfl (lv_at hl 0 rfl) ?_
      refine lv_iadd hx hb dX10_goMinute_37 ?_
      refine top_i (y := nI (34 + (j + 1))) (nI_add _ _) ?_
      refine ald hx hb hK hP 3 0 rfl rfl (j := 34 + (j + 1)) (by omega) (by omega) dX10_goMinute_38 ?_
      refine top_i (y := pq (35 + j)) (by rw [show 34 + (j + 1) = 35 + j by omega]) ?_
      refine lv_bipush (v := (-9)) hx hb dX10_goMinute_39 (by decide) ?_
      refine lv_icmp_eq (tgt := 67) hx hb dX10_goMinute_41 (by decide) (fun c_41 => ?_) (fun c_41 => ?_)
      · skip
        refine lv_iinc (v := (nI (j + 1)) + Int32.ofInt (-1)) (lv' := [(2, .int ((nI (j + 1)) + Int32.ofInt (-1))), (0, .ref (g 0)), (1, .ref pa)]) hx hb dX10_goMinute_67 hl (k := 0) rfl (rfl) (by decide) rfl (fun ls hl => ?_)
        refine lv_goto (tgt := 29) hx hb dX10_goMinute_70 (by decide) ?_
        exact ih_29 ((j + 1), t2, pq, s1, (up2 w 5 (j + 1) (-9))) _ _ _ (by first | omega | (simp only []; omega) | (show _ < _; omega)) ⟨by omega, by omega, procM_a (by omega) hW (hw5.trans c_41), gm_a hmx (htl _ (by omega)), fun g hg => htl g (by omega), fun f g hf hg => hlo f g hf (by omega), h49, hP.sub [0, 1, 2, 3, 4] rfl, hD.sub [0, 1, 2, 3, 4] (by decide) rfl, hS, lv_sub hl [0, 1, 2] rfl⟩
      · skip
        obtain ⟨u, hu, eu⟩ := gm_u hsc hlo (by omega) (by omega) (by omega) c_41
        refine lv_aload_n hx hb dX10_goMinute_44 rfl (lv_at hl 1 rfl) ?_
        refine va_get (D := G) (ci := 10) (v := .ref (g 26)) (C := RX10) (T := TX10) (N := 31) hx hb hts hin10 hown hK.1 hP 0 rfl rfl 26 (by decide) k_1 (fun _ h9 => h9) rfl dX10_goMinute_45 ?_
        refine lv_iload_n hx hb dX10_goMinute_48 rfl (lv_at hl 0 rfl) ?_
        refine lv_aload_n hx hb dX10_goMinute_49 rfl (lv_at hl 1 rfl) ?_
        refine lv_aload_n hx hb dX10_goMinute_50 rfl (lv_at hl 2 rfl) ?_
        refine lv_iload_n hx hb dX10_goMinute_51 rfl (lv_at hl 0 rfl) ?_
        refine lv_aload_n hx hb dX10_goMinute_52 rfl (lv_at hl 1 rfl) ?_
        refine lv_iload_n hx hb dX10_goMinute_53 rfl (lv_at hl 0 rfl) ?_
        refine lv_aload_n hx hb dX10_goMinute_54 rfl (lv_at hl 2 rfl) ?_
        refine lv_bipush (v := nI 34) hx hb dX10_goMinute_55 (by decide) ?_
        refine lv_iload_n hx hb dX10_goMinute_57 rfl (lv_at hl 0 rfl) ?_
        refine lv_iadd hx hb dX10_goMinute_58 ?_
        refine top_i (y := nI (34 + (j + 1))) (nI_add _ _) ?_
        refine ald hx hb hK hP 3 0 rfl rfl (j := 34 + (j + 1)) (by omega) (by omega) dX10_goMinute_59 ?_
        refine top_i (y := pq (35 + j)) (by rw [show 34 + (j + 1) = 35 + j by omega]) ?_
        refine top_i (y := nI u) (eu) ?_
        refine aft_i (wr := [(g 5, .inl (cI, 7, .inl (fun i9 => nI (kd i9)))), (pa, .inl (cI, 50, .inl pq)), (g 26, .inl (cI, 7, .inl t2))]) (va_runV (As := [.int (nI (j + 1)), .int (nI u)]) (rest := [.int (nI (j + 1)), .ref pa, .ref (g 0), .int (nI (j + 1)), .ref (g 26)]) ⟨hx, hb, hml, hown, hts⟩ (c_X10_comesAs (g := g) (ts := ts) (pl := pl) (rk := rk) (sl := sl) (rr := rr) (rs := rs) (ac := ac) (tc := tc) (sd := sd) (td9 := s1) (kd := kd) (tn := tn) (k := (j + 1)) (u := u) (hok := by first | assumption | omega | exact hok.1 _ (by omega) | exact hok.2.2 _ _ (by omega) (by omega) | exact hok.2.1) (hk := by omega) (hu := hu) (hdg := hdg) _) (cwV 2 hts gX10_goMinute_X10_comesAs rfl rfl rfl (by decide +kernel) ⟨Nat.le_of_ble_eq_true rfl, Nat.le_of_ble_eq_true rfl⟩) (preV (cq := (RX10, TX10, 31)) (q0 := 0) (ci := 10) hK hP hD [0, 2] rfl rfl rfl rfl) rfl rfl hl.1 rfl (lv_room (Nat.le_of_ble_eq_true rfl)) dX10_goMinute_60 ⟨Nat.le_of_ble_eq_true rfl, Nat.le_of_ble_eq_true rfl⟩) hP hD hS hA [0, 2] [1, 3, 4] rfl rfl rfl (by decide) (fun r_60 uu9 H locs hw hP hD hS => ?_)
        have hP : va_P G vwCl [(g 5, .inl (cI, 7, .inl (fun i9 => nI (kd i9)))), (pa, .inl (cI, 50, .inl pq)), (g 26, .inl (cI, 7, .inl t2)), (g 0, .inr (10, [.int (nI 0), .ref (g 1), .int (nI ts), .int (nI pl), .int (nI rk), .ref (g 5), .int (nI sl), .ref (g 7), .int (nI rr), .int (nI rs), .ref (g 10), .ref (g 11), .ref (g 12), .long sd, .ref (g 14), .ref (g 15), .int (nI ac), .ref (g 17), .ref (g 18), .ref (g 19), .int (nI tc), .ref (g 21), .ref (g 22), .ref (g 23), .ref (g 24), .long (wayS tn (j + 1) u s1), .ref (g 26), .ref (g 27), .ref (g 28), .ref (g 29), .ref (g 30)])), (g 7, .inl (cI, 175, .inl (fun i9 => nI (tn i9))))] _ := hP
        have hD : va_D A [(g 5, .inl (cI, 7, .inl (fun i9 => nI (kd i9)))), (pa, .inl (cI, 50, .inl pq)), (g 26, .inl (cI, 7, .inl t2)), (g 0, .inr (10, [.int (nI 0), .ref (g 1), .int (nI ts), .int (nI pl), .int (nI rk), .ref (g 5), .int (nI sl), .ref (g 7), .int (nI rr), .int (nI rs), .ref (g 10), .ref (g 11), .ref (g 12), .long sd, .ref (g 14), .ref (g 15), .int (nI ac), .ref (g 17), .ref (g 18), .ref (g 19), .int (nI tc), .ref (g 21), .ref (g 22), .ref (g 23), .ref (g 24), .long (wayS tn (j + 1) u s1), .ref (g 26), .ref (g 27), .ref (g 28), .ref (g 29), .ref (g 30)])), (g 7, .inl (cI, 175, .inl (fun i9 => nI (tn i9))))] := hD
        obtain rfl := hw
        refine top_i (y := nI (wayO tn (j + 1) u s1)) rfl ?_
        refine aft_i (wr := [(g 26, .inl (cI, 7, .inl t2)), (g 7, .inl (cI, 175, .inl (fun i9 => nI (tn i9))))]) (va_runV (As := [.ref pa, .int (nI (j + 1)), .int (nI (wayO tn (j + 1) u s1))]) (rest := [.int (nI (j + 1)), .ref (g 26)]) ⟨hx, hb, hml, hown, hts⟩ (c_X10_tell (g := g) (ts := ts) (pl := pl) (rk := rk) (sl := sl) (rr := rr) (rs := rs) (ac := ac) (tc := tc) (sd := sd) (td9 := (wayS tn (j + 1) u s1)) (kd := kd) (pa := pa) (pg := pq) (k := (j + 1)) (o := wayO tn (j + 1) u s1) (hk := by omega) (ho := wayO_lt9 hu) (hzk := by rw [hlo 6 (j + 1) (by decide) (by omega)]; exact (hsc (j + 1) (by omega)).2) (hkd := hok.1) _) (cwV 3 hts gX10_goMinute_X10_tell rfl rfl rfl (by decide +kernel) ⟨Nat.le_of_ble_eq_true rfl, Nat.le_of_ble_eq_true rfl⟩) (preV (cq := (RX10, TX10, 31)) (q0 := 3) (ci := 10) hK hP hD [3, 0, 1] rfl rfl rfl rfl) rfl rfl hl.1 rfl (lv_room (Nat.le_of_ble_eq_true rfl)) dX10_goMinute_63 ⟨Nat.le_of_ble_eq_true rfl, Nat.le_of_ble_eq_true rfl⟩) hP hD hS hA [3, 0, 1] [2, 4] rfl rfl rfl (by decide) (fun r_63 uu9 H locs hw hP hD hS => ?_)
        obtain ⟨q1_63, rfl⟩ : ∃ z, z = uu9 := ⟨_, rfl⟩
        have hP : va_P G vwCl [(g 26, .inl (cI, 7, .inl t2)), (g 7, .inl (cI, 175, .inl (fun i9 => nI (tn i9)))), (g 0, .inr (10, [.int (nI 0), .ref (g 1), .int (nI ts), .int (nI pl), .int (nI rk), .ref (g 5), .int (nI sl), .ref (g 7), .int (nI rr), .int (nI rs), .ref (g 10), .ref (g 11), .ref (g 12), .long sd, .ref (g 14), .ref (g 15), .int (nI ac), .ref (g 17), .ref (g 18), .ref (g 19), .int (nI tc), .ref (g 21), .ref (g 22), .ref (g 23), .ref (g 24), .long (wayS tn (j + 1) u s1), .ref (g 26), .ref (g 27), .ref (g 28), .ref (g 29), .ref (g 30)])), (g 5, .inl (cI, 7, .inl (fun i9 => nI (kd i9)))), (pa, .inl (cI, 50, .inl q1_63))] _ := hP
        have hD : va_D A [(g 26, .inl (cI, 7, .inl t2)), (g 7, .inl (cI, 175, .inl (fun i9 => nI (tn i9)))), (g 0, .inr (10, [.int (nI 0), .ref (g 1), .int (nI ts), .int (nI pl), .int (nI rk), .ref (g 5), .int (nI sl), .ref (g 7), .int (nI rr), .int (nI rs), .ref (g 10), .ref (g 11), .ref (g 12), .long sd, .ref (g 14), .ref (g 15), .int (nI ac), .ref (g 17), .ref (g 18), .ref (g 19), .int (nI tc), .ref (g 21), .ref (g 22), .ref (g 23), .ref (g 24), .long (wayS tn (j + 1) u s1), .ref (g 26), .ref (g 27), .ref (g 28), .ref (g 29), .ref (g 30)])), (g 5, .inl (cI, 7, .inl (fun i9 => nI (kd i9)))), (pa, .inl (cI, 50, .inl q1_63))] := hD
        obtain ⟨rfl, hw_63⟩ := hw
        refine top_i (y := tellR (kd (j + 1)) (vOf pq) (j + 1) (wayO tn (j + 1) u s1)) rfl ?_
        have hw_63 : vOf q1_63 = tellV (kd (j + 1)) (vOf pq) (j + 1) (wayO tn (j + 1) u s1) ∧ q1_63 49 = pq 49 := hw_63
        refine ast (f' := upd t2 (j + 1) (tellR (kd (j + 1)) (vOf pq) (j + 1) (wayO tn (j + 1) u s1))) hx hb hK hP hD hS 0 0 rfl rfl (j := (j + 1)) (by omega) (by omega) (rfl) dX10_goMinute_66 (fun H locs hP hD hS => ?_)
        have hP : va_P G vwCl [(g 26, .inl (cI, 7, .inl (upd t2 (j + 1) (tellR (kd (j + 1)) (vOf pq) (j + 1) (wayO tn (j + 1) u s1))))), (g 7, .inl (cI, 175, .inl (fun i9 => nI (tn i9)))), (g 0, .inr (10, [.int (nI 0), .ref (g 1), .int (nI ts), .int (nI pl), .int (nI rk), .ref (g 5), .int (nI sl), .ref (g 7), .int (nI rr), .int (nI rs), .ref (g 10), .ref (g 11), .ref (g 12), .long sd, .ref (g 14), .ref (g 15), .int (nI ac), .ref (g 17), .ref (g 18), .ref (g 19), .int (nI tc), .ref (g 21), .ref (g 22), .ref (g 23), .ref (g 24), .long (wayS tn (j + 1) u s1), .ref (g 26), .ref (g 27), .ref (g 28), .ref (g 29), .ref (g 30)])), (g 5, .inl (cI, 7, .inl (fun i9 => nI (kd i9)))), (pa, .inl (cI, 50, .inl q1_63))] _ := hP
        have hD : va_D A [(g 26, .inl (cI, 7, .inl (upd t2 (j + 1) (tellR (kd (j + 1)) (vOf pq) (j + 1) (wayO tn (j + 1) u s1))))), (g 7, .inl (cI, 175, .inl (fun i9 => nI (tn i9)))), (g 0, .inr (10, [.int (nI 0), .ref (g 1), .int (nI ts), .int (nI pl), .int (nI rk), .ref (g 5), .int (nI sl), .ref (g 7), .int (nI rr), .int (nI rs), .ref (g 10), .ref (g 11), .ref (g 12), .long sd, .ref (g 14), .ref (g 15), .int (nI ac), .ref (g 17), .ref (g 18), .ref (g 19), .int (nI tc), .ref (g 21), .ref (g 22), .ref (g 23), .ref (g 24), .long (wayS tn (j + 1) u s1), .ref (g 26), .ref (g 27), .ref (g 28), .ref (g 29), .ref (g 30)])), (g 5, .inl (cI, 7, .inl (fun i9 => nI (kd i9)))), (pa, .inl (cI, 50, .inl q1_63))] := hD
        refine lv_iinc (v := (nI (j + 1)) + Int32.ofInt (-1)) (lv' := [(2, .int ((nI (j + 1)) + Int32.ofInt (-1))), (0, .ref (g 0)), (1, .ref pa)]) hx hb dX10_goMinute_67 hl (k := 0) rfl (rfl) (by decide) rfl (fun ls hl => ?_)
        refine lv_goto (tgt := 29) hx hb dX10_goMinute_70 (by decide) ?_
        exact ih_29 ((j + 1), upd t2 (j + 1) (tellR (kd (j + 1)) (vOf pq) (j + 1) (wayO tn (j + 1) u s1)), q1_63, (wayS tn (j + 1) u s1), (up2 (tellV (kd (j + 1)) w (j + 1) (wayO tn (j + 1) u s1)) 5 (j + 1) (tellR (kd (j + 1)) w (j + 1) (wayO tn (j + 1) u s1)))) _ _ _ (by first | omega | (simp only []; omega) | (show _ < _; omega)) ⟨by omega, by omega, procM_b (by omega) hW hu (hw5.trans eu), gm_b hmx hw_63.1 (by omega), fun g hg => (u_ne (by omega)).trans (htl g (by omega)), fun f g hf hg => by rw [hw_63.1, tellV_ne (by omega)]; exact hlo f g hf (by omega), hw_63.2.trans h49, hP.sub [2, 3, 1, 4, 0] rfl, hD.sub [2, 3, 1, 4, 0] (by decide) rfl, hS, lv_sub hl [0, 1, 2] rfl⟩
  · skip
    have c_5 := n_geF c_5 (by omega) (by omega)
    refine lv_aload_n hx hb dX10_goMinute_8 rfl (lv_at hl 1 rfl) ?_
    refine va_get (D := G) (ci := 10) (v := .ref (g 26)) (C := RX10) (T := TX10) (N := 31) hx hb hts hin10 hown hK.1 hP 0 rfl rfl 26 (by decide) k_1 (fun _ h9 => h9) rfl dX10_goMinute_9 ?_
    refine lv_iload_n hx hb dX10_goMinute_12 rfl (lv_at hl 0 rfl) ?_
    refine lv_bipush (v := (-9)) hx hb dX10_goMinute_13 (by decide) ?_
    refine ast (f' := upd t i (-9)) hx hb hK hP hD hS 4 0 rfl rfl (j := i) (by omega) (by omega) (rfl) dX10_goMinute_15 (fun H locs hP hD hS => ?_)
    have hP : va_P G vwCl [(g 0, .inr (10, [.int (nI 0), .ref (g 1), .int (nI ts), .int (nI pl), .int (nI rk), .ref (g 5), .int (nI sl), .ref (g 7), .int (nI rr), .int (nI rs), .ref (g 10), .ref (g 11), .ref (g 12), .long sd, .ref (g 14), .ref (g 15), .int (nI ac), .ref (g 17), .ref (g 18), .ref (g 19), .int (nI tc), .ref (g 21), .ref (g 22), .ref (g 23), .ref (g 24), .long td9, .ref (g 26), .ref (g 27), .ref (g 28), .ref (g 29), .ref (g 30)])), (g 5, .inl (cI, 7, .inl (fun i9 => nI (kd i9)))), (g 7, .inl (cI, 175, .inl (fun i9 => nI (tn i9)))), (pa, .inl (cI, 50, .inl pg)), (g 26, .inl (cI, 7, .inl (upd t i (-9))))] _ := hP
    have hD : va_D A [(g 0, .inr (10, [.int (nI 0), .ref (g 1), .int (nI ts), .int (nI pl), .int (nI rk), .ref (g 5), .int (nI sl), .ref (g 7), .int (nI rr), .int (nI rs), .ref (g 10), .ref (g 11), .ref (g 12), .long sd, .ref (g 14), .ref (g 15), .int (nI ac), .ref (g 17), .ref (g 18), .ref (g 19), .int (nI tc), .ref (g 21), .ref (g 22), .ref (g 23), .ref (g 24), .long td9, .ref (g 26), .ref (g 27), .ref (g 28), .ref (g 29), .ref (g 30)])), (g 5, .inl (cI, 7, .inl (fun i9 => nI (kd i9)))), (g 7, .inl (cI, 175, .inl (fun i9 => nI (tn i9)))), (pa, .inl (cI, 50, .inl pg)), (g 26, .inl (cI, 7, .inl (upd t i (-9))))] := hD
    refine lv_iinc (v := nI (i + 1)) (lv' := [(2, .int (nI (i + 1))), (0, .ref (g 0)), (1, .ref pa)]) hx hb dX10_goMinute_16 hl (k := 0) rfl (nI_inc _ 1 1 (by decide)) (by decide) rfl (fun ls hl => ?_)
    refine lv_goto (tgt := 2) hx hb dX10_goMinute_19 (by decide) ?_
    exact ih_2 ((i + 1), upd t i (-9)) _ _ _ (by first | omega | (simp only []; omega) | (show _ < _; omega)) ⟨by first | assumption | omega | (simp; done), fun j hj => by by_cases e : j = i; (rw [e]; exact if_pos rfl); exact (if_neg e).trans (ht j (by omega)), hP.sub [0, 1, 2, 3, 4] rfl, hD.sub [0, 1, 2, 3, 4] (by decide) rfl, hS, lv_sub hl [0, 1, 2] rfl⟩

set_option maxHeartbeats 4000000 in
set_option maxRecDepth 100000 in
theorem c_X10_note {l : Launch} {G : va_G} {cI cJ cZ cS : ClassId} (g : Nat → Nat) (ts : Nat) (pl : Nat) (rk : Nat) (sl : Nat) (rr : Nat) (rs : Nat) (ac : Nat) (tc : Nat) (sd : Int64) (td9 : Int64) (pg : Nat → Int32) (bo : Nat → Int32) (bs : Nat → Int64) (hac : ac ≤ 12) : CV l G (kT cI cJ cZ cS) (S := (Nat → Int32) × (Nat → Int64)) yX10_note wsX10_note { frames := 0, cells := 0, slots := 0, locals := 0 } [.ref (g 0)] [(g 0, .inr (10, [.int (nI 0), .ref (g 1), .int (nI ts), .int (nI pl), .int (nI rk), .ref (g 5), .int (nI sl), .ref (g 7), .int (nI rr), .int (nI rs), .ref (g 10), .ref (g 11), .ref (g 12), .long sd, .ref (g 14), .ref (g 15), .int (nI ac), .ref (g 17), .ref (g 18), .ref (g 19), .int (nI tc), .ref (g 21), .ref (g 22), .ref (g 23), .ref (g 24), .long td9, .ref (g 26), .ref (g 27), .ref (g 28), .ref (g 29), .ref (g 30)])), (g 12, .inl (cI, 50, .inl pg)), (g 14, .inl (cI, 600, .inl bo)), (g 15, .inl (cJ, 12, .inr (.inl bs)))] (fun uu9 => match uu9 with | (bo1, bs1) => NtM ac bo bs pg sd bo1 bs1) (fun uu9 => match uu9 with | (bo1, bs1) => [(g 0, .inr (10, [.int (nI 0), .ref (g 1), .int (nI ts), .int (nI pl), .int (nI rk), .ref (g 5), .int (nI sl), .ref (g 7), .int (nI rr), .int (nI rs), .ref (g 10), .ref (g 11), .ref (g 12), .long sd, .ref (g 14), .ref (g 15), .int (nI (acN ac + 1)), .ref (g 17), .ref (g 18), .ref (g 19), .int (nI tc), .ref (g 21), .ref (g 22), .ref (g 23), .ref (g 24), .long td9, .ref (g 26), .ref (g 27), .ref (g 28), .ref (g 29), .ref (g 30)])), (g 12, .inl (cI, 50, .inl pg)), (g 14, .inl (cI, 600, .inl bo1)), (g 15, .inl (cJ, 12, .inr (.inl bs1)))]) := by
  refine CV.of (cc := cX10_note) (maxL := 2) (by decide) rfl (Nat.le_of_ble_eq_true rfl) ?_
  intro p9 e9 s m below meth co9 A ls hB
  obtain ⟨hx, hb, hml, hr, hts, hown, hlocks, hmn, hK, hP, hD, hS, hA, hl⟩ := hB
  have hP : va_P G vwCl [(g 0, .inr (10, [.int (nI 0), .ref (g 1), .int (nI ts), .int (nI pl), .int (nI rk), .ref (g 5), .int (nI sl), .ref (g 7), .int (nI rr), .int (nI rs), .ref (g 10), .ref (g 11), .ref (g 12), .long sd, .ref (g 14), .ref (g 15), .int (nI ac), .ref (g 17), .ref (g 18), .ref (g 19), .int (nI tc), .ref (g 21), .ref (g 22), .ref (g 23), .ref (g 24), .long td9, .ref (g 26), .ref (g 27), .ref (g 28), .ref (g 29), .ref (g 30)])), (g 12, .inl (cI, 50, .inl pg)), (g 14, .inl (cI, 600, .inl bo)), (g 15, .inl (cJ, 12, .inr (.inl bs)))] s.heap := hP
  have hD : va_D A [(g 0, .inr (10, [.int (nI 0), .ref (g 1), .int (nI ts), .int (nI pl), .int (nI rk), .ref (g 5), .int (nI sl), .ref (g 7), .int (nI rr), .int (nI rs), .ref (g 10), .ref (g 11), .ref (g 12), .long sd, .ref (g 14), .ref (g 15), .int (nI ac), .ref (g 17), .ref (g 18), .ref (g 19), .int (nI tc), .ref (g 21), .ref (g 22), .ref (g 23), .ref (g 24), .long td9, .ref (g 26), .ref (g 27), .ref (g 28), .ref (g 29), .ref (g 30)])), (g 12, .inl (cI, 50, .inl pg)), (g 14, .inl (cI, 600, .inl bo)), (g 15, .inl (cJ, 12, .inr (.inl bs)))] := hD
  have hl : lv_has ls 2 [(0, .ref (g 0))] := hl
  have k_0 := hts (.fieldLink RX10 133 "HearsayMarchModel" "acts" "I") (by decide +kernel)
  have k_1 := hts (.fieldLink RX10 31 "HearsayMarchModel" "bookSeed" "[J") (by decide +kernel)
  have k_2 := hts (.fieldLink RX10 146 "HearsayMarchModel" "seed" "J") (by decide +kernel)
  have k_3 := hts (.fieldLink RX10 28 "HearsayMarchModel" "book" "[I") (by decide +kernel)
  have k_4 := hts (.fieldLink RX10 25 "HearsayMarchModel" "page" "[I") (by decide +kernel)
  have hin10 : ∀ w ∈ wsX100, w ∈ wsX10_note := by decide +kernel
  refine lv_aload_n hx hb dX10_note_0 rfl (lv_at hl 0 rfl) ?_
  refine va_get (D := G) (ci := 10) (v := .int (nI ac)) (C := RX10) (T := TX10) (N := 31) hx hb hts hin10 hown hK.1 hP 0 rfl rfl 16 (by decide) k_0 (fun _ h9 => h9) rfl dX10_note_1 ?_
  refine lv_bipush (v := nI 12) hx hb dX10_note_4 (by decide) ?_
  refine lv_icmp_ne (tgt := 77) hx hb dX10_note_6 (by decide) (fun c_6 => ?_) (fun c_6 => ?_)
  · skip
    have c_6 := n_neT c_6 (by omega) (by omega)
    have hac9 : acN ac < 12 := by unfold acN; split <;> omega
    rw [show ac = acN ac by rw [acN, if_neg c_6]] at hP hD
    have hP : va_P G vwCl [(g 0, .inr (10, [.int (nI 0), .ref (g 1), .int (nI ts), .int (nI pl), .int (nI rk), .ref (g 5), .int (nI sl), .ref (g 7), .int (nI rr), .int (nI rs), .ref (g 10), .ref (g 11), .ref (g 12), .long sd, .ref (g 14), .ref (g 15), .int (nI (acN ac)), .ref (g 17), .ref (g 18), .ref (g 19), .int (nI tc), .ref (g 21), .ref (g 22), .ref (g 23), .ref (g 24), .long td9, .ref (g 26), .ref (g 27), .ref (g 28), .ref (g 29), .ref (g 30)])), (g 12, .inl (cI, 50, .inl pg)), (g 14, .inl (cI, 600, .inl bo)), (g 15, .inl (cJ, 12, .inr (.inl bs)))] _ := hP
    have hD : va_D A [(g 0, .inr (10, [.int (nI 0), .ref (g 1), .int (nI ts), .int (nI pl), .int (nI rk), .ref (g 5), .int (nI sl), .ref (g 7), .int (nI rr), .int (nI rs), .ref (g 10), .ref (g 11), .ref (g 12), .long sd, .ref (g 14), .ref (g 15), .int (nI (acN ac)), .ref (g 17), .ref (g 18), .ref (g 19), .int (nI tc), .ref (g 21), .ref (g 22), .ref (g 23), .ref (g 24), .long td9, .ref (g 26), .ref (g 27), .ref (g 28), .ref (g 29), .ref (g 30)])), (g 12, .inl (cI, 50, .inl pg)), (g 14, .inl (cI, 600, .inl bo)), (g 15, .inl (cJ, 12, .inr (.inl bs)))] := hD
    have hds : ∀ j, j < acN ac → bs j = bs (j + shN ac) := fun j _ => by rw [shN, if_neg c_6]; rfl
    refine lv_iconst (v := nI 0) hx hb dX10_note_77 (by decide) ?_
    refine lv_istore_n (lv' := [(1, .int (nI 0)), (0, .ref (g 0))]) hx hb dX10_note_78 rfl hl (by decide) rfl (fun ls hl => ?_)
    refine loopW (σ := Nat × (Nat → Int32)) 79 (fun xx9 H locs ls => match xx9 with | (i, b2) => (i ≤ 50) ∧ ((∀ j i, j < acN ac → i < 50 → b2 (50 * j + i) = bo (50 * (j + shN ac) + i))) ∧ (∀ z, z < i → b2 (50 * acN ac + z) = pg z) ∧ va_P G vwCl [(g 0, .inr (10, [.int (nI 0), .ref (g 1), .int (nI ts), .int (nI pl), .int (nI rk), .ref (g 5), .int (nI sl), .ref (g 7), .int (nI rr), .int (nI rs), .ref (g 10), .ref (g 11), .ref (g 12), .long sd, .ref (g 14), .ref (g 15), .int (nI (acN ac)), .ref (g 17), .ref (g 18), .ref (g 19), .int (nI tc), .ref (g 21), .ref (g 22), .ref (g 23), .ref (g 24), .long td9, .ref (g 26), .ref (g 27), .ref (g 28), .ref (g 29), .ref (g 30)])), (g 12, .inl (cI, 50, .inl pg)), (g 14, .inl (cI, 600, .inl b2)), (g 15, .inl (cJ, 12, .inr (.inl bs)))] H ∧ va_D A [(g 0, .inr (10, [.int (nI 0), .ref (g 1), .int (nI ts), .int (nI pl), .int (nI rk), .ref (g 5), .int (nI sl), .ref (g 7), .int (nI rr), .int (nI rs), .ref (g 10), .ref (g 11), .ref (g 12), .long sd, .ref (g 14), .ref (g 15), .int (nI (acN ac)), .ref (g 17), .ref (g 18), .ref (g 19), .int (nI tc), .ref (g 21), .ref (g 22), .ref (g 23), .ref (g 24), .long td9, .ref (g 26), .ref (g 27), .ref (g 28), .ref (g 29), .ref (g 30)])), (g 12, .inl (cI, 50, .inl pg)), (g 14, .inl (cI, 600, .inl b2)), (g 15, .inl (cJ, 12, .inr (.inl bs)))] ∧ va_S A s.heap H locs ∧ lv_has ls 2 [(1, .int (nI i)), (0, .ref (g 0))]) (fun xx9 => match xx9 with | (i, b2) => []) (fun xx9 => match xx9 with | (i, b2) => 50 - i) ?_ (0, bo) ⟨by first | assumption | omega | (simp; done), by first | exact nt_b c_6 | exact nt_a c_6 (fun j hj => by rw [hbb j (by omega), if_pos (by omega)]), fun z hz => absurd hz (Nat.not_lt_zero _), hP.sub [0, 1, 2, 3] rfl, hD.sub [0, 1, 2, 3] (by decide) rfl, hS, lv_sub hl [0, 1] rfl⟩
    intro xx9 H locs ls hI ih_79
    obtain ⟨i, b2⟩ := xx9
    obtain ⟨hi, hb2, hz2, hP, hD, hS, hl⟩ := hI
    have hi : i ≤ 50 := hi
    have hb2 : (∀ j i, j < acN ac → i < 50 → b2 (50 * j + i) = bo (50 * (j + shN ac) + i)) := hb2
    have hz2 : ∀ z, z < i → b2 (50 * acN ac + z) = pg z := hz2
    have hP : va_P G vwCl [(g 0, .inr (10, [.int (nI 0), .ref (g 1), .int (nI ts), .int (nI pl), .int (nI rk), .ref (g 5), .int (nI sl), .ref (g 7), .int (nI rr), .int (nI rs), .ref (g 10), .ref (g 11), .ref (g 12), .long sd, .ref (g 14), .ref (g 15), .int (nI (acN ac)), .ref (g 17), .ref (g 18), .ref (g 19), .int (nI tc), .ref (g 21), .ref (g 22), .ref (g 23), .ref (g 24), .long td9, .ref (g 26), .ref (g 27), .ref (g 28), .ref (g 29), .ref (g 30)])), (g 12, .inl (cI, 50, .inl pg)), (g 14, .inl (cI, 600, .inl b2)), (g 15, .inl (cJ, 12, .inr (.inl bs)))] _ := hP
    have hD : va_D A [(g 0, .inr (10, [.int (nI 0), .ref (g 1), .int (nI ts), .int (nI pl), .int (nI rk), .ref (g 5), .int (nI sl), .ref (g 7), .int (nI rr), .int (nI rs), .ref (g 10), .ref (g 11), .ref (g 12), .long sd, .ref (g 14), .ref (g 15), .int (nI (acN ac)), .ref (g 17), .ref (g 18), .ref (g 19), .int (nI tc), .ref (g 21), .ref (g 22), .ref (g 23), .ref (g 24), .long td9, .ref (g 26), .ref (g 27), .ref (g 28), .ref (g 29), .ref (g 30)])), (g 12, .inl (cI, 50, .inl pg)), (g 14, .inl (cI, 600, .inl b2)), (g 15, .inl (cJ, 12, .inr (.inl bs)))] := hD
    have hl : lv_has ls 2 [(1, .int (nI i)), (0, .ref (g 0))] := hl
    refine lv_iload_n hx hb dX10_note_79 rfl (lv_at hl 0 rfl) ?_
    refine lv_bipush (v := nI 50) hx hb dX10_note_80 (by decide) ?_
    refine lv_icmp_ge (tgt := 111) hx hb dX10_note_82 (by decide) (fun c_82 => ?_) (fun c_82 => ?_)
    · skip
      have c_82 := n_geT c_82 (by omega) (by omega)
      refine lv_aload_n hx hb dX10_note_111 rfl (lv_at hl 1 rfl) ?_
      refine va_get (D := G) (ci := 10) (v := .ref (g 15)) (C := RX10) (T := TX10) (N := 31) hx hb hts hin10 hown hK.1 hP 0 rfl rfl 15 (by decide) k_1 (fun _ h9 => h9) rfl dX10_note_112 ?_
      refine lv_aload_n hx hb dX10_note_115 rfl (lv_at hl 1 rfl) ?_
      refine va_get (D := G) (ci := 10) (v := .int (nI (acN ac))) (C := RX10) (T := TX10) (N := 31) hx hb hts hin10 hown hK.1 hP 0 rfl rfl 16 (by decide) k_0 (fun _ h9 => h9) rfl dX10_note_116 ?_
      refine lv_aload_n hx hb dX10_note_119 rfl (lv_at hl 1 rfl) ?_
      refine va_get (D := G) (ci := 10) (v := .long sd) (C := RX10) (T := TX10) (N := 31) hx hb hts hin10 hown hK.1 hP 0 rfl rfl 13 (by decide) k_2 (fun _ h9 => h9) rfl dX10_note_120 ?_
      refine lst (f' := vp_updL bs (acN ac) sd) hx hb hK hP hD hS 3 1 rfl rfl (j := (acN ac)) (by omega) (by omega) (rfl) dX10_note_123 (fun H locs hP hD hS => ?_)
      have hP : va_P G vwCl [(g 0, .inr (10, [.int (nI 0), .ref (g 1), .int (nI ts), .int (nI pl), .int (nI rk), .ref (g 5), .int (nI sl), .ref (g 7), .int (nI rr), .int (nI rs), .ref (g 10), .ref (g 11), .ref (g 12), .long sd, .ref (g 14), .ref (g 15), .int (nI (acN ac)), .ref (g 17), .ref (g 18), .ref (g 19), .int (nI tc), .ref (g 21), .ref (g 22), .ref (g 23), .ref (g 24), .long td9, .ref (g 26), .ref (g 27), .ref (g 28), .ref (g 29), .ref (g 30)])), (g 12, .inl (cI, 50, .inl pg)), (g 14, .inl (cI, 600, .inl b2)), (g 15, .inl (cJ, 12, .inr (.inl (vp_updL bs (acN ac) sd))))] _ := hP
      have hD : va_D A [(g 0, .inr (10, [.int (nI 0), .ref (g 1), .int (nI ts), .int (nI pl), .int (nI rk), .ref (g 5), .int (nI sl), .ref (g 7), .int (nI rr), .int (nI rs), .ref (g 10), .ref (g 11), .ref (g 12), .long sd, .ref (g 14), .ref (g 15), .int (nI (acN ac)), .ref (g 17), .ref (g 18), .ref (g 19), .int (nI tc), .ref (g 21), .ref (g 22), .ref (g 23), .ref (g 24), .long td9, .ref (g 26), .ref (g 27), .ref (g 28), .ref (g 29), .ref (g 30)])), (g 12, .inl (cI, 50, .inl pg)), (g 14, .inl (cI, 600, .inl b2)), (g 15, .inl (cJ, 12, .inr (.inl (vp_updL bs (acN ac) sd))))] := hD
      refine lv_aload_n hx hb dX10_note_124 rfl (lv_at hl 1 rfl) ?_
      refine lv_dup hx hb dX10_note_125 rfl ?_
      refine va_get (D := G) (ci := 10) (v := .int (nI (acN ac))) (C := RX10) (T := TX10) (N := 31) hx hb hts hin10 hown hK.1 hP 0 rfl rfl 16 (by decide) k_0 (fun _ h9 => h9) rfl dX10_note_126 ?_
      refine lv_iconst (v := nI 1) hx hb dX10_note_129 (by decide) ?_
      refine lv_iadd hx hb dX10_note_130 ?_
      refine top_i (y := nI ((acN ac) + 1)) (nI_add _ _) ?_
      refine va_put (D := G) (ci := 10) (v := .int (nI ((acN ac) + 1))) (ty := tyX10 16) (C := RX10) (T := TX10) (N := 31) hx hb hts hin10 tyX10 tyX10_ok nmX10 hown hK.1 hP hD hS 0 rfl rfl 16 (by decide) k_0 (fun _ h9 => h9) rfl (by decide +kernel) rfl rfl (Nat.le_of_ble_eq_true rfl) dX10_note_131 (fun H locs hP hD hS => ?_)
      have hP : va_P G vwCl [(g 0, .inr (10, [.int (nI 0), .ref (g 1), .int (nI ts), .int (nI pl), .int (nI rk), .ref (g 5), .int (nI sl), .ref (g 7), .int (nI rr), .int (nI rs), .ref (g 10), .ref (g 11), .ref (g 12), .long sd, .ref (g 14), .ref (g 15), .int (nI ((acN ac) + 1)), .ref (g 17), .ref (g 18), .ref (g 19), .int (nI tc), .ref (g 21), .ref (g 22), .ref (g 23), .ref (g 24), .long td9, .ref (g 26), .ref (g 27), .ref (g 28), .ref (g 29), .ref (g 30)])), (g 12, .inl (cI, 50, .inl pg)), (g 14, .inl (cI, 600, .inl b2)), (g 15, .inl (cJ, 12, .inr (.inl (vp_updL bs (acN ac) sd))))] _ := hP
      have hD : va_D A [(g 0, .inr (10, [.int (nI 0), .ref (g 1), .int (nI ts), .int (nI pl), .int (nI rk), .ref (g 5), .int (nI sl), .ref (g 7), .int (nI rr), .int (nI rs), .ref (g 10), .ref (g 11), .ref (g 12), .long sd, .ref (g 14), .ref (g 15), .int (nI ((acN ac) + 1)), .ref (g 17), .ref (g 18), .ref (g 19), .int (nI tc), .ref (g 21), .ref (g 22), .ref (g 23), .ref (g 24), .long td9, .ref (g 26), .ref (g 27), .ref (g 28), .ref (g 29), .ref (g 30)])), (g 12, .inl (cI, 50, .inl pg)), (g 14, .inl (cI, 600, .inl b2)), (g 15, .inl (cJ, 12, .inr (.inl (vp_updL bs (acN ac) sd))))] := hD
      exact endV hx hb hr hlocks ((b2, vp_updL bs (acN ac) sd)) (⟨hb2, fun j hj => (if_neg (by omega)).trans (hds j hj), fun z hz => hz2 z (by omega), if_pos rfl⟩) (hP.sub [0, 1, 2, 3] rfl) (hD.sub [0, 1, 2, 3] (by decide) rfl) hS dX10_note_134
    · skip
      have c_82 := n_geF c_82 (by omega) (by omega)
      refine lv_aload_n hx hb dX10_note_85 rfl (lv_at hl 1 rfl) ?_
      refine va_get (D := G) (ci := 10) (v := .ref (g 14)) (C := RX10) (T := TX10) (N := 31) hx hb hts hin10 hown hK.1 hP 0 rfl rfl 14 (by decide) k_3 (fun _ h9 => h9) rfl dX10_note_86 ?_
      refine lv_bipush (v := nI 50) hx hb dX10_note_89 (by decide) ?_
      refine lv_aload_n hx hb dX10_note_91 rfl (lv_at hl 1 rfl) ?_
      refine va_get (D := G) (ci := 10) (v := .int (nI (acN ac))) (C := RX10) (T := TX10) (N := 31) hx hb hts hin10 hown hK.1 hP 0 rfl rfl 16 (by decide) k_0 (fun _ h9 => h9) rfl dX10_note_92 ?_
      refine lv_imul hx hb dX10_note_95 ?_
      refine top_i (y := nI (50 * (acN ac))) (pk_mul _ _) ?_
      refine lv_iload_n hx hb dX10_note_96 rfl (lv_at hl 0 rfl) ?_
      refine lv_iadd hx hb dX10_note_97 ?_
      refine top_i (y := nI (50 * (acN ac) + i)) (nI_add _ _) ?_
      refine lv_aload_n hx hb dX10_note_98 rfl (lv_at hl 1 rfl) ?_
      refine va_get (D := G) (ci := 10) (v := .ref (g 12)) (C := RX10) (T := TX10) (N := 31) hx hb hts hin10 hown hK.1 hP 0 rfl rfl 12 (by decide) k_4 (fun _ h9 => h9) rfl dX10_note_99 ?_
      refine lv_iload_n hx hb dX10_note_102 rfl (lv_at hl 0 rfl) ?_
      refine ald hx hb hK hP 1 0 rfl rfl (j := i) (by omega) (by omega) dX10_note_103 ?_
      refine ast (f' := upd b2 (50 * (acN ac) + i) (pg i)) hx hb hK hP hD hS 2 0 rfl rfl (j := 50 * (acN ac) + i) (by omega) (by omega) (rfl) dX10_note_104 (fun H locs hP hD hS => ?_)
      have hP : va_P G vwCl [(g 0, .inr (10, [.int (nI 0), .ref (g 1), .int (nI ts), .int (nI pl), .int (nI rk), .ref (g 5), .int (nI sl), .ref (g 7), .int (nI rr), .int (nI rs), .ref (g 10), .ref (g 11), .ref (g 12), .long sd, .ref (g 14), .ref (g 15), .int (nI (acN ac)), .ref (g 17), .ref (g 18), .ref (g 19), .int (nI tc), .ref (g 21), .ref (g 22), .ref (g 23), .ref (g 24), .long td9, .ref (g 26), .ref (g 27), .ref (g 28), .ref (g 29), .ref (g 30)])), (g 12, .inl (cI, 50, .inl pg)), (g 14, .inl (cI, 600, .inl (upd b2 (50 * (acN ac) + i) (pg i)))), (g 15, .inl (cJ, 12, .inr (.inl bs)))] _ := hP
      have hD : va_D A [(g 0, .inr (10, [.int (nI 0), .ref (g 1), .int (nI ts), .int (nI pl), .int (nI rk), .ref (g 5), .int (nI sl), .ref (g 7), .int (nI rr), .int (nI rs), .ref (g 10), .ref (g 11), .ref (g 12), .long sd, .ref (g 14), .ref (g 15), .int (nI (acN ac)), .ref (g 17), .ref (g 18), .ref (g 19), .int (nI tc), .ref (g 21), .ref (g 22), .ref (g 23), .ref (g 24), .long td9, .ref (g 26), .ref (g 27), .ref (g 28), .ref (g 29), .ref (g 30)])), (g 12, .inl (cI, 50, .inl pg)), (g 14, .inl (cI, 600, .inl (upd b2 (50 * (acN ac) + i) (pg i)))), (g 15, .inl (cJ, 12, .inr (.inl bs)))] := hD
      refine lv_iinc (v := nI (i + 1)) (lv' := [(1, .int (nI (i + 1))), (0, .ref (g 0))]) hx hb dX10_note_105 hl (k := 0) rfl (nI_inc _ 1 1 (by decide)) (by decide) rfl (fun ls hl => ?_)
      refine lv_goto (tgt := 79) hx hb dX10_note_108 (by decide) ?_
      exact ih_79 ((i + 1), upd b2 (50 * (acN ac) + i) (pg i)) _ _ _ (by first | omega | (simp only []; omega) | (show _ < _; omega)) ⟨by first | assumption | omega | (simp; done), fun j z hj hz => (u_ne (by omega)).trans (hb2 j z hj hz), fun z hz => by by_cases e : z = i; (rw [e]; exact if_pos rfl); exact (u_ne (by omega)).trans (hz2 z (by omega)), hP.sub [0, 1, 2, 3] rfl, hD.sub [0, 1, 2, 3] (by decide) rfl, hS, lv_sub hl [0, 1] rfl⟩
  · skip
    have c_6 := n_neF c_6 (by omega) (by omega)
    refine lv_iconst (v := nI 0) hx hb dX10_note_9 (by decide) ?_
    refine lv_istore_n (lv' := [(1, .int (nI 0)), (0, .ref (g 0))]) hx hb dX10_note_10 rfl hl (by decide) rfl (fun ls hl => ?_)
    refine loopW (σ := Nat × (Nat → Int32)) 11 (fun xx9 H locs ls => match xx9 with | (i0, b) => (i0 ≤ 550) ∧ (∀ j, j < 600 → b j = if j < i0 then bo (j + 50) else bo j) ∧ va_P G vwCl [(g 0, .inr (10, [.int (nI 0), .ref (g 1), .int (nI ts), .int (nI pl), .int (nI rk), .ref (g 5), .int (nI sl), .ref (g 7), .int (nI rr), .int (nI rs), .ref (g 10), .ref (g 11), .ref (g 12), .long sd, .ref (g 14), .ref (g 15), .int (nI ac), .ref (g 17), .ref (g 18), .ref (g 19), .int (nI tc), .ref (g 21), .ref (g 22), .ref (g 23), .ref (g 24), .long td9, .ref (g 26), .ref (g 27), .ref (g 28), .ref (g 29), .ref (g 30)])), (g 12, .inl (cI, 50, .inl pg)), (g 14, .inl (cI, 600, .inl b)), (g 15, .inl (cJ, 12, .inr (.inl bs)))] H ∧ va_D A [(g 0, .inr (10, [.int (nI 0), .ref (g 1), .int (nI ts), .int (nI pl), .int (nI rk), .ref (g 5), .int (nI sl), .ref (g 7), .int (nI rr), .int (nI rs), .ref (g 10), .ref (g 11), .ref (g 12), .long sd, .ref (g 14), .ref (g 15), .int (nI ac), .ref (g 17), .ref (g 18), .ref (g 19), .int (nI tc), .ref (g 21), .ref (g 22), .ref (g 23), .ref (g 24), .long td9, .ref (g 26), .ref (g 27), .ref (g 28), .ref (g 29), .ref (g 30)])), (g 12, .inl (cI, 50, .inl pg)), (g 14, .inl (cI, 600, .inl b)), (g 15, .inl (cJ, 12, .inr (.inl bs)))] ∧ va_S A s.heap H locs ∧ lv_has ls 2 [(1, .int (nI i0)), (0, .ref (g 0))]) (fun xx9 => match xx9 with | (i0, b) => []) (fun xx9 => match xx9 with | (i0, b) => 550 - i0) ?_ (0, bo) ⟨by first | assumption | omega | (simp; done), fun j hj => by rw [if_neg (by omega)], hP.sub [0, 1, 2, 3] rfl, hD.sub [0, 1, 2, 3] (by decide) rfl, hS, lv_sub hl [0, 1] rfl⟩
    intro xx9 H locs ls hI ih_11
    obtain ⟨i0, b⟩ := xx9
    obtain ⟨hi0, hbb, hP, hD, hS, hl⟩ := hI
    have hi0 : i0 ≤ 550 := hi0
    have hbb : ∀ j, j < 600 → b j = if j < i0 then bo (j + 50) else bo j := hbb
    have hP : va_P G vwCl [(g 0, .inr (10, [.int (nI 0), .ref (g 1), .int (nI ts), .int (nI pl), .int (nI rk), .ref (g 5), .int (nI sl), .ref (g 7), .int (nI rr), .int (nI rs), .ref (g 10), .ref (g 11), .ref (g 12), .long sd, .ref (g 14), .ref (g 15), .int (nI ac), .ref (g 17), .ref (g 18), .ref (g 19), .int (nI tc), .ref (g 21), .ref (g 22), .ref (g 23), .ref (g 24), .long td9, .ref (g 26), .ref (g 27), .ref (g 28), .ref (g 29), .ref (g 30)])), (g 12, .inl (cI, 50, .inl pg)), (g 14, .inl (cI, 600, .inl b)), (g 15, .inl (cJ, 12, .inr (.inl bs)))] _ := hP
    have hD : va_D A [(g 0, .inr (10, [.int (nI 0), .ref (g 1), .int (nI ts), .int (nI pl), .int (nI rk), .ref (g 5), .int (nI sl), .ref (g 7), .int (nI rr), .int (nI rs), .ref (g 10), .ref (g 11), .ref (g 12), .long sd, .ref (g 14), .ref (g 15), .int (nI ac), .ref (g 17), .ref (g 18), .ref (g 19), .int (nI tc), .ref (g 21), .ref (g 22), .ref (g 23), .ref (g 24), .long td9, .ref (g 26), .ref (g 27), .ref (g 28), .ref (g 29), .ref (g 30)])), (g 12, .inl (cI, 50, .inl pg)), (g 14, .inl (cI, 600, .inl b)), (g 15, .inl (cJ, 12, .inr (.inl bs)))] := hD
    have hl : lv_has ls 2 [(1, .int (nI i0)), (0, .ref (g 0))] := hl
    refine lv_iload_n hx hb dX10_note_11 rfl (lv_at hl 0 rfl) ?_
    refine lv_sipush (v := nI 550) hx hb dX10_note_12 (by decide) ?_
    refine lv_icmp_ge (tgt := 39) hx hb dX10_note_15 (by decide) (fun c_15 => ?_) (fun c_15 => ?_)
    · skip
      have c_15 := n_geT c_15 (by omega) (by omega)
      refine lv_iconst (v := nI 0) hx hb dX10_note_39 (by decide) ?_
      refine lv_istore_n (lv' := [(1, .int (nI 0)), (0, .ref (g 0))]) hx hb dX10_note_40 rfl hl (by decide) rfl (fun ls hl => ?_)
      refine loopW (σ := Nat × (Nat → Int64)) 41 (fun xx9 H locs ls => match xx9 with | (i1, d) => (i1 ≤ 11) ∧ (∀ j, j < 12 → d j = if j < i1 then bs (j + 1) else bs j) ∧ va_P G vwCl [(g 0, .inr (10, [.int (nI 0), .ref (g 1), .int (nI ts), .int (nI pl), .int (nI rk), .ref (g 5), .int (nI sl), .ref (g 7), .int (nI rr), .int (nI rs), .ref (g 10), .ref (g 11), .ref (g 12), .long sd, .ref (g 14), .ref (g 15), .int (nI ac), .ref (g 17), .ref (g 18), .ref (g 19), .int (nI tc), .ref (g 21), .ref (g 22), .ref (g 23), .ref (g 24), .long td9, .ref (g 26), .ref (g 27), .ref (g 28), .ref (g 29), .ref (g 30)])), (g 12, .inl (cI, 50, .inl pg)), (g 14, .inl (cI, 600, .inl b)), (g 15, .inl (cJ, 12, .inr (.inl d)))] H ∧ va_D A [(g 0, .inr (10, [.int (nI 0), .ref (g 1), .int (nI ts), .int (nI pl), .int (nI rk), .ref (g 5), .int (nI sl), .ref (g 7), .int (nI rr), .int (nI rs), .ref (g 10), .ref (g 11), .ref (g 12), .long sd, .ref (g 14), .ref (g 15), .int (nI ac), .ref (g 17), .ref (g 18), .ref (g 19), .int (nI tc), .ref (g 21), .ref (g 22), .ref (g 23), .ref (g 24), .long td9, .ref (g 26), .ref (g 27), .ref (g 28), .ref (g 29), .ref (g 30)])), (g 12, .inl (cI, 50, .inl pg)), (g 14, .inl (cI, 600, .inl b)), (g 15, .inl (cJ, 12, .inr (.inl d)))] ∧ va_S A s.heap H locs ∧ lv_has ls 2 [(1, .int (nI i1)), (0, .ref (g 0))]) (fun xx9 => match xx9 with | (i1, d) => []) (fun xx9 => match xx9 with | (i1, d) => 11 - i1) ?_ (0, bs) ⟨by first | assumption | omega | (simp; done), fun j hj => by rw [if_neg (by omega)], hP.sub [0, 1, 2, 3] rfl, hD.sub [0, 1, 2, 3] (by decide) rfl, hS, lv_sub hl [0, 1] rfl⟩
      intro xx9 H locs ls hI ih_41
      obtain ⟨i1, d⟩ := xx9
      obtain ⟨hi1, hd, hP, hD, hS, hl⟩ := hI
      have hi1 : i1 ≤ 11 := hi1
      have hd : ∀ j, j < 12 → d j = if j < i1 then bs (j + 1) else bs j := hd
      have hP : va_P G vwCl [(g 0, .inr (10, [.int (nI 0), .ref (g 1), .int (nI ts), .int (nI pl), .int (nI rk), .ref (g 5), .int (nI sl), .ref (g 7), .int (nI rr), .int (nI rs), .ref (g 10), .ref (g 11), .ref (g 12), .long sd, .ref (g 14), .ref (g 15), .int (nI ac), .ref (g 17), .ref (g 18), .ref (g 19), .int (nI tc), .ref (g 21), .ref (g 22), .ref (g 23), .ref (g 24), .long td9, .ref (g 26), .ref (g 27), .ref (g 28), .ref (g 29), .ref (g 30)])), (g 12, .inl (cI, 50, .inl pg)), (g 14, .inl (cI, 600, .inl b)), (g 15, .inl (cJ, 12, .inr (.inl d)))] _ := hP
      have hD : va_D A [(g 0, .inr (10, [.int (nI 0), .ref (g 1), .int (nI ts), .int (nI pl), .int (nI rk), .ref (g 5), .int (nI sl), .ref (g 7), .int (nI rr), .int (nI rs), .ref (g 10), .ref (g 11), .ref (g 12), .long sd, .ref (g 14), .ref (g 15), .int (nI ac), .ref (g 17), .ref (g 18), .ref (g 19), .int (nI tc), .ref (g 21), .ref (g 22), .ref (g 23), .ref (g 24), .long td9, .ref (g 26), .ref (g 27), .ref (g 28), .ref (g 29), .ref (g 30)])), (g 12, .inl (cI, 50, .inl pg)), (g 14, .inl (cI, 600, .inl b)), (g 15, .inl (cJ, 12, .inr (.inl d)))] := hD
      have hl : lv_has ls 2 [(1, .int (nI i1)), (0, .ref (g 0))] := hl
      refine lv_iload_n hx hb dX10_note_41 rfl (lv_at hl 0 rfl) ?_
      refine lv_bipush (v := nI 11) hx hb dX10_note_42 (by decide) ?_
      refine lv_icmp_ge (tgt := 67) hx hb dX10_note_44 (by decide) (fun c_44 => ?_) (fun c_44 => ?_)
      · skip
        have c_44 := n_geT c_44 (by omega) (by omega)
        refine lv_aload_n hx hb dX10_note_67 rfl (lv_at hl 1 rfl) ?_
        refine lv_dup hx hb dX10_note_68 rfl ?_
        refine va_get (D := G) (ci := 10) (v := .int (nI ac)) (C := RX10) (T := TX10) (N := 31) hx hb hts hin10 hown hK.1 hP 0 rfl rfl 16 (by decide) k_0 (fun _ h9 => h9) rfl dX10_note_69 ?_
        refine lv_iconst (v := nI 1) hx hb dX10_note_72 (by decide) ?_
        refine lv_isub hx hb dX10_note_73 ?_
        refine top_i (y := nI (ac - 1)) (pk_sub (by omega)) ?_
        refine va_put (D := G) (ci := 10) (v := .int (nI (ac - 1))) (ty := tyX10 16) (C := RX10) (T := TX10) (N := 31) hx hb hts hin10 tyX10 tyX10_ok nmX10 hown hK.1 hP hD hS 0 rfl rfl 16 (by decide) k_0 (fun _ h9 => h9) rfl (by decide +kernel) rfl rfl (Nat.le_of_ble_eq_true rfl) dX10_note_74 (fun H locs hP hD hS => ?_)
        have hP : va_P G vwCl [(g 0, .inr (10, [.int (nI 0), .ref (g 1), .int (nI ts), .int (nI pl), .int (nI rk), .ref (g 5), .int (nI sl), .ref (g 7), .int (nI rr), .int (nI rs), .ref (g 10), .ref (g 11), .ref (g 12), .long sd, .ref (g 14), .ref (g 15), .int (nI (ac - 1)), .ref (g 17), .ref (g 18), .ref (g 19), .int (nI tc), .ref (g 21), .ref (g 22), .ref (g 23), .ref (g 24), .long td9, .ref (g 26), .ref (g 27), .ref (g 28), .ref (g 29), .ref (g 30)])), (g 12, .inl (cI, 50, .inl pg)), (g 14, .inl (cI, 600, .inl b)), (g 15, .inl (cJ, 12, .inr (.inl d)))] _ := hP
        have hD : va_D A [(g 0, .inr (10, [.int (nI 0), .ref (g 1), .int (nI ts), .int (nI pl), .int (nI rk), .ref (g 5), .int (nI sl), .ref (g 7), .int (nI rr), .int (nI rs), .ref (g 10), .ref (g 11), .ref (g 12), .long sd, .ref (g 14), .ref (g 15), .int (nI (ac - 1)), .ref (g 17), .ref (g 18), .ref (g 19), .int (nI tc), .ref (g 21), .ref (g 22), .ref (g 23), .ref (g 24), .long td9, .ref (g 26), .ref (g 27), .ref (g 28), .ref (g 29), .ref (g 30)])), (g 12, .inl (cI, 50, .inl pg)), (g 14, .inl (cI, 600, .inl b)), (g 15, .inl (cJ, 12, .inr (.inl d)))] := hD
        have hac9 : acN ac < 12 := by unfold acN; split <;> omega
        rw [show ac - 1 = acN ac by rw [acN, if_pos c_6]; omega] at hP hD
        have hP : va_P G vwCl [(g 0, .inr (10, [.int (nI 0), .ref (g 1), .int (nI ts), .int (nI pl), .int (nI rk), .ref (g 5), .int (nI sl), .ref (g 7), .int (nI rr), .int (nI rs), .ref (g 10), .ref (g 11), .ref (g 12), .long sd, .ref (g 14), .ref (g 15), .int (nI (acN ac)), .ref (g 17), .ref (g 18), .ref (g 19), .int (nI tc), .ref (g 21), .ref (g 22), .ref (g 23), .ref (g 24), .long td9, .ref (g 26), .ref (g 27), .ref (g 28), .ref (g 29), .ref (g 30)])), (g 12, .inl (cI, 50, .inl pg)), (g 14, .inl (cI, 600, .inl b)), (g 15, .inl (cJ, 12, .inr (.inl d)))] _ := hP
        have hD : va_D A [(g 0, .inr (10, [.int (nI 0), .ref (g 1), .int (nI ts), .int (nI pl), .int (nI rk), .ref (g 5), .int (nI sl), .ref (g 7), .int (nI rr), .int (nI rs), .ref (g 10), .ref (g 11), .ref (g 12), .long sd, .ref (g 14), .ref (g 15), .int (nI (acN ac)), .ref (g 17), .ref (g 18), .ref (g 19), .int (nI tc), .ref (g 21), .ref (g 22), .ref (g 23), .ref (g 24), .long td9, .ref (g 26), .ref (g 27), .ref (g 28), .ref (g 29), .ref (g 30)])), (g 12, .inl (cI, 50, .inl pg)), (g 14, .inl (cI, 600, .inl b)), (g 15, .inl (cJ, 12, .inr (.inl d)))] := hD
        have hds : ∀ j, j < acN ac → d j = bs (j + shN ac) := fun j hj => by rw [hd j (by omega), if_pos (by omega), shN, if_pos c_6]
        refine lv_iconst (v := nI 0) hx hb dX10_note_77 (by decide) ?_
        refine lv_istore_n (lv' := [(1, .int (nI 0)), (0, .ref (g 0))]) hx hb dX10_note_78 rfl hl (by decide) rfl (fun ls hl => ?_)
        refine loopW (σ := Nat × (Nat → Int32)) 79 (fun xx9 H locs ls => match xx9 with | (i, b2) => (i ≤ 50) ∧ ((∀ j i, j < acN ac → i < 50 → b2 (50 * j + i) = bo (50 * (j + shN ac) + i))) ∧ (∀ z, z < i → b2 (50 * acN ac + z) = pg z) ∧ va_P G vwCl [(g 0, .inr (10, [.int (nI 0), .ref (g 1), .int (nI ts), .int (nI pl), .int (nI rk), .ref (g 5), .int (nI sl), .ref (g 7), .int (nI rr), .int (nI rs), .ref (g 10), .ref (g 11), .ref (g 12), .long sd, .ref (g 14), .ref (g 15), .int (nI (acN ac)), .ref (g 17), .ref (g 18), .ref (g 19), .int (nI tc), .ref (g 21), .ref (g 22), .ref (g 23), .ref (g 24), .long td9, .ref (g 26), .ref (g 27), .ref (g 28), .ref (g 29), .ref (g 30)])), (g 12, .inl (cI, 50, .inl pg)), (g 14, .inl (cI, 600, .inl b2)), (g 15, .inl (cJ, 12, .inr (.inl d)))] H ∧ va_D A [(g 0, .inr (10, [.int (nI 0), .ref (g 1), .int (nI ts), .int (nI pl), .int (nI rk), .ref (g 5), .int (nI sl), .ref (g 7), .int (nI rr), .int (nI rs), .ref (g 10), .ref (g 11), .ref (g 12), .long sd, .ref (g 14), .ref (g 15), .int (nI (acN ac)), .ref (g 17), .ref (g 18), .ref (g 19), .int (nI tc), .ref (g 21), .ref (g 22), .ref (g 23), .ref (g 24), .long td9, .ref (g 26), .ref (g 27), .ref (g 28), .ref (g 29), .ref (g 30)])), (g 12, .inl (cI, 50, .inl pg)), (g 14, .inl (cI, 600, .inl b2)), (g 15, .inl (cJ, 12, .inr (.inl d)))] ∧ va_S A s.heap H locs ∧ lv_has ls 2 [(1, .int (nI i)), (0, .ref (g 0))]) (fun xx9 => match xx9 with | (i, b2) => []) (fun xx9 => match xx9 with | (i, b2) => 50 - i) ?_ (0, b) ⟨by first | assumption | omega | (simp; done), by first | exact nt_b c_6 | exact nt_a c_6 (fun j hj => by rw [hbb j (by omega), if_pos (by omega)]), fun z hz => absurd hz (Nat.not_lt_zero _), hP.sub [0, 1, 2, 3] rfl, hD.sub [0, 1, 2, 3] (by decide) rfl, hS, lv_sub hl [0, 1] rfl⟩
        intro xx9 H locs ls hI ih_79
        obtain ⟨i, b2⟩ := xx9
        obtain ⟨hi, hb2, hz2, hP, hD, hS, hl⟩ := hI
        have hi : i ≤ 50 := hi
        have hb2 : (∀ j i, j < acN ac → i < 50 → b2 (50 * j + i) = bo (50 * (j + shN ac) + i)) := hb2
        have hz2 : ∀ z, z < i → b2 (50 * acN ac + z) = pg z := hz2
        have hP : va_P G vwCl [(g 0, .inr (10, [.int (nI 0), .ref (g 1), .int (nI ts), .int (nI pl), .int (nI rk), .ref (g 5), .int (nI sl), .ref (g 7), .int (nI rr), .int (nI rs), .ref (g 10), .ref (g 11), .ref (g 12), .long sd, .ref (g 14), .ref (g 15), .int (nI (acN ac)), .ref (g 17), .ref (g 18), .ref (g 19), .int (nI tc), .ref (g 21), .ref (g 22), .ref (g 23), .ref (g 24), .long td9, .ref (g 26), .ref (g 27), .ref (g 28), .ref (g 29), .ref (g 30)])), (g 12, .inl (cI, 50, .inl pg)), (g 14, .inl (cI, 600, .inl b2)), (g 15, .inl (cJ, 12, .inr (.inl d)))] _ := hP
        have hD : va_D A [(g 0, .inr (10, [.int (nI 0), .ref (g 1), .int (nI ts), .int (nI pl), .int (nI rk), .ref (g 5), .int (nI sl), .ref (g 7), .int (nI rr), .int (nI rs), .ref (g 10), .ref (g 11), .ref (g 12), .long sd, .ref (g 14), .ref (g 15), .int (nI (acN ac)), .ref (g 17), .ref (g 18), .ref (g 19), .int (nI tc), .ref (g 21), .ref (g 22), .ref (g 23), .ref (g 24), .long td9, .ref (g 26), .ref (g 27), .ref (g 28), .ref (g 29), .ref (g 30)])), (g 12, .inl (cI, 50, .inl pg)), (g 14, .inl (cI, 600, .inl b2)), (g 15, .inl (cJ, 12, .inr (.inl d)))] := hD
        have hl : lv_has ls 2 [(1, .int (nI i)), (0, .ref (g 0))] := hl
        refine lv_iload_n hx hb dX10_note_79 rfl (lv_at hl 0 rfl) ?_
        refine lv_bipush (v := nI 50) hx hb dX10_note_80 (by decide) ?_
        refine lv_icmp_ge (tgt := 111) hx hb dX10_note_82 (by decide) (fun c_82 => ?_) (fun c_82 => ?_)
        · skip
          have c_82 := n_geT c_82 (by omega) (by omega)
          refine lv_aload_n hx hb dX10_note_111 rfl (lv_at hl 1 rfl) ?_
          refine va_get (D := G) (ci := 10) (v := .ref (g 15)) (C := RX10) (T := TX10) (N := 31) hx hb hts hin10 hown hK.1 hP 0 rfl rfl 15 (by decide) k_1 (fun _ h9 => h9) rfl dX10_note_112 ?_
          refine lv_aload_n hx hb dX10_note_115 rfl (lv_at hl 1 rfl) ?_
          refine va_get (D := G) (ci := 10) (v := .int (nI (acN ac))) (C := RX10) (T := TX10) (N := 31) hx hb hts hin10 hown hK.1 hP 0 rfl rfl 16 (by decide) k_0 (fun _ h9 => h9) rfl dX10_note_116 ?_
          refine lv_aload_n hx hb dX10_note_119 rfl (lv_at hl 1 rfl) ?_
          refine va_get (D := G) (ci := 10) (v := .long sd) (C := RX10) (T := TX10) (N := 31) hx hb hts hin10 hown hK.1 hP 0 rfl rfl 13 (by decide) k_2 (fun _ h9 => h9) rfl dX10_note_120 ?_
          refine lst (f' := vp_updL d (acN ac) sd) hx hb hK hP hD hS 3 1 rfl rfl (j := (acN ac)) (by omega) (by omega) (rfl) dX10_note_123 (fun H locs hP hD hS => ?_)
          have hP : va_P G vwCl [(g 0, .inr (10, [.int (nI 0), .ref (g 1), .int (nI ts), .int (nI pl), .int (nI rk), .ref (g 5), .int (nI sl), .ref (g 7), .int (nI rr), .int (nI rs), .ref (g 10), .ref (g 11), .ref (g 12), .long sd, .ref (g 14), .ref (g 15), .int (nI (acN ac)), .ref (g 17), .ref (g 18), .ref (g 19), .int (nI tc), .ref (g 21), .ref (g 22), .ref (g 23), .ref (g 24), .long td9, .ref (g 26), .ref (g 27), .ref (g 28), .ref (g 29), .ref (g 30)])), (g 12, .inl (cI, 50, .inl pg)), (g 14, .inl (cI, 600, .inl b2)), (g 15, .inl (cJ, 12, .inr (.inl (vp_updL d (acN ac) sd))))] _ := hP
          have hD : va_D A [(g 0, .inr (10, [.int (nI 0), .ref (g 1), .int (nI ts), .int (nI pl), .int (nI rk), .ref (g 5), .int (nI sl), .ref (g 7), .int (nI rr), .int (nI rs), .ref (g 10), .ref (g 11), .ref (g 12), .long sd, .ref (g 14), .ref (g 15), .int (nI (acN ac)), .ref (g 17), .ref (g 18), .ref (g 19), .int (nI tc), .ref (g 21), .ref (g 22), .ref (g 23), .ref (g 24), .long td9, .ref (g 26), .ref (g 27), .ref (g 28), .ref (g 29), .ref (g 30)])), (g 12, .inl (cI, 50, .inl pg)), (g 14, .inl (cI, 600, .inl b2)), (g 15, .inl (cJ, 12, .inr (.inl (vp_updL d (acN ac) sd))))] := hD
          refine lv_aload_n hx hb dX10_note_124 rfl (lv_at hl 1 rfl) ?_
          refine lv_dup hx hb dX10_note_125 rfl ?_
          refine va_get (D := G) (ci := 10) (v := .int (nI (acN ac))) (C := RX10) (T := TX10) (N := 31) hx hb hts hin10 hown hK.1 hP 0 rfl rfl 16 (by decide) k_0 (fun _ h9 => h9) rfl dX10_note_126 ?_
          refine lv_iconst (v := nI 1) hx hb dX10_note_129 (by decide) ?_
          refine lv_iadd hx hb dX10_note_130 ?_
          refine top_i (y := nI ((acN ac) + 1)) (nI_add _ _) ?_
          refine va_put (D := G) (ci := 10) (v := .int (nI ((acN ac) + 1))) (ty := tyX10 16) (C := RX10) (T := TX10) (N := 31) hx hb hts hin10 tyX10 tyX10_ok nmX10 hown hK.1 hP hD hS 0 rfl rfl 16 (by decide) k_0 (fun _ h9 => h9) rfl (by decide +kernel) rfl rfl (Nat.le_of_ble_eq_true rfl) dX10_note_131 (fun H locs hP hD hS => ?_)
          have hP : va_P G vwCl [(g 0, .inr (10, [.int (nI 0), .ref (g 1), .int (nI ts), .int (nI pl), .int (nI rk), .ref (g 5), .int (nI sl), .ref (g 7), .int (nI rr), .int (nI rs), .ref (g 10), .ref (g 11), .ref (g 12), .long sd, .ref (g 14), .ref (g 15), .int (nI ((acN ac) + 1)), .ref (g 17), .ref (g 18), .ref (g 19), .int (nI tc), .ref (g 21), .ref (g 22), .ref (g 23), .ref (g 24), .long td9, .ref (g 26), .ref (g 27), .ref (g 28), .ref (g 29), .ref (g 30)])), (g 12, .inl (cI, 50, .inl pg)), (g 14, .inl (cI, 600, .inl b2)), (g 15, .inl (cJ, 12, .inr (.inl (vp_updL d (acN ac) sd))))] _ := hP
          have hD : va_D A [(g 0, .inr (10, [.int (nI 0), .ref (g 1), .int (nI ts), .int (nI pl), .int (nI rk), .ref (g 5), .int (nI sl), .ref (g 7), .int (nI rr), .int (nI rs), .ref (g 10), .ref (g 11), .ref (g 12), .long sd, .ref (g 14), .ref (g 15), .int (nI ((acN ac) + 1)), .ref (g 17), .ref (g 18), .ref (g 19), .int (nI tc), .ref (g 21), .ref (g 22), .ref (g 23), .ref (g 24), .long td9, .ref (g 26), .ref (g 27), .ref (g 28), .ref (g 29), .ref (g 30)])), (g 12, .inl (cI, 50, .inl pg)), (g 14, .inl (cI, 600, .inl b2)), (g 15, .inl (cJ, 12, .inr (.inl (vp_updL d (acN ac) sd))))] := hD
          exact endV hx hb hr hlocks ((b2, vp_updL d (acN ac) sd)) (⟨hb2, fun j hj => (if_neg (by omega)).trans (hds j hj), fun z hz => hz2 z (by omega), if_pos rfl⟩) (hP.sub [0, 1, 2, 3] rfl) (hD.sub [0, 1, 2, 3] (by decide) rfl) hS dX10_note_134
        · skip
          have c_82 := n_geF c_82 (by omega) (by omega)
          refine lv_aload_n hx hb dX10_note_85 rfl (lv_at hl 1 rfl) ?_
          refine va_get (D := G) (ci := 10) (v := .ref (g 14)) (C := RX10) (T := TX10) (N := 31) hx hb hts hin10 hown hK.1 hP 0 rfl rfl 14 (by decide) k_3 (fun _ h9 => h9) rfl dX10_note_86 ?_
          refine lv_bipush (v := nI 50) hx hb dX10_note_89 (by decide) ?_
          refine lv_aload_n hx hb dX10_note_91 rfl (lv_at hl 1 rfl) ?_
          refine va_get (D := G) (ci := 10) (v := .int (nI (acN ac))) (C := RX10) (T := TX10) (N := 31) hx hb hts hin10 hown hK.1 hP 0 rfl rfl 16 (by decide) k_0 (fun _ h9 => h9) rfl dX10_note_92 ?_
          refine lv_imul hx hb dX10_note_95 ?_
          refine top_i (y := nI (50 * (acN ac))) (pk_mul _ _) ?_
          refine lv_iload_n hx hb dX10_note_96 rfl (lv_at hl 0 rfl) ?_
          refine lv_iadd hx hb dX10_note_97 ?_
          refine top_i (y := nI (50 * (acN ac) + i)) (nI_add _ _) ?_
          refine lv_aload_n hx hb dX10_note_98 rfl (lv_at hl 1 rfl) ?_
          refine va_get (D := G) (ci := 10) (v := .ref (g 12)) (C := RX10) (T := TX10) (N := 31) hx hb hts hin10 hown hK.1 hP 0 rfl rfl 12 (by decide) k_4 (fun _ h9 => h9) rfl dX10_note_99 ?_
          refine lv_iload_n hx hb dX10_note_102 rfl (lv_at hl 0 rfl) ?_
          refine ald hx hb hK hP 1 0 rfl rfl (j := i) (by omega) (by omega) dX10_note_103 ?_
          refine ast (f' := upd b2 (50 * (acN ac) + i) (pg i)) hx hb hK hP hD hS 2 0 rfl rfl (j := 50 * (acN ac) + i) (by omega) (by omega) (rfl) dX10_note_104 (fun H locs hP hD hS => ?_)
          have hP : va_P G vwCl [(g 0, .inr (10, [.int (nI 0), .ref (g 1), .int (nI ts), .int (nI pl), .int (nI rk), .ref (g 5), .int (nI sl), .ref (g 7), .int (nI rr), .int (nI rs), .ref (g 10), .ref (g 11), .ref (g 12), .long sd, .ref (g 14), .ref (g 15), .int (nI (acN ac)), .ref (g 17), .ref (g 18), .ref (g 19), .int (nI tc), .ref (g 21), .ref (g 22), .ref (g 23), .ref (g 24), .long td9, .ref (g 26), .ref (g 27), .ref (g 28), .ref (g 29), .ref (g 30)])), (g 12, .inl (cI, 50, .inl pg)), (g 14, .inl (cI, 600, .inl (upd b2 (50 * (acN ac) + i) (pg i)))), (g 15, .inl (cJ, 12, .inr (.inl d)))] _ := hP
          have hD : va_D A [(g 0, .inr (10, [.int (nI 0), .ref (g 1), .int (nI ts), .int (nI pl), .int (nI rk), .ref (g 5), .int (nI sl), .ref (g 7), .int (nI rr), .int (nI rs), .ref (g 10), .ref (g 11), .ref (g 12), .long sd, .ref (g 14), .ref (g 15), .int (nI (acN ac)), .ref (g 17), .ref (g 18), .ref (g 19), .int (nI tc), .ref (g 21), .ref (g 22), .ref (g 23), .ref (g 24), .long td9, .ref (g 26), .ref (g 27), .ref (g 28), .ref (g 29), .ref (g 30)])), (g 12, .inl (cI, 50, .inl pg)), (g 14, .inl (cI, 600, .inl (upd b2 (50 * (acN ac) + i) (pg i)))), (g 15, .inl (cJ, 12, .inr (.inl d)))] := hD
          refine lv_iinc (v := nI (i + 1)) (lv' := [(1, .int (nI (i + 1))), (0, .ref (g 0))]) hx hb dX10_note_105 hl (k := 0) rfl (nI_inc _ 1 1 (by decide)) (by decide) rfl (fun ls hl => ?_)
          refine lv_goto (tgt := 79) hx hb dX10_note_108 (by decide) ?_
          exact ih_79 ((i + 1), upd b2 (50 * (acN ac) + i) (pg i)) _ _ _ (by first | omega | (simp only []; omega) | (show _ < _; omega)) ⟨by first | assumption | omega | (simp; done), fun j z hj hz => (u_ne (by omega)).trans (hb2 j z hj hz), fun z hz => by by_cases e : z = i; (rw [e]; exact if_pos rfl); exact (u_ne (by omega)).trans (hz2 z (by omega)), hP.sub [0, 1, 2, 3] rfl, hD.sub [0, 1, 2, 3] (by decide) rfl, hS, lv_sub hl [0, 1] rfl⟩
      · skip
        have c_44 := n_geF c_44 (by omega) (by omega)
        refine lv_aload_n hx hb dX10_note_47 rfl (lv_at hl 1 rfl) ?_
        refine va_get (D := G) (ci := 10) (v := .ref (g 15)) (C := RX10) (T := TX10) (N := 31) hx hb hts hin10 hown hK.1 hP 0 rfl rfl 15 (by decide) k_1 (fun _ h9 => h9) rfl dX10_note_48 ?_
        refine lv_iload_n hx hb dX10_note_51 rfl (lv_at hl 0 rfl) ?_
        refine lv_aload_n hx hb dX10_note_52 rfl (lv_at hl 1 rfl) ?_
        refine va_get (D := G) (ci := 10) (v := .ref (g 15)) (C := RX10) (T := TX10) (N := 31) hx hb hts hin10 hown hK.1 hP 0 rfl rfl 15 (by decide) k_1 (fun _ h9 => h9) rfl dX10_note_53 ?_
        refine lv_iload_n hx hb dX10_note_56 rfl (lv_at hl 0 rfl) ?_
        refine lv_iconst (v := nI 1) hx hb dX10_note_57 (by decide) ?_
        refine lv_iadd hx hb dX10_note_58 ?_
        refine top_i (y := nI (i1 + 1)) (nI_add _ _) ?_
        refine lld hx hb hK hP 3 1 rfl rfl (j := i1 + 1) (by omega) (by omega) dX10_note_59 ?_
        refine lst (f' := vp_updL d i1 (d (i1 + 1))) hx hb hK hP hD hS 3 1 rfl rfl (j := i1) (by omega) (by omega) (rfl) dX10_note_60 (fun H locs hP hD hS => ?_)
        have hP : va_P G vwCl [(g 0, .inr (10, [.int (nI 0), .ref (g 1), .int (nI ts), .int (nI pl), .int (nI rk), .ref (g 5), .int (nI sl), .ref (g 7), .int (nI rr), .int (nI rs), .ref (g 10), .ref (g 11), .ref (g 12), .long sd, .ref (g 14), .ref (g 15), .int (nI ac), .ref (g 17), .ref (g 18), .ref (g 19), .int (nI tc), .ref (g 21), .ref (g 22), .ref (g 23), .ref (g 24), .long td9, .ref (g 26), .ref (g 27), .ref (g 28), .ref (g 29), .ref (g 30)])), (g 12, .inl (cI, 50, .inl pg)), (g 14, .inl (cI, 600, .inl b)), (g 15, .inl (cJ, 12, .inr (.inl (vp_updL d i1 (d (i1 + 1))))))] _ := hP
        have hD : va_D A [(g 0, .inr (10, [.int (nI 0), .ref (g 1), .int (nI ts), .int (nI pl), .int (nI rk), .ref (g 5), .int (nI sl), .ref (g 7), .int (nI rr), .int (nI rs), .ref (g 10), .ref (g 11), .ref (g 12), .long sd, .ref (g 14), .ref (g 15), .int (nI ac), .ref (g 17), .ref (g 18), .ref (g 19), .int (nI tc), .ref (g 21), .ref (g 22), .ref (g 23), .ref (g 24), .long td9, .ref (g 26), .ref (g 27), .ref (g 28), .ref (g 29), .ref (g 30)])), (g 12, .inl (cI, 50, .inl pg)), (g 14, .inl (cI, 600, .inl b)), (g 15, .inl (cJ, 12, .inr (.inl (vp_updL d i1 (d (i1 + 1))))))] := hD
        refine lv_iinc (v := nI (i1 + 1)) (lv' := [(1, .int (nI (i1 + 1))), (0, .ref (g 0))]) hx hb dX10_note_61 hl (k := 0) rfl (nI_inc _ 1 1 (by decide)) (by decide) rfl (fun ls hl => ?_)
        refine lv_goto (tgt := 41) hx hb dX10_note_64 (by decide) ?_
        exact ih_41 ((i1 + 1), vp_updL d i1 (d (i1 + 1))) _ _ _ (by first | omega | (simp only []; omega) | (show _ < _; omega)) ⟨by first | assumption | omega | (simp; done), nt_d hd (by omega), hP.sub [0, 1, 2, 3] rfl, hD.sub [0, 1, 2, 3] (by decide) rfl, hS, lv_sub hl [0, 1] rfl⟩
    · skip
      have c_15 := n_geF c_15 (by omega) (by omega)
      refine lv_aload_n hx hb dX10_note_18 rfl (lv_at hl 1 rfl) ?_
      refine va_get (D := G) (ci := 10) (v := .ref (g 14)) (C := RX10) (T := TX10) (N := 31) hx hb hts hin10 hown hK.1 hP 0 rfl rfl 14 (by decide) k_3 (fun _ h9 => h9) rfl dX10_note_19 ?_
      refine lv_iload_n hx hb dX10_note_22 rfl (lv_at hl 0 rfl) ?_
      refine lv_aload_n hx hb dX10_note_23 rfl (lv_at hl 1 rfl) ?_
      refine va_get (D := G) (ci := 10) (v := .ref (g 14)) (C := RX10) (T := TX10) (N := 31) hx hb hts hin10 hown hK.1 hP 0 rfl rfl 14 (by decide) k_3 (fun _ h9 => h9) rfl dX10_note_24 ?_
      refine lv_iload_n hx hb dX10_note_27 rfl (lv_at hl 0 rfl) ?_
      refine lv_bipush (v := nI 50) hx hb dX10_note_28 (by decide) ?_
      refine lv_iadd hx hb dX10_note_30 ?_
      refine top_i (y := nI (i0 + 50)) (nI_add _ _) ?_
      refine ald hx hb hK hP 2 0 rfl rfl (j := i0 + 50) (by omega) (by omega) dX10_note_31 ?_
      refine ast (f' := upd b i0 (b (i0 + 50))) hx hb hK hP hD hS 2 0 rfl rfl (j := i0) (by omega) (by omega) (rfl) dX10_note_32 (fun H locs hP hD hS => ?_)
      have hP : va_P G vwCl [(g 0, .inr (10, [.int (nI 0), .ref (g 1), .int (nI ts), .int (nI pl), .int (nI rk), .ref (g 5), .int (nI sl), .ref (g 7), .int (nI rr), .int (nI rs), .ref (g 10), .ref (g 11), .ref (g 12), .long sd, .ref (g 14), .ref (g 15), .int (nI ac), .ref (g 17), .ref (g 18), .ref (g 19), .int (nI tc), .ref (g 21), .ref (g 22), .ref (g 23), .ref (g 24), .long td9, .ref (g 26), .ref (g 27), .ref (g 28), .ref (g 29), .ref (g 30)])), (g 12, .inl (cI, 50, .inl pg)), (g 14, .inl (cI, 600, .inl (upd b i0 (b (i0 + 50))))), (g 15, .inl (cJ, 12, .inr (.inl bs)))] _ := hP
      have hD : va_D A [(g 0, .inr (10, [.int (nI 0), .ref (g 1), .int (nI ts), .int (nI pl), .int (nI rk), .ref (g 5), .int (nI sl), .ref (g 7), .int (nI rr), .int (nI rs), .ref (g 10), .ref (g 11), .ref (g 12), .long sd, .ref (g 14), .ref (g 15), .int (nI ac), .ref (g 17), .ref (g 18), .ref (g 19), .int (nI tc), .ref (g 21), .ref (g 22), .ref (g 23), .ref (g 24), .long td9, .ref (g 26), .ref (g 27), .ref (g 28), .ref (g 29), .ref (g 30)])), (g 12, .inl (cI, 50, .inl pg)), (g 14, .inl (cI, 600, .inl (upd b i0 (b (i0 + 50))))), (g 15, .inl (cJ, 12, .inr (.inl bs)))] := hD
      refine lv_iinc (v := nI (i0 + 1)) (lv' := [(1, .int (nI (i0 + 1))), (0, .ref (g 0))]) hx hb dX10_note_33 hl (k := 0) rfl (nI_inc _ 1 1 (by decide)) (by decide) rfl (fun ls hl => ?_)
      refine lv_goto (tgt := 11) hx hb dX10_note_36 (by decide) ?_
      exact ih_11 ((i0 + 1), upd b i0 (b (i0 + 50))) _ _ _ (by first | omega | (simp only []; omega) | (show _ < _; omega)) ⟨by first | assumption | omega | (simp; done), nt_s hbb (by omega), hP.sub [0, 1, 2, 3] rfl, hD.sub [0, 1, 2, 3] (by decide) rfl, hS, lv_sub hl [0, 1] rfl⟩
