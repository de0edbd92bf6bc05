/-! the two sides' answers agree: pure lemmas -/
theorem run_stay {tx : Nat → Nat} {p : Nat} (h : runN tx p = none) : ∀ d, runN tx (p + d) = none
  | 0 => h
  | d + 1 => by
    show (runN tx (p + d)).bind (dl (tx (p + d))) = none
    rw [run_stay h d]
    rfl
theorem run_not {tx : Nat → Nat} {p q : Nat} {s9 : RS} (h : runN tx p = none) (hq : p ≤ q) (h2 : runN tx q = some s9) : False := by
  have h3 := run_stay h (q - p)
  rw [show p + (q - p) = q by omega, h2] at h3
  cases h3
theorem Fault_fun {tx : Nat → Nat} {ts : Nat} {r1 r2 : Int32} (h1 : FaultIs tx ts r1) (h2 : FaultIs tx ts r2) : r1 = r2 := by
  rcases h1 with ⟨p, hp, ⟨s1, a1⟩, b1, rfl⟩ | ⟨s1, a1, rfl⟩
  · rcases h2 with ⟨q, hq, ⟨s2, a2⟩, b2, rfl⟩ | ⟨s2, a2, rfl⟩
    · rcases Nat.lt_trichotomy p q with e | e | e
      · exact (run_not b1 e a2).elim
      · rw [e]
      · exact (run_not b2 e a1).elim
    · exact (run_not b1 hp a2).elim
  · rcases h2 with ⟨q, hq, ⟨s2, a2⟩, b2, rfl⟩ | ⟨s2, a2, rfl⟩
    · exact (run_not b2 hq a1).elim
    · rw [a1] at a2
      cases a2
      rfl
theorem run_cg {tx yx : Nat → Nat} : ∀ {n : Nat}, (∀ j, j < n → tx j = yx j) → runN tx n = runN yx n
  | 0, _ => rfl
  | n + 1, h => by
    show (runN tx n).bind (dl (tx n)) = (runN yx n).bind (dl (yx n))
    rw [run_cg (fun j hj => h j (by omega)), h n (by omega)]
theorem Fault_cg {tx yx : Nat → Nat} {ts : Nat} {r : Int32} (h : ∀ j, j < ts → tx j = yx j) (hf : FaultIs tx ts r) : FaultIs yx ts r := by
  rcases hf with ⟨p, hp, ⟨s1, a1⟩, b1, e⟩ | ⟨s1, a1, e⟩
  · exact Or.inl ⟨p, hp, ⟨s1, by rw [← run_cg (fun j hj => h j (by omega))]; exact a1⟩, by rw [← run_cg (fun j hj => h j (by omega))]; exact b1, e⟩
  · exact Or.inr ⟨s1, by rw [← run_cg h]; exact a1, e⟩
theorem comN_cg {P Q : Nat → Nat} : ∀ {n : Nat}, (∀ w, w < n → P w = Q w) → comN P n = comN Q n
  | 0, _ => rfl
  | n + 1, h => by rw [comN, comN, comN_cg (fun w hw => h w (by omega)), h n (by omega)]
theorem surN_cg {P Q : Nat → Nat} : ∀ {n : Nat}, (∀ w, w < n → P w = Q w) → surN P n = surN Q n
  | 0, _ => rfl
  | n + 1, h => by rw [surN, surN, surN_cg (fun w hw => h w (by omega)), h n (by omega)]
theorem pick_cg {f g : Nat → Nat} {d u : Nat} (h : ∀ i, i < 5 → f i = g i) : pickN f d u = pickN g d u := by
  unfold pickN
  rw [sumN_congr (n := 1) (fun i hi => h i (by omega)), sumN_congr (n := 2) (fun i hi => h i (by omega)), sumN_congr (n := 3) (fun i hi => h i (by omega)), sumN_congr (n := 4) (fun i hi => h i (by omega)), sumN_congr (n := 5) (fun i hi => h i (by omega))]
section
variable {kd tn ke te : Nat → Nat} {rk : Nat}
theorem way_cg {k u v : Nat} (ht : ∀ i, i < 175 → tn i = te i) (hk : k < 7) (hu : u < 5) (hv : v < 5) : wayT tn k u v = wayT te k u v := by
  unfold wayT
  rw [sim_sum ht hk hu, slT_congr ht hk hu hv]
theorem spP_cg {f o : Nat} (hk : ∀ k, k < rk → kd k = ke k) (ht : ∀ i, i < 175 → tn i = te i) (hr : rk < 8) : ∀ {n : Nat}, f + n < rk → ∀ w, w < 5 → spP tn kd f o n w = spP te ke f o n w
  | 0, h, w, _ => by
    show (if w = turnN (kd f) o then 1 else 0) = if w = turnN (ke f) o then 1 else 0
    rw [hk f (by omega)]
  | n + 1, h, w, hw => by
    show sumN (fun u => spP tn kd f o n u * wayT tn (f + n + 1) u (turnN (kd (f + n + 1)) w)) 5 = sumN (fun u => spP te ke f o n u * wayT te (f + n + 1) u (turnN (ke (f + n + 1)) w)) 5
    refine sumN_congr (fun u hu => ?_)
    rw [spP_cg hk ht hr (n := n) (by omega) u hu, hk (f + n + 1) (by omega), way_cg ht (by omega) hu (turnN_lt hw)]
theorem com_cg {o k : Nat} (hk : ∀ k, k < rk → kd k = ke k) (ht : ∀ i, i < 175 → tn i = te i) (hr : rk < 8) (h : k < rk) : comN (spP tn kd 0 o k) 5 = comN (spP te ke 0 o k) 5 := comN_cg (fun w hw => spP_cg hk ht hr (by omega) w hw)
theorem rows_cg {tr tq td : Nat → Nat} {tc o : Nat} (hk : ∀ k, k < rk → kd k = ke k) (ht : ∀ i, i < 175 → tn i = te i) (hr : rk < 8) : ∀ {n : Nat}, n < rk → ∀ w, w < 5 → rowsP tn kd tr tq td tc o n w = rowsP te ke tr tq td tc o n w
  | 0, h, w, _ => by
    show pI (w = turnN (kd 0) o ∧ alw tr tq td tc 0 w) 1 0 = pI (w = turnN (ke 0) o ∧ alw tr tq td tc 0 w) 1 0
    rw [hk 0 (by omega)]
  | n + 1, h, w, hw => by
    show pI (alw tr tq td tc (n + 1) w) (sumN (arrU tn (n + 1) (rowsP tn kd tr tq td tc o n) (turnN (kd (n + 1)) w)) 5) 0 = pI (alw tr tq td tc (n + 1) w) (sumN (arrU te (n + 1) (rowsP te ke tr tq td tc o n) (turnN (ke (n + 1)) w)) 5) 0
    rw [hk (n + 1) (by omega)]
    congr 1
    refine sumN_congr (fun u hu => ?_)
    unfold arrU
    rw [way_cg ht (by omega) hu (turnN_lt hw), rows_cg hk ht hr (n := n) (by omega) u hu]
theorem cnt_cg {tr tq td : Nat → Nat} {tc o : Nat} (hk : ∀ k, k < rk → kd k = ke k) (ht : ∀ i, i < 175 → tn i = te i) (hr : rk < 8) : cntN tn kd tr tq td tc rk o = cntN te ke tr tq td tc rk o := by
  unfold cntN
  by_cases c : rk = 0
  · rw [if_pos c, if_pos c]
  · rw [if_neg c, if_neg c]
    exact sumN_congr (fun w hw => rows_cg hk ht hr (by omega) w hw)
theorem help_eq {P Q : Nat → Nat} : ∀ {n : Nat}, (∀ r, 1 ≤ r → r ≤ n → Q r = 10 * P r) → (hlpS P n).1 = (hlpS Q n).1 ∧ (((hlpS P n).2 = 0 ∧ (hlpS Q n).2 = 0) ∨ ∃ a, (hlpS P n).2 = a + 1 ∧ (hlpS Q n).2 = 10 * a + 1)
  | 0, _ => ⟨rfl, Or.inl ⟨rfl, rfl⟩⟩
  | n + 1, h => by
    obtain ⟨i1, i2⟩ := help_eq (P := P) (Q := Q) (n := n) (fun r h1 h2 => h r h1 (by omega))
    have e := h (n + 1) (by omega) (Nat.le_refl _)
    rw [hlpS, hlpS, e]
    rcases i2 with ⟨a1, a2⟩ | ⟨a, a1, a2⟩
    · rw [a1, a2, if_pos (by omega), if_pos (by omega)]
      exact ⟨rfl, Or.inr ⟨P (n + 1), rfl, rfl⟩⟩
    · by_cases c : a < P (n + 1)
      · rw [a1, a2, if_pos (by omega), if_pos (by omega)]
        exact ⟨rfl, Or.inr ⟨P (n + 1), rfl, rfl⟩⟩
      · rw [a1, a2, if_neg (by omega), if_neg (by omega)]
        exact ⟨i1, Or.inr ⟨a, a1, a2⟩⟩
theorem help_cg {o : Nat} (hk : ∀ k, k < rk → kd k = ke k) (ht : ∀ i, i < 175 → tn i = te i) (hr : rk < 8) (ho : o < 5) : (hlpS (hlpP tn kd rk o) (rk - 1)).1 = (hlpS (hlqP te ke rk o) (rk - 1)).1 := by
  refine (help_eq (fun r h1 h2 => ?_)).1
  unfold hlqP hlpP
  rw [spP_cg hk ht hr (by omega) o ho]
  obtain ⟨q, rfl⟩ : ∃ q, r = q + 1 := ⟨r - 1, by omega⟩
  rw [Nat.add_sub_cancel, Nat.pow_succ, Nat.mul_comm (10 ^ q) 10, ← Nat.mul_assoc, ← Nat.mul_assoc, Nat.mul_comm 10]
theorem wayO_cg {k u : Nat} {se : Int64} (ht : ∀ i, i < 175 → tn i = te i) (hk : k < 7) (hu : u < 5) : wayO tn k u se = wayO te k u se ∧ wayS tn k u se = wayS te k u se := by
  unfold wayO wayS
  rw [sim_sum ht hk hu, pick_cg (fun i hi => slT_congr ht hk hu hi)]
  exact ⟨rfl, rfl⟩
theorem step_cg {k : Nat} {q : (Nat → Nat → Int32) × Int64} (hk : ∀ k, k < rk → kd k = ke k) (ht : ∀ i, i < 175 → tn i = te i) (hr : rk < 8) (h : k < rk) (hs : SceneOk rk q.1) : stepM kd tn k q = stepM ke te k q := by
  unfold stepM
  by_cases c : q.1 5 (k - 1) = -9
  · rw [if_pos c, if_pos c]
  · obtain ⟨u, hu, eu⟩ := (hs (k - 1) (by omega)).1.resolve_left c
    rw [if_neg c, if_neg c, eu, nI_clamp (by omega), hk k h, (wayO_cg ht (by omega) hu).1, (wayO_cg ht (by omega) hu).2]
theorem proc_cg {q : (Nat → Nat → Int32) × Int64} (hk : ∀ k, k < rk → kd k = ke k) (ht : ∀ i, i < 175 → tn i = te i) (hr : rk < 8) (hs : SceneOk rk q.1) : ∀ n, n ≤ rk - 1 → procM kd tn rk n q = procM ke te rk n q
  | 0, _ => rfl
  | n + 1, hn => by
    rw [procM, procM, proc_cg hk ht hr hs n (by omega)]
    exact step_cg hk ht hr (by omega) (procM_ok hs (by omega))
theorem min_cg {v : Nat → Nat → Int32} {se : Int64} (hk : ∀ k, k < rk → kd k = ke k) (ht : ∀ i, i < 175 → tn i = te i) (hr : rk < 8) (hs : SceneOk rk v) : minV kd tn rk v se = minV ke te rk v se ∧ minS kd tn rk v se = minS ke te rk v se := by
  unfold minV minS
  rw [proc_cg (q := (v, se)) hk ht hr hs (rk - 1) (Nat.le_refl _)]
  exact ⟨rfl, rfl⟩
theorem bug_cg {v : Nat → Nat → Int32} (hk : ∀ k, k < rk → kd k = ke k) : ∀ n, n ≤ rk → bugV kd v n = bugV ke v n ∧ bugN kd v n = bugN ke v n
  | 0, _ => ⟨rfl, rfl⟩
  | n + 1, hn => by
    have ih := bug_cg (v := v) hk n (by omega)
    rw [bugV, bugV, bugN, bugN, ih.1, ih.2, hk n (by omega)]
    exact ⟨rfl, rfl⟩
theorem set_cg {f j : Nat} (hk : ∀ k, k < rk → kd k = ke k) : setV kd rk f j = setV ke rk f j := by
  unfold setV
  by_cases c : j < rk
  · rw [hk j c]
  · have e : ∀ x : Nat, ¬ (j < rk ∧ x = 3) := fun x z => c z.1
    rw [if_neg (e _), if_neg (e _)]
theorem rkI_cg {v w : Nat → Nat → Int32} {k : Nat} {q : Int32} (hk : kd k = ke k) (h : AgR rk v w) (hr : k < rk) : rkI kd v k q = rkI ke w k q := by
  unfold rkI
  rw [hk, h 0 k (by decide) hr, h 1 k (by decide) hr, h 2 k (by decide) hr, h 3 k (by decide) hr, h 4 k (by decide) hr, h 5 k (by decide) hr]
theorem drL_ok {w n1 : Nat} {q : (Nat → Nat → Int32) × Int64} (hs : SceneOk rk q.1) (hd : ∀ j, j < n1 → w / 10 ^ j % 10 < 5) : ∀ i, i ≤ n1 → SceneOk rk (drL kd tn rk w n1 i q).1
  | 0, _ => hs
  | i + 1, hi => by
    rw [drL]
    exact SceneOk_min (SceneOk_give (drL_ok hs hd i (by omega)) (hd _ (by omega)))
theorem drL_cg {w n1 : Nat} {q : (Nat → Nat → Int32) × Int64} (hk : ∀ k, k < rk → kd k = ke k) (ht : ∀ i, i < 175 → tn i = te i) (hr : rk < 8) (h0 : 0 < rk) (hs : SceneOk rk q.1) (hd : ∀ j, j < n1 → w / 10 ^ j % 10 < 5) : ∀ i, i ≤ n1 → drL kd tn rk w n1 i q = drL ke te rk w n1 i q
  | 0, _ => rfl
  | i + 1, hi => by
    have hs2 : SceneOk rk (giveV (ke 0) (drL ke te rk w n1 i q).1 (w / 10 ^ (n1 - 1 - i) % 10)) := SceneOk_give (drL_ok hs hd i (by omega)) (hd _ (by omega))
    rw [drL, drL, drL_cg hk ht hr h0 hs hd i (by omega), hk 0 h0, (min_cg hk ht hr hs2).1, (min_cg hk ht hr hs2).2]
theorem drM_ok {q : (Nat → Nat → Int32) × Int64} (hs : SceneOk rk q.1) : ∀ i, SceneOk rk (drM kd tn rk i q).1
  | 0 => hs
  | i + 1 => by
    rw [drM]
    exact SceneOk_min (drM_ok hs i)
theorem drM_cg {q : (Nat → Nat → Int32) × Int64} (hk : ∀ k, k < rk → kd k = ke k) (ht : ∀ i, i < 175 → tn i = te i) (hr : rk < 8) (hs : SceneOk rk q.1) : ∀ i, drM kd tn rk i q = drM ke te rk i q
  | 0 => rfl
  | i + 1 => by
    have hs2 := drM_ok (kd := ke) (tn := te) hs i
    rw [drM, drM, drM_cg hk ht hr hs i, (min_cg hk ht hr hs2).1, (min_cg hk ht hr hs2).2]
/-! sleep -/
theorem bo_tell {kk k o : Nat} {v : Nat → Nat → Int32} (h : Boo v) : Boo (tellV kk v k o) := by
  intro j hj
  unfold tellV
  by_cases c : v 6 k = 0
  · rw [if_pos c]
    unfold takeV
    simp only [up2_at]
    rw [if_neg (by omega), if_neg (by omega), if_neg (by omega)]
    exact h j hj
  · rw [if_neg c, up2_at]
    by_cases e : j = k
    · rw [if_pos ⟨rfl, e⟩]; exact Or.inl rfl
    · rw [if_neg (fun z => e z.2)]; exact h j hj
theorem bo_up {f k : Nat} {x : Int32} {v : Nat → Nat → Int32} (hf : ¬ f = 6) (h : Boo v) : Boo (up2 v f k x) := by
  intro j hj
  rw [up2_at, if_neg (fun z => hf z.1.symm)]
  exact h j hj
theorem bo_give {kk o : Nat} {v : Nat → Nat → Int32} (h : Boo v) : Boo (giveV kk v o) := bo_up (by decide) (bo_tell h)
theorem bo_proc {q : (Nat → Nat → Int32) × Int64} (h : Boo q.1) : ∀ n, Boo (procM kd tn rk n q).1
  | 0 => h
  | n + 1 => by
    rw [procM, stepM]
    have ih := bo_proc h n
    split
    · exact bo_up (by decide) ih
    · exact bo_up (by decide) (bo_tell ih)
theorem bo_min {v : Nat → Nat → Int32} {se : Int64} (h : Boo v) : Boo (minV kd tn rk v se) := by
  intro j hj
  unfold minV
  rw [(wkV_5 rk).2]
  exact bo_up (by decide) (bo_proc (q := (v, se)) h _) j hj
theorem bug_56 {v : Nat → Nat → Int32} {j : Nat} : ∀ n, bugV kd v n 5 j = v 5 j ∧ bugV kd v n 6 j = v 6 j
  | 0 => ⟨rfl, rfl⟩
  | n + 1 => by
    have ih := bug_56 (v := v) (j := j) n
    rw [bugV]
    by_cases c : bugV kd v n 6 n = 0
    · rw [if_pos c]
      unfold takeV
      simp only [up2_at]
      rw [if_neg (by omega), if_neg (by omega), if_neg (by omega), if_neg (by omega), if_neg (by omega), if_neg (by omega)]
      exact ih
    · rw [if_neg c]; exact ih
theorem bo_bug {v : Nat → Nat → Int32} {n : Nat} (h : Boo v) : Boo (bugV kd v n) := fun j hj => by rw [(bug_56 n).2]; exact h j hj
theorem ok_bug {v : Nat → Nat → Int32} {n : Nat} (h : SceneOk rk v) : SceneOk rk (bugV kd v n) := fun j hj => by rw [(bug_56 n).1, (bug_56 n).2]; exact h j hj
theorem bo_cp {v w : Nat → Nat → Int32} (h : ∀ f j, f < 7 → j < 7 → w f j = v f j) (hb : Boo v) : Boo w := fun j hj => by rw [h 6 j (by decide) hj]; exact hb j hj
theorem bo_set : ∀ j, j < 7 → setV kd rk 6 j = nI 0 ∨ setV kd rk 6 j = nI 1 := fun j _ => by
  unfold setV
  rw [if_pos rfl]
  by_cases c : j < rk ∧ kd j = 3
  · rw [if_pos c]; exact Or.inr rfl
  · rw [if_neg c]; exact Or.inl rfl
theorem ok_set {v : Nat → Nat → Int32} (hr : rk < 8) (h : ∀ f k, f < 7 → k < 7 → v f k = setV kd rk f k) : SceneOk rk v := fun k hk => by
  rw [h 5 k (by decide) (by omega), h 6 k (by decide) (by omega)]
  refine ⟨Or.inl ?_, bo_set k (by omega)⟩
  unfold setV
  rw [if_neg (by decide), if_pos (by decide)]
end
/-! a page and what it holds -/
theorem vOf_cg {p q : Nat → Int32} (h : ∀ i, i < 50 → q i = p i) : vOf q = vOf p := by
  funext f j
  unfold vOf
  by_cases c : f < 7 ∧ j < 7
  · rw [if_pos c, if_pos c, h _ (by omega)]
  · rw [if_neg c, if_neg c]
section
variable {rk : Nat} {v w : Nat → Nat → Int32} {mi : Int32} {se sd : Int64} {p q : Nat → Int32}
theorem SR_p (h : ∀ i, i < 50 → q i = p i) (hs : SR rk v mi se p sd) : SR rk v mi se q sd := by
  unfold SR at hs ⊢
  rw [vOf_cg h, h 49 (by decide)]
  exact hs
theorem SR_v (h : ∀ f j, f < 7 → j < 7 → w f j = v f j) (hr : rk < 8) (hs : SR rk v mi se p sd) : SR rk w mi se p sd := by
  obtain ⟨h1, h2⟩ := hs
  exact ⟨fun f j hf hj => by rw [h f j hf (by omega)]; exact h1 f j hf hj, h2⟩
end
