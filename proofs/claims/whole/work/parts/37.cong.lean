/-! two scenes that agree below rk: what each act makes of them -/
def AgR (rk : Nat) (v w : Nat → Nat → Int32) : Prop := ∀ f j, f < 7 → j < rk → v f j = w f j
section
variable {kd tn : Nat → Nat} {rk k o kk n : Nat} {v w u : Nat → Nat → Int32} {x y : Int32} {se : Int64}
theorem ag_refl : AgR rk v v := fun _ _ _ _ => rfl
theorem ag_symm (h : AgR rk v w) : AgR rk w v := fun f j hf hj => (h f j hf hj).symm
theorem ag_trans (h : AgR rk v w) (h2 : AgR rk w u) : AgR rk v u := fun f j hf hj => (h f j hf hj).trans (h2 f j hf hj)
theorem ag_up2 {f : Nat} (h : AgR rk v w) (hx : x = y) : AgR rk (up2 v f k x) (up2 w f k y) := by
  intro g j hg hj
  rw [up2_at, up2_at, hx, h g j hg hj]
theorem ag_take (h : AgR rk v w) (hk : k < rk) : AgR rk (takeV kk v k o) (takeV kk w k o) := by
  unfold takeV
  rw [h 0 k (by decide) hk, h 2 k (by decide) hk]
  exact ag_up2 (ag_up2 (ag_up2 h rfl) rfl) rfl
theorem ag_tell (h : AgR rk v w) (hk : k < rk) : AgR rk (tellV kk v k o) (tellV kk w k o) := by
  unfold tellV
  rw [h 6 k (by decide) hk]
  by_cases c : w 6 k = 0
  · rw [if_pos c, if_pos c]; exact ag_take h hk
  · rw [if_neg c, if_neg c]; exact ag_up2 h rfl
theorem ag_tellR (h : AgR rk v w) (hk : k < rk) : tellR kk v k o = tellR kk w k o := tellR_eq (h 6 k (by decide) hk)
theorem ag_give (h : AgR rk v w) (hk : 0 < rk) : AgR rk (giveV kk v o) (giveV kk w o) := ag_up2 (ag_tell h hk) (ag_tellR h hk)
theorem ag_step (h : AgR rk v w) (hk : k < rk) : AgR rk (stepM kd tn k (v, se)).1 (stepM kd tn k (w, se)).1 ∧ (stepM kd tn k (v, se)).2 = (stepM kd tn k (w, se)).2 := by
  have e := h 5 (k - 1) (by decide) (by omega)
  unfold stepM
  simp only [e]
  by_cases c : w 5 (k - 1) = -9
  · rw [if_pos c, if_pos c]
    exact ⟨ag_up2 h rfl, rfl⟩
  · rw [if_neg c, if_neg c]
    exact ⟨ag_up2 (ag_tell h hk) (ag_tellR h hk), rfl⟩
theorem ag_proc (h : AgR rk v w) : ∀ n, n ≤ rk - 1 → AgR rk (procM kd tn rk n (v, se)).1 (procM kd tn rk n (w, se)).1 ∧ (procM kd tn rk n (v, se)).2 = (procM kd tn rk n (w, se)).2
  | 0, _ => ⟨h, rfl⟩
  | n + 1, hn => by
    have ih := ag_proc h n (by omega)
    rw [procM, procM]
    generalize procM kd tn rk n (v, se) = a at ih ⊢
    generalize procM kd tn rk n (w, se) = b at ih ⊢
    obtain ⟨a1, a2⟩ := a
    obtain ⟨b1, b2⟩ := b
    obtain ⟨i1, i2⟩ := ih
    have i2 : a2 = b2 := i2
    subst i2
    exact ag_step i1 (by omega)
theorem ag_walk (h : AgR rk v w) (hn : n < rk) : AgR rk (walkV v n) (walkV w n) := by
  unfold walkV
  rw [h 2 n (by decide) hn, h 3 n (by decide) hn, h 4 n (by decide) hn]
  by_cases c1 : w 2 n = nI 1
  · rw [if_pos c1, if_pos c1]; exact ag_up2 h rfl
  · rw [if_neg c1, if_neg c1]
    by_cases c2 : w 2 n = nI 2
    · rw [if_pos c2, if_pos c2]; exact ag_up2 h rfl
    · rw [if_neg c2, if_neg c2]
      by_cases c3 : w 2 n = nI 3
      · rw [if_pos c3, if_pos c3]; exact ag_up2 h rfl
      · rw [if_neg c3, if_neg c3]; exact h
theorem ag_wk (h : AgR rk v w) : ∀ n, n ≤ rk → AgR rk (wkV v n) (wkV w n)
  | 0, _ => h
  | n + 1, hn => ag_walk (ag_wk h n (by omega)) (by omega)
theorem ag_min (h : AgR rk v w) : AgR rk (minV kd tn rk v se) (minV kd tn rk w se) := ag_wk (ag_up2 (ag_proc h (rk - 1) (Nat.le_refl _)).1 rfl) rk (Nat.le_refl _)
theorem ag_minS (h : AgR rk v w) : minS kd tn rk v se = minS kd tn rk w se := (ag_proc h (rk - 1) (Nat.le_refl _)).2
theorem ag_bug (h : AgR rk v w) : ∀ n, n ≤ rk → AgR rk (bugV kd v n) (bugV kd w n) ∧ bugN kd v n = bugN kd w n
  | 0, _ => ⟨h, rfl⟩
  | n + 1, hn => by
    have ih := ag_bug h n (by omega)
    rw [bugV, bugV, bugN, bugN, ih.1 6 n (by decide) (by omega), ih.2]
    by_cases c : bugV kd w n 6 n = 0
    · simp only [if_pos c]; exact ⟨ag_take ih.1 (by omega), trivial⟩
    · simp only [if_neg c]; exact ⟨ih.1, trivial⟩
theorem ag_slp (h : AgR rk v w) : ∀ n, n ≤ rk → slpI v n = slpI w n
  | 0, _ => rfl
  | n + 1, hn => by rw [slpI, slpI, ag_slp h n (by omega), h 6 n (by decide) (by omega)]
theorem ag_hrs (h : AgR rk v w) : ∀ n, n ≤ rk → hrsI v n = hrsI w n
  | 0, _ => rfl
  | n + 1, hn => by rw [hrsI, hrsI, ag_hrs h n (by omega), h 5 n (by decide) (by omega)]
theorem ag_ok (h : AgR rk v w) (hs : SceneOk rk v) : SceneOk rk w := fun j hj => by
  rw [← h 5 j (by decide) hj, ← h 6 j (by decide) hj]; exact hs j hj
theorem min_50 : minV kd tn rk v se 5 0 = -9 := by
  unfold minV
  rw [(wkV_5 rk).1, up2_at, if_pos ⟨rfl, rfl⟩]
theorem give_60 : giveV kk v o 6 0 = 0 := by
  unfold giveV
  rw [up2_at, if_neg (by decide)]
  unfold tellV takeV
  by_cases c : v 6 0 = 0
  · rw [if_pos c]; simp [up2_at, c]
  · rw [if_neg c, up2_at, if_pos ⟨rfl, rfl⟩]; rfl
theorem ag_drL {w1 n1 : Nat} (h : AgR rk v w) (hr : 0 < rk) : ∀ i, AgR rk (drL kd tn rk w1 n1 i (v, se)).1 (drL kd tn rk w1 n1 i (w, se)).1 ∧ (drL kd tn rk w1 n1 i (v, se)).2 = (drL kd tn rk w1 n1 i (w, se)).2
  | 0 => ⟨h, rfl⟩
  | i + 1 => by
    have ih := ag_drL (w1 := w1) (n1 := n1) h hr i
    rw [drL, drL, ih.2]
    exact ⟨ag_min (ag_give ih.1 hr), ag_minS (ag_give ih.1 hr)⟩
theorem ag_drM {s : Int64} (h : AgR rk v w) : ∀ i, AgR rk (drM kd tn rk i (v, s)).1 (drM kd tn rk i (w, s)).1 ∧ (drM kd tn rk i (v, s)).2 = (drM kd tn rk i (w, s)).2
  | 0 => ⟨h, rfl⟩
  | i + 1 => by
    have ih := ag_drM (s := s) h i
    rw [drM, drM, ih.2]
    exact ⟨ag_min ih.1, ag_minS ih.1⟩
theorem ag_drR (h : AgR rk v w) (hk : k < rk) : drR k v = drR k w := by
  unfold drR
  rw [h 3 k (by decide) hk, h 4 k (by decide) hk]
end
