/-! class Reader: the text as a walk of states -/
abbrev RS : Type := Nat × Nat × Nat × Nat × Nat × Nat × (Nat → Nat) × (Nat → Nat)
noncomputable def pO (P : Prop) (a : Option RS) : Option RS := @ite (Option RS) P (Classical.propDecidable P) a none
theorem pO_some {P : Prop} {a : RS} {b : RS} : pO P (some a) = some b ↔ P ∧ a = b := by
  unfold pO
  by_cases h : P
  · rw [if_pos h]; exact ⟨fun z => ⟨h, Option.some.inj z⟩, fun z => congrArg some z.2⟩
  · rw [if_neg h]; exact ⟨fun z => absurd z (by simp), fun z => absurd z.1 h⟩
noncomputable def dl (c : Nat) : RS → Option RS := fun s9 => match s9 with
  | (stp, wy, tq, ho, rk, sl, kd, tn) =>
    if stp = 0 then pO (c = 72) (some (1, wy, tq, ho, rk, sl, kd, tn))
    else if stp = 1 then (if c = 82 then pO (rk < 7) (some (2, wy, tq, ho, rk, sl, kd, tn)) else pO (c = 83 ∧ 1 < rk ∧ sl < 9) (some (3, wy, tq, ho, rk, sl, kd, tn)))
    else if stp = 2 then pO (kindN c < 4) (some (1, wy, tq, ho, rk + 1, sl, va_up kd rk (kindN c), tn))
    else if stp = 3 then pO (48 < c ∧ c < 48 + rk) (some (4, c - 48, tq, ho, rk, sl, kd, tn))
    else if stp = 4 then pO (48 ≤ c ∧ c < 53 ∧ canSl tn wy (c - 48)) (some (5, wy, c - 48, ho, rk, sl, kd, tn))
    else if stp = 5 then pO (48 ≤ c ∧ c < 53 ∧ ¬ c - 48 = tq ∧ slT tn wy tq (c - 48) = 0) (some (6, wy, tq, c - 48, rk, sl, kd, tn))
    else pO (48 < c ∧ c < 58 ∧ c - 48 + sumN (slT tn wy tq) 5 ≤ 10) (some (1, wy, tq, ho, rk, sl + 1, kd, va_up tn ((wy * 5 + tq) * 5 + ho) (c - 48)))
def RSim (s9 : RS) (stp : Nat) (wy tq ho : Int32) (kd tn : Nat → Nat) (rk sl : Nat) : Prop :=
  s9.1 = stp ∧ (4 ≤ stp → wy = nI s9.2.1) ∧ (5 ≤ stp → tq = nI s9.2.2.1) ∧ (6 ≤ stp → ho = nI s9.2.2.2.1) ∧ s9.2.2.2.2.1 = rk ∧ s9.2.2.2.2.2.1 = sl ∧ (∀ k, k < rk → kd k = s9.2.2.2.2.2.2.1 k) ∧ ∀ i, i < 175 → tn i = s9.2.2.2.2.2.2.2 i
def RInv (s9 : RS) : Prop :=
  s9.1 ≤ 6 ∧ s9.2.2.2.2.1 ≤ 7 ∧ (s9.1 = 2 → s9.2.2.2.2.1 < 7) ∧ (4 ≤ s9.1 → 0 < s9.2.1 ∧ s9.2.1 < s9.2.2.2.2.1) ∧ (5 ≤ s9.1 → s9.2.2.1 < 5) ∧ (6 ≤ s9.1 → s9.2.2.2.1 < 5 ∧ slT s9.2.2.2.2.2.2.2 s9.2.1 s9.2.2.1 s9.2.2.2.1 = 0) ∧ (∀ i, i < 175 → s9.2.2.2.2.2.2.2 i < 10) ∧ (∀ k u, k < 7 → u < 5 → sumN (slT s9.2.2.2.2.2.2.2 k u) 5 ≤ 10) ∧ s9.2.2.2.2.2.1 ≤ 9 ∧ (3 ≤ s9.1 → s9.2.2.2.2.2.1 < 9) ∧ (∀ k, k < s9.2.2.2.2.1 → s9.2.2.2.2.2.2.1 k < 4)
def RS0 : RS := (0, 0, 0, 0, 0, 0, fun _ => 0, fun _ => 0)
noncomputable def runN (tx : Nat → Nat) : Nat → Option RS
  | 0 => some RS0
  | n + 1 => (runN tx n).bind (dl (tx n))
def FaultIs (tx : Nat → Nat) (ln : Nat) (res : Int32) : Prop := (∃ p, p < ln ∧ (∃ s9, runN tx p = some s9) ∧ runN tx (p + 1) = none ∧ res = nI p) ∨ ∃ s9, runN tx ln = some s9 ∧ res = if s9.1 = 1 then -9 else nI ln
theorem nI_ne9 {p : Nat} (h : p < 2147483648) : ¬ nI p = -9 := by
  intro z
  have h1 := nI_toInt (n := p) h
  rw [z] at h1
  have h2 : (-9 : Int32).toInt = -9 := by decide
  omega
theorem st_six {s : Nat} (h : s ≤ 6) (h0 : ¬ nI s = nI 0) (h1 : ¬ nI s = nI 1) (h2 : ¬ nI s = nI 2) (h3 : ¬ nI s = nI 3) (h4 : ¬ nI s = nI 4) (h5 : ¬ nI s = nI 5) : s = 6 := by
  have n0 : ¬ s = 0 := fun z => h0 (by rw [z])
  have n1 : ¬ s = 1 := fun z => h1 (by rw [z])
  have n2 : ¬ s = 2 := fun z => h2 (by rw [z])
  have n3 : ¬ s = 3 := fun z => h3 (by rw [z])
  have n4 : ¬ s = 4 := fun z => h4 (by rw [z])
  have n5 : ¬ s = 5 := fun z => h5 (by rw [z])
  omega
theorem fig_iff {c f : Nat} (hc : c < 256) (hf : f < 256) : nI c - nI 48 = nI f ↔ c = f + 48 := by
  constructor
  · intro h
    have h1 := pk_sub_toInt (a := c) (b := 48) (by omega) (by omega)
    rw [h, nI_toInt (by omega)] at h1
    omega
  · intro h
    rw [pk_sub (by omega), show c - 48 = f by omega]
theorem slT_congr {tn tm : Nat → Nat} {k u v : Nat} (h : ∀ i, i < 175 → tn i = tm i) (hk : k < 7) (hu : u < 5) (hv : v < 5) : slT tn k u v = slT tm k u v := h _ (by omega)
theorem sim_sum {tn tm : Nat → Nat} {k u : Nat} (h : ∀ i, i < 175 → tn i = tm i) (hk : k < 7) (hu : u < 5) : sumN (slT tn k u) 5 = sumN (slT tm k u) 5 := sumN_congr (fun i hi => slT_congr h hk hu hi)
theorem sim_lt {tn tm : Nat → Nat} (h : ∀ i, i < 175 → tn i = tm i) (h2 : ∀ i, i < 175 → tm i < 10) : ∀ i, i < 175 → tn i < 10 := fun i hi => by rw [h i hi]; exact h2 i hi
theorem canSl_congr {tn tm : Nat → Nat} {k u : Nat} (h : ∀ i, i < 175 → tn i = tm i) (hk : k < 7) (hu : u < 5) : canSl tn k u ↔ canSl tm k u := by
  unfold canSl
  rw [sim_sum h hk hu]
  refine and_congr_right (fun _ => exists_congr (fun v => and_congr_right (fun hv => and_congr_right (fun _ => ?_))))
  rw [slT_congr h hk hu hv]
section
variable {c stp wy tq ho rk sl : Nat} {kd tn : Nat → Nat} {wI qI hI : Int32} {kI tI : Nat → Nat} {rI lI : Nat} {s9 : RS}
theorem dl0_no (h : ¬ c = 72) : ¬ dl c (0, wy, tq, ho, rk, sl, kd, tn) = some s9 := fun z => h (pO_some.mp z).1
theorem dl0_yes : dl 72 (0, wy, tq, ho, rk, sl, kd, tn) = some (1, wy, tq, ho, rk, sl, kd, tn) := pO_some.mpr ⟨rfl, rfl⟩
theorem dl0_sim (h : RSim (0, wy, tq, ho, rk, sl, kd, tn) 0 wI qI hI kI tI rI lI) (z : dl 72 (0, wy, tq, ho, rk, sl, kd, tn) = some s9) : RSim s9 1 wI qI hI kI tI rI lI := by
  obtain ⟨-, rfl⟩ := pO_some.mp z
  exact ⟨rfl, fun k => absurd k (by decide), fun k => absurd k (by decide), fun k => absurd k (by decide), h.2.2.2.2⟩
theorem dl1_iff (h : RSim (1, wy, tq, ho, rk, sl, kd, tn) 1 wI qI hI kI tI rI lI) : (∃ s9, dl c (1, wy, tq, ho, rk, sl, kd, tn) = some s9) ↔ ((c = 82 ∧ rk < 7) ∨ (c = 83 ∧ 1 < rk ∧ sl < 9)) := by
  show (∃ s9, (if c = 82 then pO (rk < 7) (some (2, wy, tq, ho, rk, sl, kd, tn)) else pO (c = 83 ∧ 1 < rk ∧ sl < 9) (some (3, wy, tq, ho, rk, sl, kd, tn))) = some s9) ↔ _
  by_cases e : c = 82
  · rw [if_pos e]
    exact ⟨fun ⟨s9, z⟩ => Or.inl ⟨e, (pO_some.mp z).1⟩, fun z => ⟨_, pO_some.mpr ⟨by omega, rfl⟩⟩⟩
  · rw [if_neg e]
    exact ⟨fun ⟨s9, z⟩ => Or.inr (pO_some.mp z).1, fun z => ⟨_, pO_some.mpr ⟨by omega, rfl⟩⟩⟩
theorem dl1_sim (h : RSim (1, wy, tq, ho, rk, sl, kd, tn) 1 wI qI hI kI tI rI lI) : ∀ s9, dl c (1, wy, tq, ho, rk, sl, kd, tn) = some s9 → RSim s9 (if c = 82 then 2 else 3) wI qI hI kI tI rI lI := by
  intro s9 z
  have z : (if c = 82 then pO (rk < 7) (some (2, wy, tq, ho, rk, sl, kd, tn)) else pO (c = 83 ∧ 1 < rk ∧ sl < 9) (some (3, wy, tq, ho, rk, sl, kd, tn))) = some s9 := z
  by_cases e : c = 82
  · rw [if_pos e] at z ⊢
    obtain ⟨-, rfl⟩ := pO_some.mp z
    exact ⟨rfl, fun k => absurd k (by decide), fun k => absurd k (by decide), fun k => absurd k (by decide), h.2.2.2.2⟩
  · rw [if_neg e] at z ⊢
    obtain ⟨-, rfl⟩ := pO_some.mp z
    exact ⟨rfl, fun k => absurd k (by decide), fun k => absurd k (by decide), fun k => absurd k (by decide), h.2.2.2.2⟩
theorem dl2_iff (h : RSim (2, wy, tq, ho, rk, sl, kd, tn) 2 wI qI hI kI tI rI lI) : (∃ s9, dl c (2, wy, tq, ho, rk, sl, kd, tn) = some s9) ↔ kindN c < 4 :=
  ⟨fun ⟨s9, z⟩ => (pO_some.mp z).1, fun z => ⟨_, pO_some.mpr ⟨z, rfl⟩⟩⟩
theorem dl2_sim {st1 rk1 : Nat} {kd1 : Nat → Nat} (h : RSim (2, wy, tq, ho, rk, sl, kd, tn) 2 wI qI hI kI tI rI lI) (hw : (kindN c < 4 → st1 = 1 ∧ rk1 = rI + 1 ∧ kd1 = va_up kI rI (kindN c)) ∧ (¬ kindN c < 4 → kd1 = kI)) : ∀ s9, dl c (2, wy, tq, ho, rk, sl, kd, tn) = some s9 → RSim s9 st1 wI qI hI kd1 tI rk1 lI := by
  intro s9 z
  obtain ⟨hk, rfl⟩ := pO_some.mp z
  obtain ⟨rfl, rfl, rfl⟩ := hw.1 hk
  obtain ⟨-, -, -, -, h5, h6, h7, h8⟩ := h
  refine ⟨rfl, fun k => absurd k (by decide), fun k => absurd k (by decide), fun k => absurd k (by decide), by rw [← h5], h6, fun k hk => ?_, h8⟩
  have h5 : rk = rI := h5
  subst h5
  show va_up kI rk (kindN c) k = va_up kd rk (kindN c) k
  by_cases e : k = rk
  · rw [e, va_up_self, va_up_self]
  · rw [va_up_ne _ _ e, va_up_ne _ _ e]; exact h7 k (by omega)
theorem dl2_kd {st1 rk1 : Nat} {kd1 : Nat → Nat} (hw : (kindN c < 4 → st1 = 1 ∧ rk1 = rI + 1 ∧ kd1 = va_up kI rI (kindN c)) ∧ (¬ kindN c < 4 → kd1 = kI)) (hr : rI < 7) (h4 : ∀ k, k < 7 → kI k < 4) : ∀ k, k < 7 → kd1 k < 4 := by
  intro k hk
  by_cases e : kindN c < 4
  · rw [(hw.1 e).2.2]
    by_cases q : k = rI
    · rw [q, va_up_self]; exact e
    · rw [va_up_ne _ _ q]; exact h4 k hk
  · rw [hw.2 e]; exact h4 k hk
theorem dl3_iff (hc : c < 256) (h : RSim (3, wy, tq, ho, rk, sl, kd, tn) 3 wI qI hI kI tI rk lI) (hi : RInv (3, wy, tq, ho, rk, sl, kd, tn)) : (∃ s9, dl c (3, wy, tq, ho, rk, sl, kd, tn) = some s9) ↔ ∃ f, 0 < f ∧ f < rk ∧ nI c - nI 48 = nI f := by
  have h7 : rk ≤ 7 := hi.2.1
  constructor
  · rintro ⟨s9, z⟩
    obtain ⟨h1, -⟩ := pO_some.mp z
    exact ⟨c - 48, by omega, by omega, (fig_iff hc (by omega)).mpr (by omega)⟩
  · rintro ⟨f, h1, h2, h3⟩
    have h4 := (fig_iff hc (by omega)).mp h3
    exact ⟨_, pO_some.mpr ⟨by omega, rfl⟩⟩
theorem dl3_sim (hc : c < 256) (h : RSim (3, wy, tq, ho, rk, sl, kd, tn) 3 wI qI hI kI tI rI lI) : ∀ s9, dl c (3, wy, tq, ho, rk, sl, kd, tn) = some s9 → RSim s9 4 (nI c - nI 48) qI hI kI tI rI lI := by
  intro s9 z
  obtain ⟨h1, rfl⟩ := pO_some.mp z
  exact ⟨rfl, fun _ => (fig_iff (f := c - 48) hc (by omega)).mpr (by omega), fun k => absurd k (by decide), fun k => absurd k (by decide), h.2.2.2.2⟩
theorem dl4_iff (hc : c < 256) (h : RSim (4, wy, tq, ho, rk, sl, kd, tn) 4 wI qI hI kI tI rI lI) (hi : RInv (4, wy, tq, ho, rk, sl, kd, tn)) : (∃ s9, dl c (4, wy, tq, ho, rk, sl, kd, tn) = some s9) ↔ ∃ u, u < 5 ∧ nI c - nI 48 = nI u ∧ canSl tI wy u := by
  have h7 : rk ≤ 7 := hi.2.1
  have h4 : 0 < wy ∧ wy < rk := hi.2.2.2.1 (Nat.le_refl 4)
  have h8 : ∀ i, i < 175 → tI i = tn i := h.2.2.2.2.2.2.2
  constructor
  · rintro ⟨s9, z⟩
    obtain ⟨h1, -⟩ := pO_some.mp z
    exact ⟨c - 48, by omega, (fig_iff hc (by omega)).mpr (by omega), (canSl_congr h8 (by omega) (by omega)).mpr h1.2.2⟩
  · rintro ⟨f, h1, h2, h3⟩
    have h5 := (fig_iff hc (by omega)).mp h2
    exact ⟨_, pO_some.mpr ⟨⟨by omega, by omega, by rw [show c - 48 = f by omega]; exact (canSl_congr h8 (by omega) (by omega)).mp h3⟩, rfl⟩⟩
theorem dl4_sim (hc : c < 256) (h : RSim (4, wy, tq, ho, rk, sl, kd, tn) 4 wI qI hI kI tI rI lI) : ∀ s9, dl c (4, wy, tq, ho, rk, sl, kd, tn) = some s9 → RSim s9 5 wI (nI c - nI 48) hI kI tI rI lI := by
  intro s9 z
  obtain ⟨h1, rfl⟩ := pO_some.mp z
  exact ⟨rfl, fun _ => h.2.1 (Nat.le_refl 4), fun _ => (fig_iff (f := c - 48) hc (by omega)).mpr (by omega), fun k => absurd k (by decide), h.2.2.2.2⟩
theorem dl5_iff (hc : c < 256) (h : RSim (5, wy, tq, ho, rk, sl, kd, tn) 5 wI qI hI kI tI rI lI) (hi : RInv (5, wy, tq, ho, rk, sl, kd, tn)) : (∃ s9, dl c (5, wy, tq, ho, rk, sl, kd, tn) = some s9) ↔ ∃ v, v < 5 ∧ nI c - nI 48 = nI v ∧ ¬ v = tq ∧ slT tI wy tq v = 0 := by
  have h7 : rk ≤ 7 := hi.2.1
  have h4 : 0 < wy ∧ wy < rk := hi.2.2.2.1 (show 4 ≤ 5 by decide)
  have h5 : tq < 5 := hi.2.2.2.2.1 (show 5 ≤ 5 by decide)
  have h8 : ∀ i, i < 175 → tI i = tn i := h.2.2.2.2.2.2.2
  constructor
  · rintro ⟨s9, z⟩
    obtain ⟨h1, -⟩ := pO_some.mp z
    exact ⟨c - 48, by omega, (fig_iff hc (by omega)).mpr (by omega), h1.2.2.1, by rw [slT_congr h8 (by omega) h5 (by omega)]; exact h1.2.2.2⟩
  · rintro ⟨f, h1, h2, h3, h6⟩
    have h9 := (fig_iff hc (by omega)).mp h2
    exact ⟨_, pO_some.mpr ⟨⟨by omega, by omega, by omega, by rw [show c - 48 = f by omega, ← slT_congr h8 (by omega) h5 h1]; exact h6⟩, rfl⟩⟩
theorem dl5_sim (hc : c < 256) (h : RSim (5, wy, tq, ho, rk, sl, kd, tn) 5 wI qI hI kI tI rI lI) : ∀ s9, dl c (5, wy, tq, ho, rk, sl, kd, tn) = some s9 → RSim s9 6 wI qI (nI c - nI 48) kI tI rI lI := by
  intro s9 z
  obtain ⟨h1, rfl⟩ := pO_some.mp z
  exact ⟨rfl, fun _ => h.2.1 (by decide), fun _ => h.2.2.1 (by decide), fun _ => (fig_iff (f := c - 48) hc (by omega)).mpr (by omega), h.2.2.2.2⟩
theorem dl6_iff (hc : c < 256) (h : RSim (6, wy, tq, ho, rk, sl, kd, tn) 6 wI qI hI kI tI rI lI) (hi : RInv (6, wy, tq, ho, rk, sl, kd, tn)) : (∃ s9, dl c (6, wy, tq, ho, rk, sl, kd, tn) = some s9) ↔ ∃ t, 0 < t ∧ t < 10 ∧ nI c - nI 48 = nI t ∧ t + sumN (slT tI wy tq) 5 ≤ 10 := by
  have h7 : rk ≤ 7 := hi.2.1
  have h4 : 0 < wy ∧ wy < rk := hi.2.2.2.1 (show 4 ≤ 6 by decide)
  have h5 : tq < 5 := hi.2.2.2.2.1 (show 5 ≤ 6 by decide)
  have h8 : ∀ i, i < 175 → tI i = tn i := h.2.2.2.2.2.2.2
  rw [sim_sum h8 (show wy < 7 by omega) h5]
  constructor
  · rintro ⟨s9, z⟩
    obtain ⟨h1, -⟩ := pO_some.mp z
    exact ⟨c - 48, by omega, by omega, (fig_iff hc (by omega)).mpr (by omega), h1.2.2⟩
  · rintro ⟨f, h1, h2, h3, h6⟩
    have h9 := (fig_iff hc (by omega)).mp h3
    exact ⟨_, pO_some.mpr ⟨by omega, rfl⟩⟩
theorem dl6_sim {st1 sl1 : Nat} {tn1 : Nat → Nat} (hc : c < 256) (h : RSim (6, wy, tq, ho, rk, sl, kd, tn) 6 wI qI hI kI tI rI lI) (hi : RInv (6, wy, tq, ho, rk, sl, kd, tn)) (hw : ∀ t, 0 < t → t < 10 → nI c - nI 48 = nI t → t + sumN (slT tI wy tq) 5 ≤ 10 → st1 = 1 ∧ sl1 = lI + 1 ∧ tn1 = va_up tI ((wy * 5 + tq) * 5 + ho) t) : ∀ s9, dl c (6, wy, tq, ho, rk, sl, kd, tn) = some s9 → RSim s9 st1 wI qI hI kI tn1 rI sl1 := by
  intro s9 z
  have h7 : rk ≤ 7 := hi.2.1
  have h4 : 0 < wy ∧ wy < rk := hi.2.2.2.1 (show 4 ≤ 6 by decide)
  have h5 : tq < 5 := hi.2.2.2.2.1 (show 5 ≤ 6 by decide)
  obtain ⟨-, -, -, -, e5, e6, e7, e8⟩ := h
  have e6 : sl = lI := e6
  have h8 : ∀ i, i < 175 → tI i = tn i := e8
  obtain ⟨h1, rfl⟩ := pO_some.mp z
  obtain ⟨rfl, rfl, rfl⟩ := hw (c - 48) (by omega) (by omega) ((fig_iff hc (by omega)).mpr (by omega)) (by rw [sim_sum h8 (show wy < 7 by omega) h5]; exact h1.2.2)
  refine ⟨rfl, fun k => absurd k (by decide), fun k => absurd k (by decide), fun k => absurd k (by decide), e5, by rw [← e6], e7, fun i hi => ?_⟩
  show va_up tI _ _ i = va_up tn _ _ i
  by_cases e : i = (wy * 5 + tq) * 5 + ho
  · rw [e, va_up_self, va_up_self]
  · rw [va_up_ne _ _ e, va_up_ne _ _ e]; exact h8 i hi
end
theorem slT_up {tn : Nat → Nat} {k u v t a b d : Nat} (hu : u < 5) (hv : v < 5) (hb : b < 5) (hd : d < 5) : slT (va_up tn ((k * 5 + u) * 5 + v) t) a b d = if a = k ∧ b = u ∧ d = v then t else slT tn a b d := by
  unfold slT
  by_cases e : a = k ∧ b = u ∧ d = v
  · rw [if_pos e, e.1, e.2.1, e.2.2, va_up_self]
  · rw [if_neg e, va_up_ne]
    omega
theorem sum5 (f : Nat → Nat) : sumN f 5 = f 0 + f 1 + f 2 + f 3 + f 4 := by simp [sumN]
theorem sum_up {tn : Nat → Nat} {k u v t a b : Nat} (hu : u < 5) (hv : v < 5) (hb : b < 5) (h0 : slT tn k u v = 0) : sumN (slT (va_up tn ((k * 5 + u) * 5 + v) t) a b) 5 = if a = k ∧ b = u then sumN (slT tn a b) 5 + t else sumN (slT tn a b) 5 := by
  rw [sum5, sum5, slT_up hu hv hb (by decide), slT_up hu hv hb (by decide), slT_up hu hv hb (by decide), slT_up hu hv hb (by decide), slT_up hu hv hb (by decide)]
  by_cases e : a = k ∧ b = u
  · rw [if_pos e]
    obtain ⟨rfl, rfl⟩ := e
    rcases (show v = 0 ∨ v = 1 ∨ v = 2 ∨ v = 3 ∨ v = 4 by omega) with rfl | rfl | rfl | rfl | rfl <;> simp [h0] <;> omega
  · rw [if_neg e]
    have n : ∀ d, ¬ (a = k ∧ b = u ∧ d = v) := fun d z => e ⟨z.1, z.2.1⟩
    rw [if_neg (n 0), if_neg (n 1), if_neg (n 2), if_neg (n 3), if_neg (n 4)]
theorem dl_inv {c : Nat} {s8 s9 : RS} (hi : RInv s8) (z : dl c s8 = some s9) : RInv s9 := by
  obtain ⟨stp, wy, tq, ho, rk, sl, kd, tn⟩ := s8
  obtain ⟨i1, i2, i3, i4, i5, i6, i7, i8, i9, i10, i11⟩ := hi
  simp only at i1 i2 i3 i4 i5 i6 i7 i8 i9 i10 i11
  rcases (show stp = 0 ∨ stp = 1 ∨ stp = 2 ∨ stp = 3 ∨ stp = 4 ∨ stp = 5 ∨ stp = 6 by omega) with rfl | rfl | rfl | rfl | rfl | rfl | rfl
  · obtain ⟨h, rfl⟩ := pO_some.mp z
    exact ⟨by simp, i2, by simp, by simp, by simp, by simp, i7, i8, i9, by simp, i11⟩
  · have z : (if c = 82 then pO (rk < 7) (some (2, wy, tq, ho, rk, sl, kd, tn)) else pO (c = 83 ∧ 1 < rk ∧ sl < 9) (some (3, wy, tq, ho, rk, sl, kd, tn))) = some s9 := z
    by_cases e : c = 82
    · rw [if_pos e] at z
      obtain ⟨h, rfl⟩ := pO_some.mp z
      exact ⟨by simp, i2, fun _ => h, by simp, by simp, by simp, i7, i8, i9, by simp, i11⟩
    · rw [if_neg e] at z
      obtain ⟨h, rfl⟩ := pO_some.mp z
      exact ⟨by simp, i2, by simp, by simp, by simp, by simp, i7, i8, i9, fun _ => h.2.2, i11⟩
  · obtain ⟨h, rfl⟩ := pO_some.mp z
    have hr := i3 rfl
    refine ⟨by simp, by show rk + 1 ≤ 7; omega, by simp, by simp, by simp, by simp, i7, i8, i9, by simp, fun k hk => ?_⟩
    show va_up kd rk (kindN c) k < 4
    have hk : k < rk + 1 := hk
    by_cases e : k = rk
    · rw [e, va_up_self]; exact h
    · rw [va_up_ne _ _ e]; exact i11 k (by omega)
  · obtain ⟨h, rfl⟩ := pO_some.mp z
    exact ⟨by simp, i2, by simp, fun _ => ⟨by show 0 < c - 48; omega, by show c - 48 < rk; omega⟩, by simp, by simp, i7, i8, i9, fun _ => i10 (by decide), i11⟩
  · obtain ⟨h, rfl⟩ := pO_some.mp z
    exact ⟨by simp, i2, by simp, fun _ => i4 (by decide), fun _ => by show c - 48 < 5; omega, by simp, i7, i8, i9, fun _ => i10 (by decide), i11⟩
  · obtain ⟨h, rfl⟩ := pO_some.mp z
    exact ⟨by simp, i2, by simp, fun _ => i4 (by decide), fun _ => i5 (by decide), fun _ => ⟨by show c - 48 < 5; omega, h.2.2.2⟩, i7, i8, i9, fun _ => i10 (by decide), i11⟩
  · obtain ⟨h, rfl⟩ := pO_some.mp z
    have j4 := i4 (by decide)
    have j5 := i5 (by decide)
    have j6 := i6 (by decide)
    have j10 := i10 (by decide)
    refine ⟨by simp, i2, by simp, by simp, by simp, by simp, fun i hi => ?_, fun k u hk hu => ?_, by show sl + 1 ≤ 9; omega, by simp, i11⟩
    · show va_up tn ((wy * 5 + tq) * 5 + ho) (c - 48) i < 10
      by_cases e : i = (wy * 5 + tq) * 5 + ho
      · rw [e, va_up_self]; omega
      · rw [va_up_ne _ _ e]; exact i7 i hi
    · show sumN (slT (va_up tn ((wy * 5 + tq) * 5 + ho) (c - 48)) k u) 5 ≤ 10
      rw [sum_up j5 j6.1 hu j6.2]
      split
      · rename_i e
        rw [e.1, e.2]
        omega
      · exact i8 k u hk hu
theorem RInv_0 : RInv RS0 := by
  refine ⟨by decide, by decide, by simp [RS0], by simp [RS0], by simp [RS0], by simp [RS0], fun i _ => by show 0 < 10; decide, fun k u _ _ => ?_, by decide, by simp [RS0], fun k hk => absurd hk (Nat.not_lt_zero _)⟩
  rw [sum5]
  exact Nat.zero_le _
theorem run_inv {tx : Nat → Nat} : ∀ {n : Nat} {s9 : RS}, runN tx n = some s9 → RInv s9
  | 0, s9, h => by cases h; exact RInv_0
  | n + 1, s9, h => by
    rw [runN] at h
    cases e : runN tx n with
    | none => rw [e] at h; cases h
    | some s8 => rw [e] at h; exact dl_inv (run_inv e) h
theorem run_none {tx : Nat → Nat} {p : Nat} {s8 : RS} (h : runN tx p = some s8) (hn : ¬ ∃ s9, dl (tx p) s8 = some s9) : runN tx (p + 1) = none := by
  rw [runN, h]
  show dl (tx p) s8 = none
  cases e : dl (tx p) s8 with
  | none => rfl
  | some s9 => exact absurd ⟨s9, e⟩ hn
theorem RSim_0 {t : Nat → Nat} {wI qI hI : Int32} {kI : Nat → Nat} (h : ∀ i, i < 175 → t i = 0) : RSim RS0 0 wI qI hI kI t 0 0 :=
  ⟨rfl, fun k => absurd k (by decide), fun k => absurd k (by decide), fun k => absurd k (by decide), rfl, rfl, fun k hk => absurd hk (Nat.not_lt_zero _), h⟩
set_option maxHeartbeats 4000000 in
set_option maxRecDepth 100000 in
theorem c_X3_takes {l : Launch} {G : va_G} {cI cJ cZ cS : ClassId} (g : Nat → Nat) (stp : Nat) (wy : Int32) (tq : Int32) (ho : Int32) (h : Nat → Nat) (kd : Nat → Nat) (tn : Nat → Nat) (rk : Nat) (sl : Nat) (ss : RS) (c : Nat) (hc : c < 256) (hsim : RSim ss stp wy tq ho kd tn rk sl) (hinv : RInv ss) (hk4 : ∀ k, k < 7 → kd k < 4) : CI l G (kT cI cJ cZ cS) (S := Nat × Int32 × Int32 × Int32 × Nat × Nat × (Nat → Nat) × (Nat → Nat)) yX3_takes wsX3_takes { frames := 5, cells := 0, slots := 0, locals := 113 } [.ref (g 0), .int (nI c)] [(g 0, .inr (3, [.ref (h 0), .int (nI stp), .int wy, .int tq, .int ho])), (h 0, .inr (1, [.ref (h 1), .ref (h 2), .int (nI rk), .int (nI sl)])), (h 1, .inl (cI, 7, .inl (fun i9 => nI (kd i9)))), (h 2, .inl (cI, 175, .inl (fun i9 => nI (tn i9))))] (fun res uu9 => match uu9 with | (st1, wy1, tq1, ho1, rk1, sl1, kd1, tn1) => res = bI (∃ s9, dl c ss = some s9) ∧ ((∀ s9, dl c ss = some s9 → RSim s9 st1 wy1 tq1 ho1 kd1 tn1 rk1 sl1) ∧ (∀ k, k < 7 → kd1 k < 4))) (fun uu9 => match uu9 with | (st1, wy1, tq1, ho1, rk1, sl1, kd1, tn1) => [(g 0, .inr (3, [.ref (h 0), .int (nI st1), .int wy1, .int tq1, .int ho1])), (h 0, .inr (1, [.ref (h 1), .ref (h 2), .int (nI rk1), .int (nI sl1)])), (h 1, .inl (cI, 7, .inl (fun i9 => nI (kd1 i9)))), (h 2, .inl (cI, 175, .inl (fun i9 => nI (tn1 i9))))]) := by
  refine CI.of (cc := cX3_takes) (maxL := 2) (by decide) rfl (Nat.le_of_ble_eq_true rfl) ?_
  intro p9 e9 s m below meth co9 A ls hB
  obtain ⟨hx, hb, hml, hr, hts, hown, hlocks, hmn, hK, hP, hD, hS, hA, hl⟩ := hB
  have hP : va_P G vwCl [(g 0, .inr (3, [.ref (h 0), .int (nI stp), .int wy, .int tq, .int ho])), (h 0, .inr (1, [.ref (h 1), .ref (h 2), .int (nI rk), .int (nI sl)])), (h 1, .inl (cI, 7, .inl (fun i9 => nI (kd i9)))), (h 2, .inl (cI, 175, .inl (fun i9 => nI (tn i9))))] s.heap := hP
  have hD : va_D A [(g 0, .inr (3, [.ref (h 0), .int (nI stp), .int wy, .int tq, .int ho])), (h 0, .inr (1, [.ref (h 1), .ref (h 2), .int (nI rk), .int (nI sl)])), (h 1, .inl (cI, 7, .inl (fun i9 => nI (kd i9)))), (h 2, .inl (cI, 175, .inl (fun i9 => nI (tn i9))))] := hD
  have hl : lv_has ls 2 [(0, .ref (g 0)), (1, .int (nI c))] := hl
  have k_0 := hts (.fieldLink RX3 18 "HearsayMarch$Reader" "step" "I") (by decide +kernel)
  have hin3 : ∀ w ∈ wsX30, w ∈ wsX3_takes := by decide +kernel
  obtain ⟨sst, swy, sto, sho, srk, ssl, skd, stn⟩ := ss
  obtain ⟨e1, e2, e3, e4, e5, e6, e7, e8⟩ := id hsim
  obtain ⟨i1, i2, i3, i4, i5, i6, i7, i8, i9, i10, i11⟩ := id hinv
  simp only at e1 e2 e3 e4 e5 e6 e7 e8 i1 i2 i3 i4 i5 i6 i7 i8 i9 i10 i11
  subst e1 e5 e6
  refine lv_aload_n hx hb dX3_takes_0 rfl (lv_at hl 0 rfl) ?_
  refine va_get (D := G) (ci := 3) (v := .int (nI sst)) (C := RX3) (T := TX3) (N := 5) hx hb hts hin3 hown hK.1 hP 0 rfl rfl 1 (by decide) k_0 (fun _ h9 => h9) rfl dX3_takes_1 ?_
  by_cases w_0 : nI sst = nI 0
  · skip
    have w_0 := (nI_eq (by omega) (by omega)).mp w_0
    subst w_0
    refine lv_tableIn (tgt := 44) (off := 40) hx hb dX3_takes_4 (by decide) (by decide) (by decide) (by decide) ?_
    refine lv_aload_n hx hb dX3_takes_44 rfl (lv_at hl 0 rfl) ?_
    refine lv_iconst (v := nI 1) hx hb dX3_takes_45 (by decide) ?_
    refine va_put (D := G) (ci := 3) (v := .int (nI 1)) (ty := tyX3 1) (C := RX3) (T := TX3) (N := 5) hx hb hts hin3 tyX3 tyX3_ok nmX3 hown hK.1 hP hD hS 0 rfl rfl 1 (by decide) k_0 (fun _ h9 => h9) rfl (by decide +kernel) rfl rfl (Nat.le_of_ble_eq_true rfl) dX3_takes_46 (fun H locs hP hD hS => ?_)
    have hP : va_P G vwCl [(g 0, .inr (3, [.ref (h 0), .int (nI 1), .int wy, .int tq, .int ho])), (h 0, .inr (1, [.ref (h 1), .ref (h 2), .int (nI srk), .int (nI ssl)])), (h 1, .inl (cI, 7, .inl (fun i9 => nI (kd i9)))), (h 2, .inl (cI, 175, .inl (fun i9 => nI (tn i9))))] _ := hP
    have hD : va_D A [(g 0, .inr (3, [.ref (h 0), .int (nI 1), .int wy, .int tq, .int ho])), (h 0, .inr (1, [.ref (h 1), .ref (h 2), .int (nI srk), .int (nI ssl)])), (h 1, .inl (cI, 7, .inl (fun i9 => nI (kd i9)))), (h 2, .inl (cI, 175, .inl (fun i9 => nI (tn i9))))] := hD
    refine lv_iload_n hx hb dX3_takes_49 rfl (lv_at hl 1 rfl) ?_
    refine lv_bipush (v := nI 72) hx hb dX3_takes_50 (by decide) ?_
    refine lv_icmp_ne (tgt := 59) hx hb dX3_takes_52 (by decide) (fun c_52 => ?_) (fun c_52 => ?_)
    · skip
      have c_52 := n_neT c_52 (by omega) (by omega)
      refine lv_iconst (v := nI 0) hx hb dX3_takes_59 (by decide) ?_
      exact endZ hx hb hr hlocks (rfl) ((1, wy, tq, ho, srk, ssl, kd, tn)) (⟨bI_n (fun z => by obtain ⟨s9, z⟩ := z; exact dl0_no c_52 z), ⟨fun s9 z => absurd z (dl0_no c_52), hk4⟩⟩) (hP.sub [0, 1, 2, 3] rfl) (hD.sub [0, 1, 2, 3] (by decide) rfl) hS dX3_takes_60
    · skip
      have c_52 := n_neF c_52 (by omega) (by omega)
      refine lv_iconst (v := nI 1) hx hb dX3_takes_55 (by decide) ?_
      refine lv_goto (tgt := 60) hx hb dX3_takes_56 (by decide) ?_
      exact endZ hx hb hr hlocks (rfl) ((1, wy, tq, ho, srk, ssl, kd, tn)) (⟨bI_y ⟨_, by rw [c_52]; exact dl0_yes⟩, ⟨fun s9 z => by rw [c_52] at z; exact dl0_sim hsim z, hk4⟩⟩) (hP.sub [0, 1, 2, 3] rfl) (hD.sub [0, 1, 2, 3] (by decide) rfl) hS dX3_takes_60
  by_cases w_1 : nI sst = nI 1
  · skip
    have w_1 := (nI_eq (by omega) (by omega)).mp w_1
    subst w_1
    refine lv_tableIn (tgt := 61) (off := 57) hx hb dX3_takes_4 (by decide) (by decide) (by decide) (by decide) ?_
    refine lv_aload_n hx hb dX3_takes_61 rfl (lv_at hl 0 rfl) ?_
    refine lv_iload_n hx hb dX3_takes_62 rfl (lv_at hl 1 rfl) ?_
    refine aft_i (wr := []) (va_runV (As := [.int (nI c)]) (rest := []) ⟨hx, hb, hml, hown, hts⟩ (c_X3_takesPart (g := g) (stp := 1) (wy := wy) (tq := tq) (ho := ho) (h := h) (kd := kd) (tn := tn) (rk := srk) (sl := ssl) (c := c) (hc := by first | assumption | omega | exact hok.1 _ (by omega) | exact hok.2.2 _ _ (by omega) (by omega) | exact hok.2.1) (hrk := by first | assumption | omega | exact hok.1 _ (by omega) | exact hok.2.2 _ _ (by omega) (by omega) | exact hok.2.1) (hsl := by first | assumption | omega | exact hok.1 _ (by omega) | exact hok.2.2 _ _ (by omega) (by omega) | exact hok.2.1) _) (cwV 1 hts gX3_takes_X3_takesPart rfl rfl rfl (by decide +kernel) ⟨Nat.le_of_ble_eq_true rfl, Nat.le_of_ble_eq_true rfl⟩) (preV (cq := (RX3, TX3, 5)) (q0 := 0) (ci := 3) hK hP hD [0, 1, 2, 3] rfl rfl rfl rfl) rfl rfl hl.1 rfl (lv_room (Nat.le_of_ble_eq_true rfl)) dX3_takes_63 ⟨Nat.le_of_ble_eq_true rfl, Nat.le_of_ble_eq_true rfl⟩) hP hD hS hA [0, 1, 2, 3] [] rfl rfl rfl (by decide) (fun r_63 uu9 H locs hw hP hD hS => ?_)
    have hP : va_P G vwCl [(g 0, .inr (3, [.ref (h 0), .int (nI (if c = 82 then 2 else 3)), .int wy, .int tq, .int ho])), (h 0, .inr (1, [.ref (h 1), .ref (h 2), .int (nI srk), .int (nI ssl)])), (h 1, .inl (cI, 7, .inl (fun i9 => nI (kd i9)))), (h 2, .inl (cI, 175, .inl (fun i9 => nI (tn i9))))] _ := hP
    have hD : va_D A [(g 0, .inr (3, [.ref (h 0), .int (nI (if c = 82 then 2 else 3)), .int wy, .int tq, .int ho])), (h 0, .inr (1, [.ref (h 1), .ref (h 2), .int (nI srk), .int (nI ssl)])), (h 1, .inl (cI, 7, .inl (fun i9 => nI (kd i9)))), (h 2, .inl (cI, 175, .inl (fun i9 => nI (tn i9))))] := hD
    obtain rfl := hw
    refine top_i (y := bI ((c = 82 ∧ srk < 7) ∨ (c = 83 ∧ 1 < srk ∧ ssl < 9))) rfl ?_
    exact endZ hx hb hr hlocks (bI_nar) (((if c = 82 then 2 else 3), wy, tq, ho, srk, ssl, kd, tn)) (⟨bI_iff (dl1_iff hsim).symm, ⟨dl1_sim hsim, hk4⟩⟩) (hP.sub [0, 1, 2, 3] rfl) (hD.sub [0, 1, 2, 3] (by decide) rfl) hS dX3_takes_66
  by_cases w_2 : nI sst = nI 2
  · skip
    have w_2 := (nI_eq (by omega) (by omega)).mp w_2
    subst w_2
    refine lv_tableIn (tgt := 67) (off := 63) hx hb dX3_takes_4 (by decide) (by decide) (by decide) (by decide) ?_
    have hrk7 := i3 rfl
    refine lv_aload_n hx hb dX3_takes_67 rfl (lv_at hl 0 rfl) ?_
    refine lv_iload_n hx hb dX3_takes_68 rfl (lv_at hl 1 rfl) ?_
    refine aft_i (wr := []) (va_runV (As := [.int (nI c)]) (rest := []) ⟨hx, hb, hml, hown, hts⟩ (c_X3_takesKind (g := g) (stp := 2) (wy := wy) (tq := tq) (ho := ho) (h := h) (kd := kd) (tn := tn) (rk := srk) (sl := ssl) (c := c) (hc := by first | assumption | omega | exact hok.1 _ (by omega) | exact hok.2.2 _ _ (by omega) (by omega) | exact hok.2.1) (hrk := by first | assumption | omega | exact hok.1 _ (by omega) | exact hok.2.2 _ _ (by omega) (by omega) | exact hok.2.1) _) (cwV 1 hts gX3_takes_X3_takesKind rfl rfl rfl (by decide +kernel) ⟨Nat.le_of_ble_eq_true rfl, Nat.le_of_ble_eq_true rfl⟩) (preV (cq := (RX3, TX3, 5)) (q0 := 0) (ci := 3) hK hP hD [0, 1, 2, 3] rfl rfl rfl rfl) rfl rfl hl.1 rfl (lv_room (Nat.le_of_ble_eq_true rfl)) dX3_takes_69 ⟨Nat.le_of_ble_eq_true rfl, Nat.le_of_ble_eq_true rfl⟩) hP hD hS hA [0, 1, 2, 3] [] rfl rfl rfl (by decide) (fun r_69 uu9 H locs hw hP hD hS => ?_)
    obtain ⟨st1_69, rk1_69, kd1_69⟩ := uu9
    have hP : va_P G vwCl [(g 0, .inr (3, [.ref (h 0), .int (nI st1_69), .int wy, .int tq, .int ho])), (h 0, .inr (1, [.ref (h 1), .ref (h 2), .int (nI rk1_69), .int (nI ssl)])), (h 1, .inl (cI, 7, .inl (fun i9 => nI (kd1_69 i9)))), (h 2, .inl (cI, 175, .inl (fun i9 => nI (tn i9))))] _ := hP
    have hD : va_D A [(g 0, .inr (3, [.ref (h 0), .int (nI st1_69), .int wy, .int tq, .int ho])), (h 0, .inr (1, [.ref (h 1), .ref (h 2), .int (nI rk1_69), .int (nI ssl)])), (h 1, .inl (cI, 7, .inl (fun i9 => nI (kd1_69 i9)))), (h 2, .inl (cI, 175, .inl (fun i9 => nI (tn i9))))] := hD
    obtain ⟨rfl, hw_69⟩ := hw
    refine top_i (y := bI (kindN c < 4)) rfl ?_
    have hw_69 : (kindN c < 4 → st1_69 = 1 ∧ rk1_69 = srk + 1 ∧ kd1_69 = va_up kd srk (kindN c)) ∧ (¬ kindN c < 4 → kd1_69 = kd) := hw_69
    exact endZ hx hb hr hlocks (bI_nar) ((st1_69, wy, tq, ho, rk1_69, ssl, kd1_69, tn)) (⟨bI_iff (dl2_iff hsim).symm, ⟨dl2_sim hsim hw_69, dl2_kd hw_69 hrk7 hk4⟩⟩) (hP.sub [0, 1, 2, 3] rfl) (hD.sub [0, 1, 2, 3] (by decide) rfl) hS dX3_takes_72
  by_cases w_3 : nI sst = nI 3
  · skip
    have w_3 := (nI_eq (by omega) (by omega)).mp w_3
    subst w_3
    refine lv_tableIn (tgt := 73) (off := 69) hx hb dX3_takes_4 (by decide) (by decide) (by decide) (by decide) ?_
    refine lv_aload_n hx hb dX3_takes_73 rfl (lv_at hl 0 rfl) ?_
    refine lv_iload_n hx hb dX3_takes_74 rfl (lv_at hl 1 rfl) ?_
    refine lv_bipush (v := nI 48) hx hb dX3_takes_75 (by decide) ?_
    refine lv_isub hx hb dX3_takes_77 ?_
    refine aft_i (wr := []) (va_runV (As := [.int ((nI c) - (nI 48))]) (rest := []) ⟨hx, hb, hml, hown, hts⟩ (c_X3_takesWay (g := g) (stp := 3) (wy := wy) (tq := tq) (ho := ho) (h := h) (kd := kd) (tn := tn) (rk := srk) (sl := ssl) (r := (nI c) - (nI 48)) (hrk := by first | assumption | omega | exact hok.1 _ (by omega) | exact hok.2.2 _ _ (by omega) (by omega) | exact hok.2.1) _) (cwV 1 hts gX3_takes_X3_takesWay rfl rfl rfl (by decide +kernel) ⟨Nat.le_of_ble_eq_true rfl, Nat.le_of_ble_eq_true rfl⟩) (preV (cq := (RX3, TX3, 5)) (q0 := 0) (ci := 3) hK hP hD [0, 1, 2, 3] rfl rfl rfl rfl) rfl rfl hl.1 rfl (lv_room (Nat.le_of_ble_eq_true rfl)) dX3_takes_78 ⟨Nat.le_of_ble_eq_true rfl, Nat.le_of_ble_eq_true rfl⟩) hP hD hS hA [0, 1, 2, 3] [] rfl rfl rfl (by decide) (fun r_78 uu9 H locs hw hP hD hS => ?_)
    have hP : va_P G vwCl [(g 0, .inr (3, [.ref (h 0), .int (nI 4), .int ((nI c) - (nI 48)), .int tq, .int ho])), (h 0, .inr (1, [.ref (h 1), .ref (h 2), .int (nI srk), .int (nI ssl)])), (h 1, .inl (cI, 7, .inl (fun i9 => nI (kd i9)))), (h 2, .inl (cI, 175, .inl (fun i9 => nI (tn i9))))] _ := hP
    have hD : va_D A [(g 0, .inr (3, [.ref (h 0), .int (nI 4), .int ((nI c) - (nI 48)), .int tq, .int ho])), (h 0, .inr (1, [.ref (h 1), .ref (h 2), .int (nI srk), .int (nI ssl)])), (h 1, .inl (cI, 7, .inl (fun i9 => nI (kd i9)))), (h 2, .inl (cI, 175, .inl (fun i9 => nI (tn i9))))] := hD
    obtain rfl := hw
    refine top_i (y := bI (∃ f, 0 < f ∧ f < srk ∧ ((nI c) - (nI 48)) = nI f)) rfl ?_
    exact endZ hx hb hr hlocks (bI_nar) ((4, ((nI c) - (nI 48)), tq, ho, srk, ssl, kd, tn)) (⟨bI_iff (dl3_iff hc hsim hinv).symm, ⟨dl3_sim hc hsim, hk4⟩⟩) (hP.sub [0, 1, 2, 3] rfl) (hD.sub [0, 1, 2, 3] (by decide) rfl) hS dX3_takes_81
  by_cases w_4 : nI sst = nI 4
  · skip
    have w_4 := (nI_eq (by omega) (by omega)).mp w_4
    subst w_4
    refine lv_tableIn (tgt := 82) (off := 78) hx hb dX3_takes_4 (by decide) (by decide) (by decide) (by decide) ?_
    have j4 := i4 (by omega)
    refine lv_aload_n hx hb dX3_takes_82 rfl (lv_at hl 0 rfl) ?_
    refine lv_iload_n hx hb dX3_takes_83 rfl (lv_at hl 1 rfl) ?_
    refine lv_bipush (v := nI 48) hx hb dX3_takes_84 (by decide) ?_
    refine lv_isub hx hb dX3_takes_86 ?_
    refine aft_i (wr := []) (va_runV (As := [.int ((nI c) - (nI 48))]) (rest := []) ⟨hx, hb, hml, hown, hts⟩ (c_X3_takesTold (g := g) (stp := 4) (wy := wy) (tq := tq) (ho := ho) (h := h) (kd := kd) (tn := tn) (rk := srk) (sl := ssl) (r := (nI c) - (nI 48)) (k := swy) (hk := by omega) (hwy := e2 (by omega)) (ht := sim_lt e8 i7) _) (cwV 1 hts gX3_takes_X3_takesTold rfl rfl rfl (by decide +kernel) ⟨Nat.le_of_ble_eq_true rfl, Nat.le_of_ble_eq_true rfl⟩) (preV (cq := (RX3, TX3, 5)) (q0 := 0) (ci := 3) hK hP hD [0, 1, 2, 3] rfl rfl rfl rfl) rfl rfl hl.1 rfl (lv_room (Nat.le_of_ble_eq_true rfl)) dX3_takes_87 ⟨Nat.le_of_ble_eq_true rfl, Nat.le_of_ble_eq_true rfl⟩) hP hD hS hA [0, 1, 2, 3] [] rfl rfl rfl (by decide) (fun r_87 uu9 H locs hw hP hD hS => ?_)
    have hP : va_P G vwCl [(g 0, .inr (3, [.ref (h 0), .int (nI 5), .int wy, .int ((nI c) - (nI 48)), .int ho])), (h 0, .inr (1, [.ref (h 1), .ref (h 2), .int (nI srk), .int (nI ssl)])), (h 1, .inl (cI, 7, .inl (fun i9 => nI (kd i9)))), (h 2, .inl (cI, 175, .inl (fun i9 => nI (tn i9))))] _ := hP
    have hD : va_D A [(g 0, .inr (3, [.ref (h 0), .int (nI 5), .int wy, .int ((nI c) - (nI 48)), .int ho])), (h 0, .inr (1, [.ref (h 1), .ref (h 2), .int (nI srk), .int (nI ssl)])), (h 1, .inl (cI, 7, .inl (fun i9 => nI (kd i9)))), (h 2, .inl (cI, 175, .inl (fun i9 => nI (tn i9))))] := hD
    obtain rfl := hw
    refine top_i (y := bI (∃ u, u < 5 ∧ ((nI c) - (nI 48)) = nI u ∧ canSl tn swy u)) rfl ?_
    exact endZ hx hb hr hlocks (bI_nar) ((5, wy, ((nI c) - (nI 48)), ho, srk, ssl, kd, tn)) (⟨bI_iff (dl4_iff hc hsim hinv).symm, ⟨dl4_sim hc hsim, hk4⟩⟩) (hP.sub [0, 1, 2, 3] rfl) (hD.sub [0, 1, 2, 3] (by decide) rfl) hS dX3_takes_90
  by_cases w_5 : nI sst = nI 5
  · skip
    have w_5 := (nI_eq (by omega) (by omega)).mp w_5
    subst w_5
    refine lv_tableIn (tgt := 91) (off := 87) hx hb dX3_takes_4 (by decide) (by decide) (by decide) (by decide) ?_
    have j4 := i4 (by omega)
    have j5 := i5 (by omega)
    refine lv_aload_n hx hb dX3_takes_91 rfl (lv_at hl 0 rfl) ?_
    refine lv_iload_n hx hb dX3_takes_92 rfl (lv_at hl 1 rfl) ?_
    refine lv_bipush (v := nI 48) hx hb dX3_takes_93 (by decide) ?_
    refine lv_isub hx hb dX3_takes_95 ?_
    refine aft_i (wr := []) (va_runV (As := [.int ((nI c) - (nI 48))]) (rest := []) ⟨hx, hb, hml, hown, hts⟩ (c_X3_takesHeard (g := g) (stp := 5) (wy := wy) (tq := tq) (ho := ho) (h := h) (kd := kd) (tn := tn) (rk := srk) (sl := ssl) (r := (nI c) - (nI 48)) (k := swy) (u := sto) (hk := by omega) (hu := j5) (hwy := e2 (by omega)) (htq := e3 (by omega)) (ht := sim_lt e8 i7) _) (cwV 1 hts gX3_takes_X3_takesHeard rfl rfl rfl (by decide +kernel) ⟨Nat.le_of_ble_eq_true rfl, Nat.le_of_ble_eq_true rfl⟩) (preV (cq := (RX3, TX3, 5)) (q0 := 0) (ci := 3) hK hP hD [0, 1, 2, 3] rfl rfl rfl rfl) rfl rfl hl.1 rfl (lv_room (Nat.le_of_ble_eq_true rfl)) dX3_takes_96 ⟨Nat.le_of_ble_eq_true rfl, Nat.le_of_ble_eq_true rfl⟩) hP hD hS hA [0, 1, 2, 3] [] rfl rfl rfl (by decide) (fun r_96 uu9 H locs hw hP hD hS => ?_)
    have hP : va_P G vwCl [(g 0, .inr (3, [.ref (h 0), .int (nI 6), .int wy, .int tq, .int ((nI c) - (nI 48))])), (h 0, .inr (1, [.ref (h 1), .ref (h 2), .int (nI srk), .int (nI ssl)])), (h 1, .inl (cI, 7, .inl (fun i9 => nI (kd i9)))), (h 2, .inl (cI, 175, .inl (fun i9 => nI (tn i9))))] _ := hP
    have hD : va_D A [(g 0, .inr (3, [.ref (h 0), .int (nI 6), .int wy, .int tq, .int ((nI c) - (nI 48))])), (h 0, .inr (1, [.ref (h 1), .ref (h 2), .int (nI srk), .int (nI ssl)])), (h 1, .inl (cI, 7, .inl (fun i9 => nI (kd i9)))), (h 2, .inl (cI, 175, .inl (fun i9 => nI (tn i9))))] := hD
    obtain rfl := hw
    refine top_i (y := bI (∃ v, v < 5 ∧ ((nI c) - (nI 48)) = nI v ∧ ¬ v = sto ∧ slT tn swy sto v = 0)) rfl ?_
    exact endZ hx hb hr hlocks (bI_nar) ((6, wy, tq, ((nI c) - (nI 48)), srk, ssl, kd, tn)) (⟨bI_iff (dl5_iff hc hsim hinv).symm, ⟨dl5_sim hc hsim, hk4⟩⟩) (hP.sub [0, 1, 2, 3] rfl) (hD.sub [0, 1, 2, 3] (by decide) rfl) hS dX3_takes_99
  have hs6 : sst = 6 := st_six (by omega) w_0 w_1 w_2 w_3 w_4 w_5
  subst hs6
  refine lv_tableOut (tgt := 100) hx hb dX3_takes_4 (sw_out (hi := 5) 6 (by omega) (by decide) (by decide) (fun j hj => by rcases (show j = 0 ∨ j = 1 ∨ j = 2 ∨ j = 3 ∨ j = 4 ∨ j = 5 by omega) with rfl | rfl | rfl | rfl | rfl | rfl <;> assumption)) (by decide) ?_
  have j4 := i4 (by omega)
  have j5 := i5 (by omega)
  have j6 := i6 (by omega)
  refine lv_aload_n hx hb dX3_takes_100 rfl (lv_at hl 0 rfl) ?_
  refine lv_iload_n hx hb dX3_takes_101 rfl (lv_at hl 1 rfl) ?_
  refine lv_bipush (v := nI 48) hx hb dX3_takes_102 (by decide) ?_
  refine lv_isub hx hb dX3_takes_104 ?_
  refine aft_i (wr := []) (va_runV (As := [.int ((nI c) - (nI 48))]) (rest := []) ⟨hx, hb, hml, hown, hts⟩ (c_X3_takesTenths (g := g) (stp := 6) (wy := wy) (tq := tq) (ho := ho) (h := h) (kd := kd) (tn := tn) (rk := srk) (sl := ssl) (r := (nI c) - (nI 48)) (k := swy) (u := sto) (v := sho) (hk := by omega) (hu := j5) (hv := j6.1) (hwy := e2 (by omega)) (htq := e3 (by omega)) (hho := e4 (by omega)) (hs := by rw [sim_sum e8 (by omega) j5]; exact i8 _ _ (by omega) j5) _) (cwV 1 hts gX3_takes_X3_takesTenths rfl rfl rfl (by decide +kernel) ⟨Nat.le_of_ble_eq_true rfl, Nat.le_of_ble_eq_true rfl⟩) (preV (cq := (RX3, TX3, 5)) (q0 := 0) (ci := 3) hK hP hD [0, 1, 2, 3] rfl rfl rfl rfl) rfl rfl hl.1 rfl (lv_room (Nat.le_of_ble_eq_true rfl)) dX3_takes_105 ⟨Nat.le_of_ble_eq_true rfl, Nat.le_of_ble_eq_true rfl⟩) hP hD hS hA [0, 1, 2, 3] [] rfl rfl rfl (by decide) (fun r_105 uu9 H locs hw hP hD hS => ?_)
  obtain ⟨st1_105, sl1_105, tn1_105⟩ := uu9
  have hP : va_P G vwCl [(g 0, .inr (3, [.ref (h 0), .int (nI st1_105), .int wy, .int tq, .int ho])), (h 0, .inr (1, [.ref (h 1), .ref (h 2), .int (nI srk), .int (nI sl1_105)])), (h 1, .inl (cI, 7, .inl (fun i9 => nI (kd i9)))), (h 2, .inl (cI, 175, .inl (fun i9 => nI (tn1_105 i9))))] _ := hP
  have hD : va_D A [(g 0, .inr (3, [.ref (h 0), .int (nI st1_105), .int wy, .int tq, .int ho])), (h 0, .inr (1, [.ref (h 1), .ref (h 2), .int (nI srk), .int (nI sl1_105)])), (h 1, .inl (cI, 7, .inl (fun i9 => nI (kd i9)))), (h 2, .inl (cI, 175, .inl (fun i9 => nI (tn1_105 i9))))] := hD
  obtain ⟨rfl, hw_105⟩ := hw
  refine top_i (y := bI (∃ t, 0 < t ∧ t < 10 ∧ ((nI c) - (nI 48)) = nI t ∧ t + sumN (slT tn swy sto) 5 ≤ 10)) rfl ?_
  have hw_105 : ∀ t, 0 < t → t < 10 → ((nI c) - (nI 48)) = nI t → t + sumN (slT tn swy sto) 5 ≤ 10 → st1_105 = 1 ∧ sl1_105 = ssl + 1 ∧ tn1_105 = va_up tn ((swy * 5 + sto) * 5 + sho) t := hw_105
  exact endZ hx hb hr hlocks (bI_nar) ((st1_105, wy, tq, ho, srk, sl1_105, kd, tn1_105)) (⟨bI_iff (dl6_iff hc hsim hinv).symm, ⟨dl6_sim hc hsim hinv hw_105, hk4⟩⟩) (hP.sub [0, 1, 2, 3] rfl) (hD.sub [0, 1, 2, 3] (by decide) rfl) hS dX3_takes_108

set_option maxHeartbeats 4000000 in
set_option maxRecDepth 100000 in
theorem c_X3_firstFault {l : Launch} {G : va_G} {cI cJ cZ cS : ClassId} (g : Nat → Nat) (stp : Nat) (wy : Int32) (tq : Int32) (ho : Int32) (h : Nat → Nat) (kd : Nat → Nat) (tn : Nat → Nat) (rk : Nat) (sl : Nat) (b : Nat → Nat) (tx : Nat → Nat) (ln : Nat) (hln : ln ≤ 64) (htx : ∀ j, j < ln → tx j < 256) (hk4 : ∀ k, k < 7 → kd k < 4) : CI l G (kT cI cJ cZ cS) (S := Nat × Int32 × Int32 × Int32 × Nat × Nat × (Nat → Nat) × (Nat → Nat)) yX3_firstFault wsX3_firstFault { frames := 6, cells := 0, slots := 0, locals := 134 } [.ref (g 0), .ref (b 0)] [(g 0, .inr (3, [.ref (h 0), .int (nI stp), .int wy, .int tq, .int ho])), (h 0, .inr (1, [.ref (h 1), .ref (h 2), .int (nI rk), .int (nI sl)])), (h 1, .inl (cI, 7, .inl (fun i9 => nI (kd i9)))), (h 2, .inl (cI, 175, .inl (fun i9 => nI (tn i9)))), (b 0, .inr (7, [.ref (b 1), .int (nI ln)])), (b 1, .inl (cI, 64, .inl (fun i9 => nI (tx i9))))] (fun res uu9 => match uu9 with | (st1, wy1, tq1, ho1, rk1, sl1, kd1, tn1) => FaultIs tx ln res ∧ (∀ k, k < 7 → kd1 k < 4) ∧ (res = -9 → ∃ s9, runN tx ln = some s9 ∧ RSim s9 st1 wy1 tq1 ho1 kd1 tn1 rk1 sl1)) (fun uu9 => match uu9 with | (st1, wy1, tq1, ho1, rk1, sl1, kd1, tn1) => [(g 0, .inr (3, [.ref (h 0), .int (nI st1), .int wy1, .int tq1, .int ho1])), (h 0, .inr (1, [.ref (h 1), .ref (h 2), .int (nI rk1), .int (nI sl1)])), (h 1, .inl (cI, 7, .inl (fun i9 => nI (kd1 i9)))), (h 2, .inl (cI, 175, .inl (fun i9 => nI (tn1 i9)))), (b 0, .inr (7, [.ref (b 1), .int (nI ln)])), (b 1, .inl (cI, 64, .inl (fun i9 => nI (tx i9))))]) := by
  refine CI.of (cc := cX3_firstFault) (maxL := 3) (by decide) rfl (Nat.le_of_ble_eq_true rfl) ?_
  intro p9 e9 s m below meth co9 A ls hB
  obtain ⟨hx, hb, hml, hr, hts, hown, hlocks, hmn, hK, hP, hD, hS, hA, hl⟩ := hB
  have hP : va_P G vwCl [(g 0, .inr (3, [.ref (h 0), .int (nI stp), .int wy, .int tq, .int ho])), (h 0, .inr (1, [.ref (h 1), .ref (h 2), .int (nI rk), .int (nI sl)])), (h 1, .inl (cI, 7, .inl (fun i9 => nI (kd i9)))), (h 2, .inl (cI, 175, .inl (fun i9 => nI (tn i9)))), (b 0, .inr (7, [.ref (b 1), .int (nI ln)])), (b 1, .inl (cI, 64, .inl (fun i9 => nI (tx i9))))] s.heap := hP
  have hD : va_D A [(g 0, .inr (3, [.ref (h 0), .int (nI stp), .int wy, .int tq, .int ho])), (h 0, .inr (1, [.ref (h 1), .ref (h 2), .int (nI rk), .int (nI sl)])), (h 1, .inl (cI, 7, .inl (fun i9 => nI (kd i9)))), (h 2, .inl (cI, 175, .inl (fun i9 => nI (tn i9)))), (b 0, .inr (7, [.ref (b 1), .int (nI ln)])), (b 1, .inl (cI, 64, .inl (fun i9 => nI (tx i9))))] := hD
  have hl : lv_has ls 3 [(0, .ref (g 0)), (1, .ref (b 0))] := hl
  have k_0 := hts (.fieldLink RX3 12 "HearsayMarch$Reader" "draft" "LHearsayMarch$Army;") (by decide +kernel)
  have k_1 := hts (.fieldLink RX3 18 "HearsayMarch$Reader" "step" "I") (by decide +kernel)
  have k_2 := hts (.fieldLink RX3 34 "HearsayMarch$Text" "length" "I") (by decide +kernel)
  have k_3 := hts (.fieldLink RX3 39 "HearsayMarch$Text" "signs" "[I") (by decide +kernel)
  have hin3 : ∀ w ∈ wsX30, w ∈ wsX3_firstFault := by decide +kernel
  have hin7 : ∀ w ∈ wsX70, w ∈ wsX3_firstFault := by decide +kernel
  refine lv_aload_n hx hb dX3_firstFault_0 rfl (lv_at hl 0 rfl) ?_
  refine va_get (D := G) (ci := 3) (v := .ref (h 0)) (C := RX3) (T := TX3) (N := 5) hx hb hts hin3 hown hK.1 hP 0 rfl rfl 0 (by decide) k_0 (fun _ h9 => h9) rfl dX3_firstFault_1 ?_
  refine aft_v (wr := [(g 0, .inr (3, [.ref (h 0), .int (nI stp), .int wy, .int tq, .int ho])), (b 0, .inr (7, [.ref (b 1), .int (nI ln)])), (b 1, .inl (cI, 64, .inl (fun i9 => nI (tx i9))))]) (va_runV (As := []) (rest := []) ⟨hx, hb, hml, hown, hts⟩ (c_X1_clear (h := h) (kd := kd) (tn := tn) (rk := rk) (sl := sl) _) (cwV 0 hts gX3_firstFault_X1_clear rfl rfl rfl (by decide +kernel) ⟨Nat.le_of_ble_eq_true rfl, Nat.le_of_ble_eq_true rfl⟩) (preV (cq := (RX1, TX1, 4)) (q0 := 1) (ci := 1) hK hP hD [1, 2, 3] rfl rfl rfl rfl) rfl rfl hl.1 rfl (lv_room (Nat.le_of_ble_eq_true rfl)) dX3_firstFault_4 ⟨Nat.le_of_ble_eq_true rfl, Nat.le_of_ble_eq_true rfl⟩) hP hD hS hA [1, 2, 3] [0, 4, 5] rfl rfl rfl (by decide) (fun uu9 H locs hw hP hD hS => ?_)
  obtain ⟨t1_4, rfl⟩ : ∃ z, z = uu9 := ⟨_, rfl⟩
  have hP : va_P G vwCl [(g 0, .inr (3, [.ref (h 0), .int (nI stp), .int wy, .int tq, .int ho])), (b 0, .inr (7, [.ref (b 1), .int (nI ln)])), (b 1, .inl (cI, 64, .inl (fun i9 => nI (tx i9)))), (h 0, .inr (1, [.ref (h 1), .ref (h 2), .int (nI 0), .int (nI 0)])), (h 1, .inl (cI, 7, .inl (fun i9 => nI (kd i9)))), (h 2, .inl (cI, 175, .inl (fun i9 => nI (t1_4 i9))))] _ := hP
  have hD : va_D A [(g 0, .inr (3, [.ref (h 0), .int (nI stp), .int wy, .int tq, .int ho])), (b 0, .inr (7, [.ref (b 1), .int (nI ln)])), (b 1, .inl (cI, 64, .inl (fun i9 => nI (tx i9)))), (h 0, .inr (1, [.ref (h 1), .ref (h 2), .int (nI 0), .int (nI 0)])), (h 1, .inl (cI, 7, .inl (fun i9 => nI (kd i9)))), (h 2, .inl (cI, 175, .inl (fun i9 => nI (t1_4 i9))))] := hD
  have hw_4 : ∀ i, i < 175 → t1_4 i = 0 := hw
  refine lv_aload_n hx hb dX3_firstFault_7 rfl (lv_at hl 0 rfl) ?_
  refine lv_iconst (v := nI 0) hx hb dX3_firstFault_8 (by decide) ?_
  refine va_put (D := G) (ci := 3) (v := .int (nI 0)) (ty := tyX3 1) (C := RX3) (T := TX3) (N := 5) hx hb hts hin3 tyX3 tyX3_ok nmX3 hown hK.1 hP hD hS 0 rfl rfl 1 (by decide) k_1 (fun _ h9 => h9) rfl (by decide +kernel) rfl rfl (Nat.le_of_ble_eq_true rfl) dX3_firstFault_9 (fun H locs hP hD hS => ?_)
  have hP : va_P G vwCl [(g 0, .inr (3, [.ref (h 0), .int (nI 0), .int wy, .int tq, .int ho])), (b 0, .inr (7, [.ref (b 1), .int (nI ln)])), (b 1, .inl (cI, 64, .inl (fun i9 => nI (tx i9)))), (h 0, .inr (1, [.ref (h 1), .ref (h 2), .int (nI 0), .int (nI 0)])), (h 1, .inl (cI, 7, .inl (fun i9 => nI (kd i9)))), (h 2, .inl (cI, 175, .inl (fun i9 => nI (t1_4 i9))))] _ := hP
  have hD : va_D A [(g 0, .inr (3, [.ref (h 0), .int (nI 0), .int wy, .int tq, .int ho])), (b 0, .inr (7, [.ref (b 1), .int (nI ln)])), (b 1, .inl (cI, 64, .inl (fun i9 => nI (tx i9)))), (h 0, .inr (1, [.ref (h 1), .ref (h 2), .int (nI 0), .int (nI 0)])), (h 1, .inl (cI, 7, .inl (fun i9 => nI (kd i9)))), (h 2, .inl (cI, 175, .inl (fun i9 => nI (t1_4 i9))))] := hD
  refine lv_iconst (v := nI 0) hx hb dX3_firstFault_12 (by decide) ?_
  refine lv_istore_n (lv' := [(2, .int (nI 0)), (0, .ref (g 0)), (1, .ref (b 0))]) hx hb dX3_firstFault_13 rfl hl (by decide) rfl (fun ls hl => ?_)
  refine loopW (σ := Nat × Nat × Int32 × Int32 × Int32 × Nat × Nat × (Nat → Nat) × (Nat → Nat)) 14 (fun xx9 H locs ls => match xx9 with | (p, st, w2, q2, o2, r2, l2, k2, n2) => (p ≤ ln) ∧ (∃ s9, runN tx p = some s9 ∧ RSim s9 st w2 q2 o2 k2 n2 r2 l2) ∧ (∀ k, k < 7 → k2 k < 4) ∧ va_P G vwCl [(g 0, .inr (3, [.ref (h 0), .int (nI st), .int w2, .int q2, .int o2])), (b 0, .inr (7, [.ref (b 1), .int (nI ln)])), (b 1, .inl (cI, 64, .inl (fun i9 => nI (tx i9)))), (h 0, .inr (1, [.ref (h 1), .ref (h 2), .int (nI r2), .int (nI l2)])), (h 1, .inl (cI, 7, .inl (fun i9 => nI (k2 i9)))), (h 2, .inl (cI, 175, .inl (fun i9 => nI (n2 i9))))] H ∧ va_D A [(g 0, .inr (3, [.ref (h 0), .int (nI st), .int w2, .int q2, .int o2])), (b 0, .inr (7, [.ref (b 1), .int (nI ln)])), (b 1, .inl (cI, 64, .inl (fun i9 => nI (tx i9)))), (h 0, .inr (1, [.ref (h 1), .ref (h 2), .int (nI r2), .int (nI l2)])), (h 1, .inl (cI, 7, .inl (fun i9 => nI (k2 i9)))), (h 2, .inl (cI, 175, .inl (fun i9 => nI (n2 i9))))] ∧ va_S A s.heap H locs ∧ lv_has ls 3 [(2, .int (nI p)), (0, .ref (g 0)), (1, .ref (b 0))]) (fun xx9 => match xx9 with | (p, st, w2, q2, o2, r2, l2, k2, n2) => []) (fun xx9 => match xx9 with | (p, st, w2, q2, o2, r2, l2, k2, n2) => ln - p) ?_ (0, 0, wy, tq, ho, 0, 0, kd, t1_4) ⟨by first | assumption | omega | (simp; done), ⟨RS0, rfl, RSim_0 hw_4⟩, by first | assumption | omega | (simp; done), hP.sub [0, 1, 2, 3, 4, 5] rfl, hD.sub [0, 1, 2, 3, 4, 5] (by decide) rfl, hS, lv_sub hl [0, 1, 2] rfl⟩
  intro xx9 H locs ls hI ih_14
  obtain ⟨p, st, w2, q2, o2, r2, l2, k2, n2⟩ := xx9
  obtain ⟨hp, hrun, hk2, hP, hD, hS, hl⟩ := hI
  have hp : p ≤ ln := hp
  have hrun : ∃ s9, runN tx p = some s9 ∧ RSim s9 st w2 q2 o2 k2 n2 r2 l2 := hrun
  have hk2 : ∀ k, k < 7 → k2 k < 4 := hk2
  have hP : va_P G vwCl [(g 0, .inr (3, [.ref (h 0), .int (nI st), .int w2, .int q2, .int o2])), (b 0, .inr (7, [.ref (b 1), .int (nI ln)])), (b 1, .inl (cI, 64, .inl (fun i9 => nI (tx i9)))), (h 0, .inr (1, [.ref (h 1), .ref (h 2), .int (nI r2), .int (nI l2)])), (h 1, .inl (cI, 7, .inl (fun i9 => nI (k2 i9)))), (h 2, .inl (cI, 175, .inl (fun i9 => nI (n2 i9))))] _ := hP
  have hD : va_D A [(g 0, .inr (3, [.ref (h 0), .int (nI st), .int w2, .int q2, .int o2])), (b 0, .inr (7, [.ref (b 1), .int (nI ln)])), (b 1, .inl (cI, 64, .inl (fun i9 => nI (tx i9)))), (h 0, .inr (1, [.ref (h 1), .ref (h 2), .int (nI r2), .int (nI l2)])), (h 1, .inl (cI, 7, .inl (fun i9 => nI (k2 i9)))), (h 2, .inl (cI, 175, .inl (fun i9 => nI (n2 i9))))] := hD
  have hl : lv_has ls 3 [(2, .int (nI p)), (0, .ref (g 0)), (1, .ref (b 0))] := hl
  refine lv_iload_n hx hb dX3_firstFault_14 rfl (lv_at hl 0 rfl) ?_
  refine lv_aload_n hx hb dX3_firstFault_15 rfl (lv_at hl 2 rfl) ?_
  refine va_get (D := G) (ci := 7) (v := .int (nI ln)) (C := RX7) (T := TX7) (N := 2) hx hb hts hin7 hown hK.1 hP 1 rfl rfl 1 (by decide) k_2 (fun _ h9 => h9) rfl dX3_firstFault_16 ?_
  refine lv_icmp_ge (tgt := 43) hx hb dX3_firstFault_19 (by decide) (fun c_19 => ?_) (fun c_19 => ?_)
  · skip
    have c_19 := n_geT c_19 (by omega) (by omega)
    obtain ⟨s8, hr8, hs8⟩ := hrun
    have hst := hs8.1
    have hi8 := run_inv hr8
    have hpl : p = ln := by omega
    subst hpl
    have hst7 : st < 7 := by rw [← hst]; exact Nat.lt_succ_of_le hi8.1
    refine lv_aload_n hx hb dX3_firstFault_43 rfl (lv_at hl 1 rfl) ?_
    refine va_get (D := G) (ci := 3) (v := .int (nI st)) (C := RX3) (T := TX3) (N := 5) hx hb hts hin3 hown hK.1 hP 0 rfl rfl 1 (by decide) k_1 (fun _ h9 => h9) rfl dX3_firstFault_44 ?_
    refine lv_iconst (v := nI 1) hx hb dX3_firstFault_47 (by decide) ?_
    refine lv_icmp_ne (tgt := 56) hx hb dX3_firstFault_48 (by decide) (fun c_48 => ?_) (fun c_48 => ?_)
    · skip
      have c_48 := n_neT c_48 (by omega) (by omega)
      refine lv_aload_n hx hb dX3_firstFault_56 rfl (lv_at hl 2 rfl) ?_
      refine va_get (D := G) (ci := 7) (v := .int (nI p)) (C := RX7) (T := TX7) (N := 2) hx hb hts hin7 hown hK.1 hP 1 rfl rfl 1 (by decide) k_2 (fun _ h9 => h9) rfl dX3_firstFault_57 ?_
      exact endI hx hb hr hlocks ((st, w2, q2, o2, r2, l2, k2, n2)) (⟨Or.inr ⟨s8, hr8, by rw [if_neg (by rw [hst]; exact c_48)]⟩, hk2, fun z => absurd z (nI_ne9 (by omega))⟩) (hP.sub [0, 3, 4, 5, 1, 2] rfl) (hD.sub [0, 3, 4, 5, 1, 2] (by decide) rfl) hS dX3_firstFault_60
    · skip
      have c_48 := n_neF c_48 (by omega) (by omega)
      refine lv_bipush (v := (-9)) hx hb dX3_firstFault_51 (by decide) ?_
      refine lv_goto (tgt := 60) hx hb dX3_firstFault_53 (by decide) ?_
      exact endI hx hb hr hlocks ((st, w2, q2, o2, r2, l2, k2, n2)) (⟨Or.inr ⟨s8, hr8, by rw [if_pos (by rw [hst]; exact c_48)]⟩, hk2, fun _ => ⟨s8, hr8, hs8⟩⟩) (hP.sub [0, 3, 4, 5, 1, 2] rfl) (hD.sub [0, 3, 4, 5, 1, 2] (by decide) rfl) hS dX3_firstFault_60
  · skip
    have c_19 := n_geF c_19 (by omega) (by omega)
    obtain ⟨s8, hr8, hs8⟩ := hrun
    have hi8 := run_inv hr8
    have hc8 := htx p (by omega)
    refine lv_aload_n hx hb dX3_firstFault_22 rfl (lv_at hl 1 rfl) ?_
    refine lv_aload_n hx hb dX3_firstFault_23 rfl (lv_at hl 2 rfl) ?_
    refine va_get (D := G) (ci := 7) (v := .ref (b 1)) (C := RX7) (T := TX7) (N := 2) hx hb hts hin7 hown hK.1 hP 1 rfl rfl 0 (by decide) k_3 (fun _ h9 => h9) rfl dX3_firstFault_24 ?_
    refine lv_iload_n hx hb dX3_firstFault_27 rfl (lv_at hl 0 rfl) ?_
    refine ald hx hb hK hP 2 0 rfl rfl (j := p) (by omega) (by omega) dX3_firstFault_28 ?_
    refine aft_i (wr := [(b 0, .inr (7, [.ref (b 1), .int (nI ln)])), (b 1, .inl (cI, 64, .inl (fun i9 => nI (tx i9))))]) (va_runV (As := [.int (nI (tx p))]) (rest := []) ⟨hx, hb, hml, hown, hts⟩ (c_X3_takes (g := g) (stp := st) (wy := w2) (tq := q2) (ho := o2) (h := h) (kd := k2) (tn := n2) (rk := r2) (sl := l2) (ss := s8) (c := tx p) (hc := hc8) (hsim := hs8) (hinv := hi8) (hk4 := hk2) _) (cwV 1 hts gX3_firstFault_X3_takes rfl rfl rfl (by decide +kernel) ⟨Nat.le_of_ble_eq_true rfl, Nat.le_of_ble_eq_true rfl⟩) (preV (cq := (RX3, TX3, 5)) (q0 := 0) (ci := 3) hK hP hD [0, 3, 4, 5] rfl rfl rfl rfl) rfl rfl hl.1 rfl (lv_room (Nat.le_of_ble_eq_true rfl)) dX3_firstFault_29 ⟨Nat.le_of_ble_eq_true rfl, Nat.le_of_ble_eq_true rfl⟩) hP hD hS hA [0, 3, 4, 5] [1, 2] rfl rfl rfl (by decide) (fun r_29 uu9 H locs hw hP hD hS => ?_)
    obtain ⟨st1_29, wy1_29, tq1_29, ho1_29, rk1_29, sl1_29, kd1_29, tn1_29⟩ := uu9
    have hP : va_P G vwCl [(b 0, .inr (7, [.ref (b 1), .int (nI ln)])), (b 1, .inl (cI, 64, .inl (fun i9 => nI (tx i9)))), (g 0, .inr (3, [.ref (h 0), .int (nI st1_29), .int wy1_29, .int tq1_29, .int ho1_29])), (h 0, .inr (1, [.ref (h 1), .ref (h 2), .int (nI rk1_29), .int (nI sl1_29)])), (h 1, .inl (cI, 7, .inl (fun i9 => nI (kd1_29 i9)))), (h 2, .inl (cI, 175, .inl (fun i9 => nI (tn1_29 i9))))] _ := hP
    have hD : va_D A [(b 0, .inr (7, [.ref (b 1), .int (nI ln)])), (b 1, .inl (cI, 64, .inl (fun i9 => nI (tx i9)))), (g 0, .inr (3, [.ref (h 0), .int (nI st1_29), .int wy1_29, .int tq1_29, .int ho1_29])), (h 0, .inr (1, [.ref (h 1), .ref (h 2), .int (nI rk1_29), .int (nI sl1_29)])), (h 1, .inl (cI, 7, .inl (fun i9 => nI (kd1_29 i9)))), (h 2, .inl (cI, 175, .inl (fun i9 => nI (tn1_29 i9))))] := hD
    obtain ⟨rfl, hw_29⟩ := hw
    refine top_i (y := bI (∃ s9, dl (tx p) s8 = some s9)) rfl ?_
    have hw_29 : (∀ s9, dl (tx p) s8 = some s9 → RSim s9 st1_29 wy1_29 tq1_29 ho1_29 kd1_29 tn1_29 rk1_29 sl1_29) ∧ (∀ k, k < 7 → kd1_29 k < 4) := hw_29
    refine lv_if_ne (tgt := 37) hx hb dX3_firstFault_32 (by decide) (fun c_32 => ?_) (fun c_32 => ?_)
    · skip
      have c_32 := bI_t c_32
      refine lv_iinc (v := nI (p + 1)) (lv' := [(2, .int (nI (p + 1))), (0, .ref (g 0)), (1, .ref (b 0))]) hx hb dX3_firstFault_37 hl (k := 0) rfl (nI_inc _ 1 1 (by decide)) (by decide) rfl (fun ls hl => ?_)
      refine lv_goto (tgt := 14) hx hb dX3_firstFault_40 (by decide) ?_
      exact ih_14 (p + 1, st1_29, wy1_29, tq1_29, ho1_29, rk1_29, sl1_29, kd1_29, tn1_29) _ _ _ (by first | omega | (simp only []; omega) | (show _ < _; omega)) ⟨by first | assumption | omega | (simp; done), by obtain ⟨s9, z⟩ := c_32; exact ⟨s9, by rw [runN, hr8]; exact z, hw_29.1 s9 z⟩, hw_29.2, hP.sub [2, 0, 1, 3, 4, 5] rfl, hD.sub [2, 0, 1, 3, 4, 5] (by decide) rfl, hS, lv_sub hl [0, 1, 2] rfl⟩
    · skip
      have c_32 := bI_f c_32
      refine lv_iload_n hx hb dX3_firstFault_35 rfl (lv_at hl 0 rfl) ?_
      exact endI hx hb hr hlocks ((st1_29, wy1_29, tq1_29, ho1_29, rk1_29, sl1_29, kd1_29, tn1_29)) (⟨Or.inl ⟨p, by omega, ⟨s8, hr8⟩, run_none hr8 c_32, rfl⟩, hw_29.2, fun z => absurd z (nI_ne9 (by omega))⟩) (hP.sub [2, 3, 4, 5, 0, 1] rfl) (hD.sub [2, 3, 4, 5, 0, 1] (by decide) rfl) hS dX3_firstFault_36
