/-! class HearsayMarch: reads, chances -/
def popN (x : Nat) : Nat := x % 2 + x / 2 % 2 + x / 4 % 2 + x / 8 % 2 + x / 16 % 2
theorem popN_lt (x : Nat) : popN x < 6 := by
  unfold popN
  omega
theorem bitC {x : Nat} (hx : x < 32) {x1 x2 x3 x4 x5 : Int32} (e1 : x1 = nI x - (((nI x).toUInt32 >>> ((nI 1).toUInt32 &&& Int32.toUInt32 31)).toInt32 &&& (1431655765 : Int32)))
    (e2 : x2 = (x1 &&& (858993459 : Int32)) + (((x1).toUInt32 >>> ((nI 2).toUInt32 &&& Int32.toUInt32 31)).toInt32 &&& (858993459 : Int32)))
    (e3 : x3 = (x2 + ((x2).toUInt32 >>> ((nI 4).toUInt32 &&& Int32.toUInt32 31)).toInt32) &&& (252645135 : Int32))
    (e4 : x4 = x3 + ((x3).toUInt32 >>> ((nI 8).toUInt32 &&& Int32.toUInt32 31)).toInt32) (e5 : x5 = x4 + ((x4).toUInt32 >>> ((nI 16).toUInt32 &&& Int32.toUInt32 31)).toInt32) : x5 &&& nI 63 = nI (popN x) := by
  subst e5 e4 e3 e2 e1
  revert x
  decide +kernel
def WrP (n : Int32) (v : Int64) (tx : Nat → Nat) (ln : Nat) (t1 : Nat → Nat) (n1 : Nat) (res : Int32) : Prop :=
  (∀ k, 0 < k → k < 9 → n = nI k → (ln + k ≤ 64 → res = nI (ln + k) ∧ n1 = ln + k ∧ ∀ j, j < n1 → t1 j = appT tx ln k k v j) ∧ (64 < ln + k → res = -4 ∧ n1 = ln ∧ t1 = tx)) ∧ ((∀ k, 0 < k → k < 9 → ¬ n = nI k) → res = -2 ∧ n1 = ln ∧ t1 = tx)
theorem WrP_bad {n : Int32} {v : Int64} {tx : Nat → Nat} {ln : Nat} (h : ∀ k, 0 < k → k < 9 → ¬ n = nI k) : WrP n v tx ln tx ln (-2) := ⟨fun k h1 h2 h3 => absurd h3 (h k h1 h2), fun _ => ⟨rfl, rfl, rfl⟩⟩
theorem WrP_full {n : Int32} {v : Int64} {tx : Nat → Nat} {ln k : Nat} (h1 : 0 < k) (h2 : k < 9) (h3 : n = nI k) (h : 64 < ln + k) : WrP n v tx ln tx ln (-4) := by
  refine ⟨fun q q1 q2 q3 => ?_, fun z => absurd h3 (z k h1 h2)⟩
  have e : k = q := (nI_eq (by omega) (by omega)).mp (h3.symm.trans q3)
  subst e
  exact ⟨fun z => absurd z (by omega), fun _ => ⟨rfl, rfl, rfl⟩⟩
theorem WrP_ok {n : Int32} {v : Int64} {tx t1 : Nat → Nat} {ln k : Nat} (h1 : 0 < k) (h2 : k < 9) (h3 : n = nI k) (h : ln + k ≤ 64) (ht : ∀ j, t1 j = appT tx ln k k v j) : WrP n v tx ln t1 (ln + k) (nI (ln + k)) := by
  refine ⟨fun q q1 q2 q3 => ?_, fun z => absurd h3 (z k h1 h2)⟩
  have e : k = q := (nI_eq (by omega) (by omega)).mp (h3.symm.trans q3)
  subst e
  exact ⟨fun _ => ⟨rfl, rfl, fun j _ => ht j⟩, fun z => absurd h (by omega)⟩
/-- answers by arguments that are in range, or the refusal -/
def An1 {α : Type} (n : Nat) (r : Int32) (F : Nat → α) (d res : α) : Prop := (∀ k, k < n → r = nI k → res = F k) ∧ (¬ isR n r → res = d)
def An2 {α : Type} (n : Nat) (r u : Int32) (F : Nat → Nat → α) (d res : α) : Prop := (∀ k o, k < n → o < 5 → r = nI k → u = nI o → res = F k o) ∧ (¬ (isR n r ∧ isR 5 u) → res = d)
def An3 {α : Type} (n : Nat) (r u w : Int32) (F : Nat → Nat → Nat → α) (d res : α) : Prop := (∀ k o x, k < n → o < 5 → x < 5 → r = nI k → u = nI o → w = nI x → res = F k o x) ∧ (¬ (isR n r ∧ isR 5 u ∧ isR 5 w) → res = d)
theorem An1_no {α : Type} {n : Nat} {r : Int32} {F : Nat → α} {d : α} (h : ¬ isR n r) : An1 n r F d d := ⟨fun k h1 h2 => absurd ⟨k, h1, h2⟩ h, fun _ => rfl⟩
theorem An2_no {α : Type} {n : Nat} {r u : Int32} {F : Nat → Nat → α} {d : α} (h : ¬ (isR n r ∧ isR 5 u)) : An2 n r u F d d := ⟨fun k o h1 h2 h3 h4 => absurd ⟨⟨k, h1, h3⟩, ⟨o, h2, h4⟩⟩ h, fun _ => rfl⟩
theorem An3_no {α : Type} {n : Nat} {r u w : Int32} {F : Nat → Nat → Nat → α} {d : α} (h : ¬ (isR n r ∧ isR 5 u ∧ isR 5 w)) : An3 n r u w F d d := ⟨fun k o x h1 h2 h3 h4 h5 h6 => absurd ⟨⟨k, h1, h4⟩, ⟨o, h2, h5⟩, ⟨x, h3, h6⟩⟩ h, fun _ => rfl⟩
theorem An1_ok {α : Type} {n k : Nat} {F : Nat → α} {d res : α} (hn : n < 2147483648) (hk : k < n) (h : res = F k) : An1 n (nI k) F d res :=
  ⟨fun q h1 h2 => by rw [← (nI_eq (by omega) (by omega)).mp h2]; exact h, fun z => absurd ⟨k, hk, rfl⟩ z⟩
theorem An2_ok {α : Type} {n k o : Nat} {F : Nat → Nat → α} {d res : α} (hn : n < 2147483648) (hk : k < n) (ho : o < 5) (h : res = F k o) : An2 n (nI k) (nI o) F d res :=
  ⟨fun q1 q2 h1 h2 h3 h4 => by rw [← (nI_eq (by omega) (by omega)).mp h3, ← (nI_eq (by omega) (by omega)).mp h4]; exact h, fun z => absurd ⟨⟨k, hk, rfl⟩, ⟨o, ho, rfl⟩⟩ z⟩
theorem An3_ok {α : Type} {n k o x : Nat} {F : Nat → Nat → Nat → α} {d res : α} (hn : n < 2147483648) (hk : k < n) (ho : o < 5) (hx : x < 5) (h : res = F k o x) : An3 n (nI k) (nI o) (nI x) F d res :=
  ⟨fun q1 q2 q3 h1 h2 h3 h4 h5 h6 => by rw [← (nI_eq (by omega) (by omega)).mp h4, ← (nI_eq (by omega) (by omega)).mp h5, ← (nI_eq (by omega) (by omega)).mp h6]; exact h, fun z => absurd ⟨⟨k, hk, rfl⟩, ⟨o, ho, rfl⟩, ⟨x, hx, rfl⟩⟩ z⟩
def abI (q : Int32) (rk sl : Nat) (mi sI hI : Int32) (ac tc ln : Nat) : Int32 := if q = nI 0 then nI rk else if q = nI 1 then nI sl else if q = nI 2 then mi else if q = nI 3 then sI else if q = nI 4 then hI else if q = nI 5 then nI ac else if q = nI 6 then nI tc else if q = nI 7 then nI ln else -2
theorem abI_no {q : Int32} {rk sl : Nat} {mi sI hI : Int32} {ac tc ln : Nat} (h0 : ¬ q = nI 0) (h1 : ¬ q = nI 1) (h2 : ¬ q = nI 2) (h3 : ¬ q = nI 3) (h4 : ¬ q = nI 4) (h5 : ¬ q = nI 5) (h6 : ¬ q = nI 6) (h7 : ¬ q = nI 7) : abI q rk sl mi sI hI ac tc ln = -2 := by
  rw [abI, if_neg h0, if_neg h1, if_neg h2, if_neg h3, if_neg h4, if_neg h5, if_neg h6, if_neg h7]
def rkI (kd : Nat → Nat) (v : Nat → Nat → Int32) (k : Nat) (q : Int32) : Int32 := if q = nI 0 then nI (kd k) else if q = nI 1 then v 0 k else if q = nI 2 then v 1 k else if q = nI 3 then v 2 k else if q = nI 4 then nI 1000 + v 3 k else if q = nI 5 then v 4 k else if q = nI 6 then v 5 k else -2
theorem rkI_no {kd : Nat → Nat} {v : Nat → Nat → Int32} {k : Nat} {q : Int32} (h0 : ¬ q = nI 0) (h1 : ¬ q = nI 1) (h2 : ¬ q = nI 2) (h3 : ¬ q = nI 3) (h4 : ¬ q = nI 4) (h5 : ¬ q = nI 5) (h6 : ¬ q = nI 6) : rkI kd v k q = -2 := by
  rw [rkI, if_neg h0, if_neg h1, if_neg h2, if_neg h3, if_neg h4, if_neg h5, if_neg h6]
theorem sh_l : ∀ n, n < 32 → ((nI n &&& 31).toBitVec.smod 32).toNat = n := by decide +kernel
theorem pow2_b {n : Nat} (h : n ≤ 5) : 2 ^ n ≤ 32 := Nat.pow_le_pow_right (by decide) h
theorem shl1 {v : Nat} (h : v < 6) : nI 1 <<< (nI v &&& 31) = nI (2 ^ v) := by
  rw [pk_shlN (n := 1) _ v (sh_l v (by omega)) (by have := pow2_b (n := v) (by omega); omega), Nat.one_mul]
theorem shr1 {x v : Nat} (hx : x < 2147483648) (h : v < 32) : nI x >>> (nI v &&& 31) = nI (x / 2 ^ v) := pk_shrN hx _ v (sh_l v h)
theorem and1 (x : Nat) : nI x &&& nI 1 = nI (x % 2) := fa_mask x 1
def comN (P : Nat → Nat) : Nat → Nat
  | 0 => 0
  | v + 1 => if 0 < P v then comN P v ||| 2 ^ v else comN P v
theorem comN_n {P : Nat → Nat} {v : Nat} (h : ¬ 0 < P v) : comN P (v + 1) = comN P v := by rw [comN, if_neg h]
theorem comN_y {P : Nat → Nat} {v : Nat} (hv : v < 5) (h : 0 < P v) : nI (comN P v) ||| nI 1 <<< (nI v &&& 31) = nI (comN P (v + 1)) := by
  rw [shl1 (by omega), fa_or, comN, if_pos h]
theorem comN_lt (P : Nat → Nat) : ∀ n, comN P n < 2 ^ n
  | 0 => Nat.zero_lt_one
  | n + 1 => by
    have h := comN_lt P n
    rw [comN]
    split
    · exact Nat.or_lt_two_pow (Nat.lt_of_lt_of_le h (Nat.pow_le_pow_right (by decide) (by omega))) (Nat.pow_lt_pow_right (by decide) (by omega))
    · exact Nat.lt_of_lt_of_le h (Nat.pow_le_pow_right (by decide) (by omega))
def surN (F : Nat → Nat) : Nat → Nat
  | 0 => 0
  | u + 1 => if F u = 2 ^ u then surN F u ||| 2 ^ u else surN F u
theorem surN_n {F : Nat → Nat} {u : Nat} (h : ¬ F u = 2 ^ u) : surN F (u + 1) = surN F u := by rw [surN, if_neg h]
theorem surN_y {F : Nat → Nat} {u : Nat} (hu : u < 5) (h : F u = 2 ^ u) : nI (surN F u) ||| nI 1 <<< (nI u &&& 31) = nI (surN F (u + 1)) := by
  rw [shl1 (by omega), fa_or, surN, if_pos h]
def apM (cm : Nat → Nat) (q : Nat) : Nat → Nat
  | 0 => 0
  | u + 1 => if q / 2 ^ u % 2 = 1 then apM cm q u ||| cm u else apM cm q u
def apt (cm : Nat → Nat) (q : Nat) : Prop := ∀ u, u < 5 → q / 2 ^ u % 2 = 1 → apM cm q u &&& cm u = 0
theorem apM_y {cm : Nat → Nat} {q u : Nat} (h : q / 2 ^ u % 2 = 1) : nI (apM cm q u) ||| nI (cm u) = nI (apM cm q (u + 1)) := by rw [fa_or, apM, if_pos h]
theorem apM_n {cm : Nat → Nat} {q u : Nat} (h : ¬ q / 2 ^ u % 2 = 1) : apM cm q (u + 1) = apM cm q u := by rw [apM, if_neg h]
theorem and_lt32 {x y : Nat} (h : y < 32) : x &&& y < 32 := Nat.lt_of_le_of_lt Nat.and_le_right h
noncomputable def codeN (cm : Nat → Nat) : Nat → Nat
  | 0 => 0
  | n + 1 => pI (popN (codeN cm n) < popN n ∧ apt cm n) n (codeN cm n)
theorem codeN_1 {cm : Nat → Nat} : codeN cm 1 = 0 := by rw [codeN, pI_f (fun z => absurd z.1 (Nat.not_lt_zero _)), codeN]
theorem codeN_y {cm : Nat → Nat} {n : Nat} (h : popN (codeN cm n) < popN n) (h2 : apt cm n) : codeN cm (n + 1) = n := by rw [codeN, pI_t ⟨h, h2⟩]
theorem codeN_n {cm : Nat → Nat} {n : Nat} (h : ¬ (popN (codeN cm n) < popN n ∧ apt cm n)) : codeN cm (n + 1) = codeN cm n := by rw [codeN, pI_f h]
theorem codeN_lt {cm : Nat → Nat} : ∀ {n : Nat}, n ≤ 32 → codeN cm n < 32
  | 0, _ => by rw [codeN]; decide
  | n + 1, h => by
    by_cases q : popN (codeN cm n) < popN n ∧ apt cm n
    · rw [codeN_y q.1 q.2]; omega
    · rw [codeN_n q]; exact codeN_lt (by omega)
theorem apM_congr {cm dm : Nat → Nat} {q : Nat} (h : ∀ j, j < 5 → cm j = dm j) : ∀ {u : Nat}, u ≤ 5 → apM cm q u = apM dm q u
  | 0, _ => rfl
  | u + 1, hu => by rw [apM, apM, apM_congr h (by omega), h u (by omega)]
theorem apt_congr {cm dm : Nat → Nat} {q : Nat} (h : ∀ j, j < 5 → cm j = dm j) : apt cm q ↔ apt dm q := by
  unfold apt
  refine forall_congr' (fun u => forall_congr' (fun hu => ?_))
  rw [apM_congr h (by omega), h u hu]
theorem codeN_congr {cm dm : Nat → Nat} (h : ∀ j, j < 5 → cm j = dm j) : ∀ n, codeN cm n = codeN dm n
  | 0 => rfl
  | n + 1 => by rw [codeN, codeN, codeN_congr h n]; exact pI_iff (and_congr_right (fun _ => apt_congr h))
theorem up_fn {t F : Nat → Nat} {i : Nat} (h : ∀ j, j < i → t j = F j) : ∀ j, j < i + 1 → va_up t i (F i) j = F j := by
  intro j hj
  by_cases e : j = i
  · rw [e, va_up_self]
  · rw [va_up_ne _ _ e]; exact h j (by omega)
theorem way_sum {tn : Nat → Nat} {k u : Nat} (hu : u < 5) (h : sumN (slT tn k u) 5 ≤ 10) : wayT tn k u 0 + wayT tn k u 1 + wayT tn k u 2 + wayT tn k u 3 + wayT tn k u 4 ≤ 10 := by
  rw [sum5] at h
  unfold wayT
  rw [sum5]
  rcases (show u = 0 ∨ u = 1 ∨ u = 2 ∨ u = 3 ∨ u = 4 by omega) with rfl | rfl | rfl | rfl | rfl <;> simp <;> omega
theorem mul5 (p a b d e f : Nat) (h : a + b + d + e + f ≤ 10) : p * a + p * b + p * d + p * e + p * f ≤ p * 10 := by
  rw [← Nat.mul_add, ← Nat.mul_add, ← Nat.mul_add, ← Nat.mul_add]
  exact Nat.mul_le_mul_left p h
theorem nextP_sum {tn kd : Nat → Nat} {k : Nat} {P : Nat → Nat} (h : ∀ u, u < 5 → sumN (slT tn k u) 5 ≤ 10) : sumN (nextP tn kd k P) 5 ≤ 10 * sumN P 5 := by
  have w0 := mul5 (P 0) _ _ _ _ _ (way_sum (by decide) (h 0 (by decide)))
  have w1 := mul5 (P 1) _ _ _ _ _ (way_sum (by decide) (h 1 (by decide)))
  have w2 := mul5 (P 2) _ _ _ _ _ (way_sum (by decide) (h 2 (by decide)))
  have w3 := mul5 (P 3) _ _ _ _ _ (way_sum (by decide) (h 3 (by decide)))
  have w4 := mul5 (P 4) _ _ _ _ _ (way_sum (by decide) (h 4 (by decide)))
  rw [sum5, sum5 P]
  unfold nextP
  rw [sum5, sum5, sum5, sum5, sum5]
  by_cases q : kd k = 2
  · simp only [turnN, q, if_true]
    simp
    omega
  · simp only [turnN, q, if_false]
    omega
theorem spP_sum {tn kd : Nat → Nat} {f o : Nat} (hok : ArmyOk kd tn) (ho : o < 5) : ∀ {n : Nat}, f + n < 7 → sumN (spP tn kd f o n) 5 ≤ 10 ^ n
  | 0, _ => by
    have ht := turnN_lt (kk := kd f) ho
    rw [sum5]
    simp only [spP]
    rcases (show turnN (kd f) o = 0 ∨ turnN (kd f) o = 1 ∨ turnN (kd f) o = 2 ∨ turnN (kd f) o = 3 ∨ turnN (kd f) o = 4 by omega) with e | e | e | e | e <;> rw [e] <;> decide
  | n + 1, h => by
    have ih := spP_sum hok ho (n := n) (f := f) (by omega)
    have h2 := nextP_sum (kd := kd) (k := f + n + 1) (P := spP tn kd f o n) (fun u hu => hok.2.2 _ u (by omega) hu)
    rw [Nat.pow_succ]
    show sumN (nextP tn kd (f + n + 1) (spP tn kd f o n)) 5 ≤ _
    omega
theorem spP_le {tn kd : Nat → Nat} {f o n : Nat} (hok : ArmyOk kd tn) (h : f + n < 7) (ho : o < 5) (v : Nat) (hv : v < 5) : spP tn kd f o n v ≤ 10 ^ n := by
  have h2 := spP_sum hok ho h
  rw [sum5] at h2
  rcases (show v = 0 ∨ v = 1 ∨ v = 2 ∨ v = 3 ∨ v = 4 by omega) with rfl | rfl | rfl | rfl | rfl <;> omega
theorem pow_b {n : Nat} (h : n ≤ 6) : 0 < 10 ^ n ∧ 10 ^ n ≤ 1000000 := ⟨Nat.pow_pos (by decide), Nat.pow_le_pow_right (n := 10) (by decide) h⟩
theorem spP_b {tn kd : Nat → Nat} {f o n : Nat} (hok : ArmyOk kd tn) (h : f + n < 7) (ho : o < 5) (v : Nat) (hv : v < 5) : spP tn kd f o n v ≤ 1000000 :=
  Nat.le_trans (spP_le hok h ho v hv) (pow_b (by omega)).2
def t23 (p w : Nat) (z : Int32) : Nat := ltT (p * p * (3 * w - 2 * p)) (w * w * w) z
theorem t23_b {p w : Nat} (hp : p ≤ 1000000) (hw : w ≤ 1000000) : p * p * (3 * w - 2 * p) < 9223372036854775808 := by
  have h1 : p * p ≤ 1000000 * 1000000 := Nat.mul_le_mul hp hp
  have h2 : 3 * w - 2 * p ≤ 3000000 := by omega
  have h3 := Nat.mul_le_mul h1 h2
  omega
theorem t23_c {w : Nat} (h0 : 0 < w) (hw : w ≤ 1000000) : 0 < w * w * w ∧ w * w * w < 9223372036854775808 := by
  refine ⟨Nat.mul_pos (Nat.mul_pos h0 h0) h0, ?_⟩
  have h3 := Nat.mul_le_mul (Nat.mul_le_mul hw hw) hw
  omega
def hlpP (tn kd : Nat → Nat) (rk o r : Nat) : Nat := spP tn kd r o (rk - 1 - r) o * 10 ^ (r - 1)
def hlpS (P : Nat → Nat) : Nat → Int32 × Nat
  | 0 => (-9, 0)
  | r + 1 => if (hlpS P r).2 < P (r + 1) + 1 then (nI (r + 1), P (r + 1) + 1) else hlpS P r
def BqR (q : Nat) (b : Int64) : Prop := (q = 0 ∧ b = -1) ∨ (0 < q ∧ q < 4611686018427387904 ∧ b = lN (q - 1))
theorem hlpP_b {tn kd : Nat → Nat} {rk o r : Nat} (hok : ArmyOk kd tn) (ho : o < 5) (h : 1 ≤ r ∧ r < rk ∧ rk < 8) : hlpP tn kd rk o r < 4611686018427387903 := by
  unfold hlpP
  have h1 := spP_b (f := r) (n := rk - 1 - r) hok (by omega) ho o ho
  have h2 := (pow_b (n := r - 1) (by omega)).2
  have h3 := Nat.mul_le_mul h1 h2
  omega
theorem Bq_cmp {q a : Nat} {b : Int64} (h : BqR q b) (ha : a < 4611686018427387903) : b < lN a ↔ q < a + 1 := by
  rcases h with ⟨rfl, rfl⟩ | ⟨h1, h2, rfl⟩
  · refine ⟨fun _ => by omega, fun _ => ?_⟩
    rw [Int64.lt_iff_toInt_lt, pk_lT (by omega)]
    have e : (-1 : Int64).toInt = -1 := by decide
    omega
  · rw [pk_lLT (by omega) (by omega)]
    omega
theorem hlpS_y {P : Nat → Nat} {i : Nat} {b : Int64} (h : BqR (hlpS P i).2 b) (hb : P (i + 1) < 4611686018427387903) (hc : ¬ lN (P (i + 1)) ≤ b) : (hlpS P (i + 1)).1 = nI (i + 1) := by
  rw [hlpS, if_pos ((Bq_cmp h hb).mp (Int64.not_le.mp hc))]
theorem hlpS_n {P : Nat → Nat} {i : Nat} {b : Int64} (h : BqR (hlpS P i).2 b) (hb : P (i + 1) < 4611686018427387903) (hc : lN (P (i + 1)) ≤ b) : (hlpS P (i + 1)).1 = (hlpS P i).1 := by
  rw [hlpS, if_neg (fun z => Int64.not_lt.mpr hc ((Bq_cmp h hb).mpr z))]
theorem BqR_y {P : Nat → Nat} {i : Nat} {b : Int64} (h : BqR (hlpS P i).2 b) (hb : P (i + 1) < 4611686018427387903) (hc : ¬ lN (P (i + 1)) ≤ b) : BqR (hlpS P (i + 1)).2 (lN (P (i + 1))) := by
  rw [hlpS, if_pos ((Bq_cmp h hb).mp (Int64.not_le.mp hc))]
  exact Or.inr ⟨Nat.succ_pos _, by omega, by rw [Nat.add_sub_cancel]⟩
theorem BqR_n {P : Nat → Nat} {i : Nat} {b : Int64} (h : BqR (hlpS P i).2 b) (hb : P (i + 1) < 4611686018427387903) (hc : lN (P (i + 1)) ≤ b) : BqR (hlpS P (i + 1)).2 b := by
  rw [hlpS, if_neg (fun z => Int64.not_lt.mpr hc ((Bq_cmp h hb).mpr z))]
  exact h
theorem m1_gtT {rk r : Nat} (h : nI rk + Int32.ofInt (-1) < nI r) (hk : rk < 2147483648) (hr : r < 2147483648) : rk ≤ r := by
  rcases Nat.eq_zero_or_pos rk with e | e
  · omega
  · rw [nI_dec e] at h
    have := n_ltT h (by omega) hr
    omega
theorem m1_gtF {rk r : Nat} (h : ¬ nI rk + Int32.ofInt (-1) < nI r) (hk : rk < 2147483648) (hr : r < 2147483648) : r < rk := by
  rcases Nat.eq_zero_or_pos rk with e | e
  · rw [e] at h
    refine absurd ?_ h
    rw [Int32.lt_iff_toInt_lt, nI_toInt hr]
    have e1 : (nI 0 + Int32.ofInt (-1)).toInt = -1 := by decide
    omega
  · rw [nI_dec e] at h
    have := n_ltF h (by omega) hr
    omega
def TcP (rk : Nat) (r u : Int32) (d : Nat) (tr tq td : Nat → Nat) (tc : Nat) (tr1 tq1 td1 : Nat → Nat) (tc1 : Nat) (res : Int32) : Prop :=
  (∀ k o, k < rk → o < 5 → r = nI k → u = nI o → (tc < 6 → res = nI (tc + 1) ∧ tc1 = tc + 1 ∧ tr1 = va_up tr tc k ∧ tq1 = va_up tq tc o ∧ td1 = va_up td tc d) ∧ (¬ tc < 6 → res = -4 ∧ tc1 = tc ∧ tr1 = tr ∧ tq1 = tq ∧ td1 = td)) ∧ (¬ (isR rk r ∧ isR 5 u) → res = -1 ∧ tc1 = tc ∧ tr1 = tr ∧ tq1 = tq ∧ td1 = td)
theorem TcP_no {rk : Nat} {r u : Int32} {d tc : Nat} {tr tq td : Nat → Nat} (h : ¬ (isR rk r ∧ isR 5 u)) : TcP rk r u d tr tq td tc tr tq td tc (-1) := ⟨fun k o h1 h2 h3 h4 => absurd ⟨⟨k, h1, h3⟩, ⟨o, h2, h4⟩⟩ h, fun _ => ⟨rfl, rfl, rfl, rfl, rfl⟩⟩
theorem TcP_full {rk k o : Nat} {d tc : Nat} {tr tq td : Nat → Nat} (hn : rk < 2147483648) (hk : k < rk) (ho : o < 5) (h : ¬ tc < 6) : TcP rk (nI k) (nI o) d tr tq td tc tr tq td tc (-4) :=
  ⟨fun q1 q2 h1 h2 h3 h4 => ⟨fun z => absurd z h, fun _ => ⟨rfl, rfl, rfl, rfl, rfl⟩⟩, fun z => absurd ⟨⟨k, hk, rfl⟩, ⟨o, ho, rfl⟩⟩ z⟩
theorem TcP_ok {rk k o : Nat} {d tc : Nat} {tr tq td : Nat → Nat} (hn : rk < 2147483648) (hk : k < rk) (ho : o < 5) (h : tc < 6) : TcP rk (nI k) (nI o) d tr tq td tc (va_up tr tc k) (va_up tq tc o) (va_up td tc d) (tc + 1) (nI (tc + 1)) :=
  ⟨fun q1 q2 h1 h2 h3 h4 => by rw [← (nI_eq (by omega) (by omega)).mp h3, ← (nI_eq (by omega) (by omega)).mp h4]; exact ⟨fun _ => ⟨rfl, rfl, rfl, rfl, rfl⟩, fun z => absurd h z⟩, fun z => absurd ⟨⟨k, hk, rfl⟩, ⟨o, ho, rfl⟩⟩ z⟩
theorem pI_le {P : Prop} {a b m : Nat} (ha : a ≤ m) (hb : b ≤ m) : pI P a b ≤ m := by
  by_cases h : P
  · rw [pI_t h]; exact ha
  · rw [pI_f h]; exact hb
theorem rowsP_b (tn kd tr tq td : Nat → Nat) (tc o : Nat) : ∀ n w, rowsP tn kd tr tq td tc o n w ≤ 5 ^ n
  | 0, w => pI_le (by decide) (by decide)
  | n + 1, w => by
    show pI _ _ _ ≤ _
    refine pI_le ?_ (Nat.zero_le _)
    unfold arrN
    have h : ∀ u, arrU tn (n + 1) (rowsP tn kd tr tq td tc o n) (turnN (kd (n + 1)) w) u ≤ 5 ^ n := fun u => by
      unfold arrU
      split
      · exact rowsP_b tn kd tr tq td tc o n u
      · exact Nat.zero_le _
    rw [sum5, Nat.pow_succ]
    have h0 := h 0
    have h1 := h 1
    have h2 := h 2
    have h3 := h 3
    have h4 := h 4
    omega
theorem cntN_b (tn kd tr tq td : Nat → Nat) (tc : Nat) {rk : Nat} (o : Nat) (h : rk < 8) : cntN tn kd tr tq td tc rk o ≤ 78125 := by
  unfold cntN
  split
  · omega
  · have h5 : 5 ^ (rk - 1) ≤ 15625 := Nat.pow_le_pow_right (n := 5) (j := 6) (by decide) (by omega)
    rw [sum5]
    have h0 := rowsP_b tn kd tr tq td tc o (rk - 1) 0
    have h1 := rowsP_b tn kd tr tq td tc o (rk - 1) 1
    have h2 := rowsP_b tn kd tr tq td tc o (rk - 1) 2
    have h3 := rowsP_b tn kd tr tq td tc o (rk - 1) 3
    have h4 := rowsP_b tn kd tr tq td tc o (rk - 1) 4
    omega
set_option maxHeartbeats 4000000 in
set_option maxRecDepth 100000 in
theorem c_J6_bitCount_0f7a4 {l : Launch} {G : va_G} {cI cJ cZ cS : ClassId} (x0 : Nat) (hx0 : x0 < 32) : CI l G (kT cI cJ cZ cS) (S := Unit) yJ6_bitCount_0f7a4 wsJ6_bitCount_0f7a4 { frames := 0, cells := 0, slots := 0, locals := 0 } [.int (nI x0)] [] (fun res _ => res = nI (popN x0)) (fun _ => []) := by
  refine CI.of (cc := cJ6_bitCount_0f7a4) (maxL := 1) (by decide) rfl (Nat.le_of_ble_eq_true rfl) ?_
  intro p9 e9 s m below meth co9 A ls hB
  obtain ⟨hx, hb, hml, hr, hts, hown, hlocks, hmn, hK, hP, hD, hS, hA, hl⟩ := hB
  have hP : va_P G vwCl [] s.heap := hP
  have hD : va_D A [] := hD
  have hl : lv_has ls 1 [(0, .int (nI x0))] := hl
  have k_0 := hts (.constant RJ6 265 (1431655765)) (by decide +kernel)
  have k_1 := hts (.constant RJ6 266 (858993459)) (by decide +kernel)
  have k_2 := hts (.constant RJ6 267 (252645135)) (by decide +kernel)
  refine lv_iload_n hx hb dJ6_bitCount_0f7a4_0 rfl (lv_at hl 0 rfl) ?_
  refine lv_iload_n hx hb dJ6_bitCount_0f7a4_1 rfl (lv_at hl 0 rfl) ?_
  refine lv_iconst (v := nI 1) hx hb dJ6_bitCount_0f7a4_2 (by decide) ?_
  refine lv_iushr (v := ((nI x0).toUInt32 >>> ((nI 1).toUInt32 &&& Int32.toUInt32 31)).toInt32) hx hb dJ6_bitCount_0f7a4_3 rfl ?_
  refine lv_ldcw (v := (1431655765 : Int32)) hx hb hown k_0 dJ6_bitCount_0f7a4_4 ?_
  refine lv_iand hx hb dJ6_bitCount_0f7a4_7 ?_
  refine lv_isub hx hb dJ6_bitCount_0f7a4_8 ?_
  refine lv_topi (fun x1 e1 => ?_)
  refine lv_istore_n (lv' := [(0, .int x1)]) hx hb dJ6_bitCount_0f7a4_9 rfl hl (by decide) rfl (fun ls hl => ?_)
  refine lv_iload_n hx hb dJ6_bitCount_0f7a4_10 rfl (lv_at hl 0 rfl) ?_
  refine lv_ldcw (v := (858993459 : Int32)) hx hb hown k_1 dJ6_bitCount_0f7a4_11 ?_
  refine lv_iand hx hb dJ6_bitCount_0f7a4_14 ?_
  refine lv_iload_n hx hb dJ6_bitCount_0f7a4_15 rfl (lv_at hl 0 rfl) ?_
  refine lv_iconst (v := nI 2) hx hb dJ6_bitCount_0f7a4_16 (by decide) ?_
  refine lv_iushr (v := ((x1).toUInt32 >>> ((nI 2).toUInt32 &&& Int32.toUInt32 31)).toInt32) hx hb dJ6_bitCount_0f7a4_17 rfl ?_
  refine lv_ldcw (v := (858993459 : Int32)) hx hb hown k_1 dJ6_bitCount_0f7a4_18 ?_
  refine lv_iand hx hb dJ6_bitCount_0f7a4_21 ?_
  refine lv_iadd hx hb dJ6_bitCount_0f7a4_22 ?_
  refine lv_topi (fun x2 e2 => ?_)
  refine lv_istore_n (lv' := [(0, .int x2)]) hx hb dJ6_bitCount_0f7a4_23 rfl hl (by decide) rfl (fun ls hl => ?_)
  refine lv_iload_n hx hb dJ6_bitCount_0f7a4_24 rfl (lv_at hl 0 rfl) ?_
  refine lv_iload_n hx hb dJ6_bitCount_0f7a4_25 rfl (lv_at hl 0 rfl) ?_
  refine lv_iconst (v := nI 4) hx hb dJ6_bitCount_0f7a4_26 (by decide) ?_
  refine lv_iushr (v := ((x2).toUInt32 >>> ((nI 4).toUInt32 &&& Int32.toUInt32 31)).toInt32) hx hb dJ6_bitCount_0f7a4_27 rfl ?_
  refine lv_iadd hx hb dJ6_bitCount_0f7a4_28 ?_
  refine lv_ldcw (v := (252645135 : Int32)) hx hb hown k_2 dJ6_bitCount_0f7a4_29 ?_
  refine lv_iand hx hb dJ6_bitCount_0f7a4_32 ?_
  refine lv_topi (fun x3 e3 => ?_)
  refine lv_istore_n (lv' := [(0, .int x3)]) hx hb dJ6_bitCount_0f7a4_33 rfl hl (by decide) rfl (fun ls hl => ?_)
  refine lv_iload_n hx hb dJ6_bitCount_0f7a4_34 rfl (lv_at hl 0 rfl) ?_
  refine lv_iload_n hx hb dJ6_bitCount_0f7a4_35 rfl (lv_at hl 0 rfl) ?_
  refine lv_bipush (v := nI 8) hx hb dJ6_bitCount_0f7a4_36 (by decide) ?_
  refine lv_iushr (v := ((x3).toUInt32 >>> ((nI 8).toUInt32 &&& Int32.toUInt32 31)).toInt32) hx hb dJ6_bitCount_0f7a4_38 rfl ?_
  refine lv_iadd hx hb dJ6_bitCount_0f7a4_39 ?_
  refine lv_topi (fun x4 e4 => ?_)
  refine lv_istore_n (lv' := [(0, .int x4)]) hx hb dJ6_bitCount_0f7a4_40 rfl hl (by decide) rfl (fun ls hl => ?_)
  refine lv_iload_n hx hb dJ6_bitCount_0f7a4_41 rfl (lv_at hl 0 rfl) ?_
  refine lv_iload_n hx hb dJ6_bitCount_0f7a4_42 rfl (lv_at hl 0 rfl) ?_
  refine lv_bipush (v := nI 16) hx hb dJ6_bitCount_0f7a4_43 (by decide) ?_
  refine lv_iushr (v := ((x4).toUInt32 >>> ((nI 16).toUInt32 &&& Int32.toUInt32 31)).toInt32) hx hb dJ6_bitCount_0f7a4_45 rfl ?_
  refine lv_iadd hx hb dJ6_bitCount_0f7a4_46 ?_
  refine lv_topi (fun x5 e5 => ?_)
  refine lv_istore_n (lv' := [(0, .int x5)]) hx hb dJ6_bitCount_0f7a4_47 rfl hl (by decide) rfl (fun ls hl => ?_)
  refine lv_iload_n hx hb dJ6_bitCount_0f7a4_48 rfl (lv_at hl 0 rfl) ?_
  refine lv_bipush (v := nI 63) hx hb dJ6_bitCount_0f7a4_49 (by decide) ?_
  refine lv_iand hx hb dJ6_bitCount_0f7a4_51 ?_
  exact endI hx hb hr hlocks (()) (bitC hx0 e1 e2 e3 e4 e5) (hP.sub [] rfl) (hD.sub [] (by decide) rfl) hS dJ6_bitCount_0f7a4_52

set_option maxHeartbeats 4000000 in
set_option maxRecDepth 100000 in
theorem c_X9_write {l : Launch} {G : va_G} {cI cJ cZ cS : ClassId} (ad : Nat → Nat → Nat) (tx : Nat → Nat) (ln : Nat) (n : Int32) (v : Int64) (hln : ln ≤ 64) : CI l G (kT cI cJ cZ cS) (S := (Nat → Nat) × Nat) yX9_write wsX9_write { frames := 1, cells := 0, slots := 0, locals := 24 } [.ref (ad 0 0), .int n, .long v] [(ad 0 0, .inr (9, [.ref (ad 1 0), .ref (ad 2 0), .ref (ad 4 0), .ref (ad 5 0), .ref (ad 6 0), .ref (ad 7 0), .ref (ad 8 0), .ref (ad 9 0), .ref (ad 10 0), .ref (ad 11 0), .ref (ad 12 0)])), (ad 1 0, .inr (7, [.ref (ad 1 1), .int (nI ln)])), (ad 1 1, .inl (cI, 64, .inl (fun i9 => nI (tx i9))))] (fun res uu9 => match uu9 with | (t1, n1) => WrP n v tx ln t1 n1 res) (fun uu9 => match uu9 with | (t1, n1) => [(ad 0 0, .inr (9, [.ref (ad 1 0), .ref (ad 2 0), .ref (ad 4 0), .ref (ad 5 0), .ref (ad 6 0), .ref (ad 7 0), .ref (ad 8 0), .ref (ad 9 0), .ref (ad 10 0), .ref (ad 11 0), .ref (ad 12 0)])), (ad 1 0, .inr (7, [.ref (ad 1 1), .int (nI n1)])), (ad 1 1, .inl (cI, 64, .inl (fun i9 => nI (t1 i9))))]) := by
  refine CI.of (cc := cX9_write) (maxL := 4) (by decide) rfl (Nat.le_of_ble_eq_true rfl) ?_
  intro p9 e9 s m below meth co9 A ls hB
  obtain ⟨hx, hb, hml, hr, hts, hown, hlocks, hmn, hK, hP, hD, hS, hA, hl⟩ := hB
  have hP : va_P G vwCl [(ad 0 0, .inr (9, [.ref (ad 1 0), .ref (ad 2 0), .ref (ad 4 0), .ref (ad 5 0), .ref (ad 6 0), .ref (ad 7 0), .ref (ad 8 0), .ref (ad 9 0), .ref (ad 10 0), .ref (ad 11 0), .ref (ad 12 0)])), (ad 1 0, .inr (7, [.ref (ad 1 1), .int (nI ln)])), (ad 1 1, .inl (cI, 64, .inl (fun i9 => nI (tx i9))))] s.heap := hP
  have hD : va_D A [(ad 0 0, .inr (9, [.ref (ad 1 0), .ref (ad 2 0), .ref (ad 4 0), .ref (ad 5 0), .ref (ad 6 0), .ref (ad 7 0), .ref (ad 8 0), .ref (ad 9 0), .ref (ad 10 0), .ref (ad 11 0), .ref (ad 12 0)])), (ad 1 0, .inr (7, [.ref (ad 1 1), .int (nI ln)])), (ad 1 1, .inl (cI, 64, .inl (fun i9 => nI (tx i9))))] := hD
  have hl : lv_has ls 4 [(0, .ref (ad 0 0)), (1, .int n), (2, .long v)] := hl
  have k_0 := hts (.fieldLink RX9 10 "HearsayMarch" "text" "LHearsayMarch$Text;") (by decide +kernel)
  have k_1 := hts (.fieldLink RX9 91 "HearsayMarch$Text" "length" "I") (by decide +kernel)
  have hin7 : ∀ w ∈ wsX70, w ∈ wsX9_write := by decide +kernel
  have hin9 : ∀ w ∈ wsX90, w ∈ wsX9_write := by decide +kernel
  refine lv_iload_n hx hb dX9_write_0 rfl (lv_at hl 1 rfl) ?_
  refine lv_iconst (v := nI 1) hx hb dX9_write_1 (by decide) ?_
  refine lv_icmp_lt (tgt := 11) hx hb dX9_write_2 (by decide) (fun c_2 => ?_) (fun c_2 => ?_)
  · skip
    refine lv_bipush (v := (-2)) hx hb dX9_write_11 (by decide) ?_
    exact endI hx hb hr hlocks ((tx, ln)) (WrP_bad (fun k h1 h2 => fun z => by subst z; exact absurd (n_ltT c_2 (by omega) (by omega)) (by omega))) (hP.sub [0, 1, 2] rfl) (hD.sub [0, 1, 2] (by decide) rfl) hS dX9_write_13
  · skip
    obtain ⟨k, htb, rfl⟩ := ge1_nat c_2
    have hk1 := n_ltF c_2 htb (by omega)
    refine lv_iload_n hx hb dX9_write_5 rfl (lv_at hl 1 rfl) ?_
    refine lv_bipush (v := nI 8) hx hb dX9_write_6 (by decide) ?_
    refine lv_icmp_le (tgt := 14) hx hb dX9_write_8 (by decide) (fun c_8 => ?_) (fun c_8 => ?_)
    · skip
      have c_8 := n_leT c_8 (by omega) (by omega)
      refine lv_aload_n hx hb dX9_write_14 rfl (lv_at hl 0 rfl) ?_
      refine va_get (D := G) (ci := 9) (v := .ref (ad 1 0)) (C := RX9) (T := TX9) (N := 11) hx hb hts hin9 hown hK.1 hP 0 rfl rfl 0 (by decide) k_0 (fun _ h9 => h9) rfl dX9_write_15 ?_
      refine lv_iload_n hx hb dX9_write_18 rfl (lv_at hl 1 rfl) ?_
      refine aft_i (wr := [(ad 0 0, .inr (9, [.ref (ad 1 0), .ref (ad 2 0), .ref (ad 4 0), .ref (ad 5 0), .ref (ad 6 0), .ref (ad 7 0), .ref (ad 8 0), .ref (ad 9 0), .ref (ad 10 0), .ref (ad 11 0), .ref (ad 12 0)]))]) (va_runV (As := [.int (nI k)]) (rest := []) ⟨hx, hb, hml, hown, hts⟩ (c_X7_hasRoomFor (h := (ad 1)) (tx := tx) (tn := ln) (n := k) (hn := by first | assumption | omega | exact hok.1 _ (by omega) | exact hok.2.2 _ _ (by omega) (by omega) | exact hok.2.1) (ht := by first | assumption | omega | exact hok.1 _ (by omega) | exact hok.2.2 _ _ (by omega) (by omega) | exact hok.2.1) _) (cwV 1 hts gX9_write_X7_hasRoomFor rfl rfl rfl (by decide +kernel) ⟨Nat.le_of_ble_eq_true rfl, Nat.le_of_ble_eq_true rfl⟩) (preV (cq := (RX7, TX7, 2)) (q0 := 1) (ci := 7) hK hP hD [1, 2] rfl rfl rfl rfl) rfl rfl hl.1 rfl (lv_room (Nat.le_of_ble_eq_true rfl)) dX9_write_19 ⟨Nat.le_of_ble_eq_true rfl, Nat.le_of_ble_eq_true rfl⟩) hP hD hS hA [1, 2] [0] rfl rfl rfl (by decide) (fun r_19 uu9 H locs hw hP hD hS => ?_)
      have hP : va_P G vwCl [(ad 0 0, .inr (9, [.ref (ad 1 0), .ref (ad 2 0), .ref (ad 4 0), .ref (ad 5 0), .ref (ad 6 0), .ref (ad 7 0), .ref (ad 8 0), .ref (ad 9 0), .ref (ad 10 0), .ref (ad 11 0), .ref (ad 12 0)])), (ad 1 0, .inr (7, [.ref ((ad 1) 1), .int (nI ln)])), (ad 1 1, .inl (cI, 64, .inl (fun i9 => nI (tx i9))))] _ := hP
      have hD : va_D A [(ad 0 0, .inr (9, [.ref (ad 1 0), .ref (ad 2 0), .ref (ad 4 0), .ref (ad 5 0), .ref (ad 6 0), .ref (ad 7 0), .ref (ad 8 0), .ref (ad 9 0), .ref (ad 10 0), .ref (ad 11 0), .ref (ad 12 0)])), (ad 1 0, .inr (7, [.ref ((ad 1) 1), .int (nI ln)])), (ad 1 1, .inl (cI, 64, .inl (fun i9 => nI (tx i9))))] := hD
      obtain rfl := hw
      refine top_i (y := bI (ln + k ≤ 64)) rfl ?_
      refine lv_if_ne (tgt := 28) hx hb dX9_write_22 (by decide) (fun c_22 => ?_) (fun c_22 => ?_)
      · skip
        have c_22 := bI_t c_22
        refine lv_aload_n hx hb dX9_write_28 rfl (lv_at hl 0 rfl) ?_
        refine va_get (D := G) (ci := 9) (v := .ref (ad 1 0)) (C := RX9) (T := TX9) (N := 11) hx hb hts hin9 hown hK.1 hP 0 rfl rfl 0 (by decide) k_0 (fun _ h9 => h9) rfl dX9_write_29 ?_
        refine lv_iload_n hx hb dX9_write_32 rfl (lv_at hl 1 rfl) ?_
        refine lv_lload_n hx hb dX9_write_33 rfl (lv_at hl 2 rfl) ?_
        refine aft_v (wr := [(ad 0 0, .inr (9, [.ref (ad 1 0), .ref (ad 2 0), .ref (ad 4 0), .ref (ad 5 0), .ref (ad 6 0), .ref (ad 7 0), .ref (ad 8 0), .ref (ad 9 0), .ref (ad 10 0), .ref (ad 11 0), .ref (ad 12 0)]))]) (va_runV (As := [.int (nI k), .long v]) (rest := []) ⟨hx, hb, hml, hown, hts⟩ (c_X7_append (h := (ad 1)) (tx := tx) (tn := ln) (n := k) (v := v) (hn := by first | assumption | omega | exact hok.1 _ (by omega) | exact hok.2.2 _ _ (by omega) (by omega) | exact hok.2.1) (hn8 := by first | assumption | omega | exact hok.1 _ (by omega) | exact hok.2.2 _ _ (by omega) (by omega) | exact hok.2.1) (ht := by first | assumption | omega | exact hok.1 _ (by omega) | exact hok.2.2 _ _ (by omega) (by omega) | exact hok.2.1) _) (cwV 2 hts gX9_write_X7_append rfl rfl rfl (by decide +kernel) ⟨Nat.le_of_ble_eq_true rfl, Nat.le_of_ble_eq_true rfl⟩) (preV (cq := (RX7, TX7, 2)) (q0 := 1) (ci := 7) hK hP hD [1, 2] rfl rfl rfl rfl) rfl rfl hl.1 rfl (lv_room (Nat.le_of_ble_eq_true rfl)) dX9_write_34 ⟨Nat.le_of_ble_eq_true rfl, Nat.le_of_ble_eq_true rfl⟩) hP hD hS hA [1, 2] [0] rfl rfl rfl (by decide) (fun uu9 H locs hw hP hD hS => ?_)
        obtain ⟨t1_34, rfl⟩ : ∃ z, z = uu9 := ⟨_, rfl⟩
        have hP : va_P G vwCl [(ad 0 0, .inr (9, [.ref (ad 1 0), .ref (ad 2 0), .ref (ad 4 0), .ref (ad 5 0), .ref (ad 6 0), .ref (ad 7 0), .ref (ad 8 0), .ref (ad 9 0), .ref (ad 10 0), .ref (ad 11 0), .ref (ad 12 0)])), (ad 1 0, .inr (7, [.ref ((ad 1) 1), .int (nI (ln + k))])), (ad 1 1, .inl (cI, 64, .inl (fun i9 => nI (t1_34 i9))))] _ := hP
        have hD : va_D A [(ad 0 0, .inr (9, [.ref (ad 1 0), .ref (ad 2 0), .ref (ad 4 0), .ref (ad 5 0), .ref (ad 6 0), .ref (ad 7 0), .ref (ad 8 0), .ref (ad 9 0), .ref (ad 10 0), .ref (ad 11 0), .ref (ad 12 0)])), (ad 1 0, .inr (7, [.ref ((ad 1) 1), .int (nI (ln + k))])), (ad 1 1, .inl (cI, 64, .inl (fun i9 => nI (t1_34 i9))))] := hD
        have hw_34 : ∀ j, t1_34 j = appT tx ln k k v j := hw
        refine lv_aload_n hx hb dX9_write_37 rfl (lv_at hl 0 rfl) ?_
        refine va_get (D := G) (ci := 9) (v := .ref (ad 1 0)) (C := RX9) (T := TX9) (N := 11) hx hb hts hin9 hown hK.1 hP 0 rfl rfl 0 (by decide) k_0 (fun _ h9 => h9) rfl dX9_write_38 ?_
        refine va_get (D := G) (ci := 7) (v := .int (nI (ln + k))) (C := RX7) (T := TX7) (N := 2) hx hb hts hin7 hown hK.1 hP 1 rfl rfl 1 (by decide) k_1 (fun _ h9 => h9) rfl dX9_write_41 ?_
        exact endI hx hb hr hlocks ((t1_34, ln + k)) (WrP_ok (k := k) (by omega) (by omega) rfl (by omega) hw_34) (hP.sub [0, 1, 2] rfl) (hD.sub [0, 1, 2] (by decide) rfl) hS dX9_write_44
      · skip
        have c_22 := bI_f c_22
        refine lv_bipush (v := (-4)) hx hb dX9_write_25 (by decide) ?_
        exact endI hx hb hr hlocks ((tx, ln)) (WrP_full (k := k) (by omega) (by omega) rfl (by omega)) (hP.sub [0, 1, 2] rfl) (hD.sub [0, 1, 2] (by decide) rfl) hS dX9_write_27
    · skip
      have c_8 := n_leF c_8 (by omega) (by omega)
      refine lv_bipush (v := (-2)) hx hb dX9_write_11 (by decide) ?_
      exact endI hx hb hr hlocks ((tx, ln)) (WrP_bad (fun k2 h1 h2 => fun z => by have e := (nI_eq (by omega) (by omega)).mp z; omega)) (hP.sub [0, 1, 2] rfl) (hD.sub [0, 1, 2] (by decide) rfl) hS dX9_write_13

set_option maxHeartbeats 4000000 in
set_option maxRecDepth 100000 in
theorem c_X9_wipe {l : Launch} {G : va_G} {cI cJ cZ cS : ClassId} (ad : Nat → Nat → Nat) (tx : Nat → Nat) (ln : Nat) : CI l G (kT cI cJ cZ cS) (S := Unit) yX9_wipe wsX9_wipe { frames := 1, cells := 0, slots := 0, locals := 20 } [.ref (ad 0 0)] [(ad 0 0, .inr (9, [.ref (ad 1 0), .ref (ad 2 0), .ref (ad 4 0), .ref (ad 5 0), .ref (ad 6 0), .ref (ad 7 0), .ref (ad 8 0), .ref (ad 9 0), .ref (ad 10 0), .ref (ad 11 0), .ref (ad 12 0)])), (ad 1 0, .inr (7, [.ref (ad 1 1), .int (nI ln)])), (ad 1 1, .inl (cI, 64, .inl (fun i9 => nI (tx i9))))] (fun res _ => res = nI ln) (fun _ => [(ad 0 0, .inr (9, [.ref (ad 1 0), .ref (ad 2 0), .ref (ad 4 0), .ref (ad 5 0), .ref (ad 6 0), .ref (ad 7 0), .ref (ad 8 0), .ref (ad 9 0), .ref (ad 10 0), .ref (ad 11 0), .ref (ad 12 0)])), (ad 1 0, .inr (7, [.ref (ad 1 1), .int (nI 0)])), (ad 1 1, .inl (cI, 64, .inl (fun i9 => nI (tx i9))))]) := by
  refine CI.of (cc := cX9_wipe) (maxL := 2) (by decide) rfl (Nat.le_of_ble_eq_true rfl) ?_
  intro p9 e9 s m below meth co9 A ls hB
  obtain ⟨hx, hb, hml, hr, hts, hown, hlocks, hmn, hK, hP, hD, hS, hA, hl⟩ := hB
  have hP : va_P G vwCl [(ad 0 0, .inr (9, [.ref (ad 1 0), .ref (ad 2 0), .ref (ad 4 0), .ref (ad 5 0), .ref (ad 6 0), .ref (ad 7 0), .ref (ad 8 0), .ref (ad 9 0), .ref (ad 10 0), .ref (ad 11 0), .ref (ad 12 0)])), (ad 1 0, .inr (7, [.ref (ad 1 1), .int (nI ln)])), (ad 1 1, .inl (cI, 64, .inl (fun i9 => nI (tx i9))))] s.heap := hP
  have hD : va_D A [(ad 0 0, .inr (9, [.ref (ad 1 0), .ref (ad 2 0), .ref (ad 4 0), .ref (ad 5 0), .ref (ad 6 0), .ref (ad 7 0), .ref (ad 8 0), .ref (ad 9 0), .ref (ad 10 0), .ref (ad 11 0), .ref (ad 12 0)])), (ad 1 0, .inr (7, [.ref (ad 1 1), .int (nI ln)])), (ad 1 1, .inl (cI, 64, .inl (fun i9 => nI (tx i9))))] := hD
  have hl : lv_has ls 2 [(0, .ref (ad 0 0))] := hl
  have k_0 := hts (.fieldLink RX9 10 "HearsayMarch" "text" "LHearsayMarch$Text;") (by decide +kernel)
  have k_1 := hts (.fieldLink RX9 91 "HearsayMarch$Text" "length" "I") (by decide +kernel)
  have hin7 : ∀ w ∈ wsX70, w ∈ wsX9_wipe := by decide +kernel
  have hin9 : ∀ w ∈ wsX90, w ∈ wsX9_wipe := by decide +kernel
  refine lv_aload_n hx hb dX9_wipe_0 rfl (lv_at hl 0 rfl) ?_
  refine va_get (D := G) (ci := 9) (v := .ref (ad 1 0)) (C := RX9) (T := TX9) (N := 11) hx hb hts hin9 hown hK.1 hP 0 rfl rfl 0 (by decide) k_0 (fun _ h9 => h9) rfl dX9_wipe_1 ?_
  refine va_get (D := G) (ci := 7) (v := .int (nI ln)) (C := RX7) (T := TX7) (N := 2) hx hb hts hin7 hown hK.1 hP 1 rfl rfl 1 (by decide) k_1 (fun _ h9 => h9) rfl dX9_wipe_4 ?_
  refine lv_istore_n (lv' := [(1, .int (nI ln)), (0, .ref (ad 0 0))]) hx hb dX9_wipe_7 rfl hl (by decide) rfl (fun ls hl => ?_)
  refine lv_aload_n hx hb dX9_wipe_8 rfl (lv_at hl 1 rfl) ?_
  refine va_get (D := G) (ci := 9) (v := .ref (ad 1 0)) (C := RX9) (T := TX9) (N := 11) hx hb hts hin9 hown hK.1 hP 0 rfl rfl 0 (by decide) k_0 (fun _ h9 => h9) rfl dX9_wipe_9 ?_
  refine aft_v (wr := [(ad 0 0, .inr (9, [.ref (ad 1 0), .ref (ad 2 0), .ref (ad 4 0), .ref (ad 5 0), .ref (ad 6 0), .ref (ad 7 0), .ref (ad 8 0), .ref (ad 9 0), .ref (ad 10 0), .ref (ad 11 0), .ref (ad 12 0)]))]) (va_runV (As := []) (rest := []) ⟨hx, hb, hml, hown, hts⟩ (c_X7_clear (h := (ad 1)) (tx := tx) (tn := ln) _) (cwV 0 hts gX9_wipe_X7_clear rfl rfl rfl (by decide +kernel) ⟨Nat.le_of_ble_eq_true rfl, Nat.le_of_ble_eq_true rfl⟩) (preV (cq := (RX7, TX7, 2)) (q0 := 1) (ci := 7) hK hP hD [1, 2] rfl rfl rfl rfl) rfl rfl hl.1 rfl (lv_room (Nat.le_of_ble_eq_true rfl)) dX9_wipe_12 ⟨Nat.le_of_ble_eq_true rfl, Nat.le_of_ble_eq_true rfl⟩) hP hD hS hA [1, 2] [0] rfl rfl rfl (by decide) (fun uu9 H locs hw hP hD hS => ?_)
  have hP : va_P G vwCl [(ad 0 0, .inr (9, [.ref (ad 1 0), .ref (ad 2 0), .ref (ad 4 0), .ref (ad 5 0), .ref (ad 6 0), .ref (ad 7 0), .ref (ad 8 0), .ref (ad 9 0), .ref (ad 10 0), .ref (ad 11 0), .ref (ad 12 0)])), (ad 1 0, .inr (7, [.ref ((ad 1) 1), .int (nI 0)])), (ad 1 1, .inl (cI, 64, .inl (fun i9 => nI (tx i9))))] _ := hP
  have hD : va_D A [(ad 0 0, .inr (9, [.ref (ad 1 0), .ref (ad 2 0), .ref (ad 4 0), .ref (ad 5 0), .ref (ad 6 0), .ref (ad 7 0), .ref (ad 8 0), .ref (ad 9 0), .ref (ad 10 0), .ref (ad 11 0), .ref (ad 12 0)])), (ad 1 0, .inr (7, [.ref ((ad 1) 1), .int (nI 0)])), (ad 1 1, .inl (cI, 64, .inl (fun i9 => nI (tx i9))))] := hD
  refine lv_iload_n hx hb dX9_wipe_15 rfl (lv_at hl 0 rfl) ?_
  exact endI hx hb hr hlocks (()) (rfl) (hP.sub [0, 1, 2] rfl) (hD.sub [0, 1, 2] (by decide) rfl) hS dX9_wipe_16

set_option maxHeartbeats 4000000 in
set_option maxRecDepth 100000 in
theorem c_X9_about {l : Launch} {G : va_G} {cI cJ cZ cS : ClassId} (ad : Nat → Nat → Nat) (kd : Nat → Nat) (tn : Nat → Nat) (rk : Nat) (sl : Nat) (v : Nat → Nat → Int32) (mi : Int32) (se : Int64) (tx : Nat → Nat) (ln : Nat) (tr : Nat → Nat) (tq : Nat → Nat) (td : Nat → Nat) (tc : Nat) (ah : Nat → Nat) (fi : Nat) (ac : Nat) (q : Int32) (hrk : rk < 8) : CI l G (kT cI cJ cZ cS) (S := Unit) yX9_about wsX9_about { frames := 1, cells := 0, slots := 0, locals := 23 } [.ref (ad 0 0), .int q] [(ad 0 0, .inr (9, [.ref (ad 1 0), .ref (ad 2 0), .ref (ad 4 0), .ref (ad 5 0), .ref (ad 6 0), .ref (ad 7 0), .ref (ad 8 0), .ref (ad 9 0), .ref (ad 10 0), .ref (ad 11 0), .ref (ad 12 0)])), (ad 4 0, .inr (1, [.ref (ad 4 1), .ref (ad 4 2), .int (nI rk), .int (nI sl)])), (ad 4 1, .inl (cI, 7, .inl (fun i9 => nI (kd i9)))), (ad 4 2, .inl (cI, 175, .inl (fun i9 => nI (tn i9)))), (ad 5 0, .inr (5, [.ref (ad 5 1), .ref (ad 5 2), .ref (ad 5 3), .ref (ad 5 4), .ref (ad 5 5), .ref (ad 5 6), .ref (ad 5 7), .int mi, .long se])), (ad 5 1, .inl (cI, 7, .inl (v 0))), (ad 5 2, .inl (cI, 7, .inl (v 1))), (ad 5 3, .inl (cI, 7, .inl (v 5))), (ad 5 4, .inl (cI, 7, .inl (v 2))), (ad 5 5, .inl (cI, 7, .inl (v 3))), (ad 5 6, .inl (cI, 7, .inl (v 4))), (ad 5 7, .inl (cZ, 7, .inl (v 6))), (ad 7 0, .inr (0, [.ref (ad 7 1), .int (nI fi), .int (nI ac)])), (ad 9 0, .inr (8, [.ref (ad 9 1), .ref (ad 9 2), .ref (ad 9 3), .int (nI tc)])), (ad 9 1, .inl (cI, 6, .inl (fun i9 => nI (tr i9)))), (ad 9 2, .inl (cI, 6, .inl (fun i9 => nI (tq i9)))), (ad 9 3, .inl (cZ, 6, .inl (fun i9 => nI (td i9)))), (ad 1 0, .inr (7, [.ref (ad 1 1), .int (nI ln)])), (ad 1 1, .inl (cI, 64, .inl (fun i9 => nI (tx i9))))] (fun res _ => res = abI q rk sl mi (slpI v rk) (hrsI v rk) ac tc ln) (fun _ => [(ad 0 0, .inr (9, [.ref (ad 1 0), .ref (ad 2 0), .ref (ad 4 0), .ref (ad 5 0), .ref (ad 6 0), .ref (ad 7 0), .ref (ad 8 0), .ref (ad 9 0), .ref (ad 10 0), .ref (ad 11 0), .ref (ad 12 0)])), (ad 4 0, .inr (1, [.ref (ad 4 1), .ref (ad 4 2), .int (nI rk), .int (nI sl)])), (ad 4 1, .inl (cI, 7, .inl (fun i9 => nI (kd i9)))), (ad 4 2, .inl (cI, 175, .inl (fun i9 => nI (tn i9)))), (ad 5 0, .inr (5, [.ref (ad 5 1), .ref (ad 5 2), .ref (ad 5 3), .ref (ad 5 4), .ref (ad 5 5), .ref (ad 5 6), .ref (ad 5 7), .int mi, .long se])), (ad 5 1, .inl (cI, 7, .inl (v 0))), (ad 5 2, .inl (cI, 7, .inl (v 1))), (ad 5 3, .inl (cI, 7, .inl (v 5))), (ad 5 4, .inl (cI, 7, .inl (v 2))), (ad 5 5, .inl (cI, 7, .inl (v 3))), (ad 5 6, .inl (cI, 7, .inl (v 4))), (ad 5 7, .inl (cZ, 7, .inl (v 6))), (ad 7 0, .inr (0, [.ref (ad 7 1), .int (nI fi), .int (nI ac)])), (ad 9 0, .inr (8, [.ref (ad 9 1), .ref (ad 9 2), .ref (ad 9 3), .int (nI tc)])), (ad 9 1, .inl (cI, 6, .inl (fun i9 => nI (tr i9)))), (ad 9 2, .inl (cI, 6, .inl (fun i9 => nI (tq i9)))), (ad 9 3, .inl (cZ, 6, .inl (fun i9 => nI (td i9)))), (ad 1 0, .inr (7, [.ref (ad 1 1), .int (nI ln)])), (ad 1 1, .inl (cI, 64, .inl (fun i9 => nI (tx i9))))]) := by
  refine CI.of (cc := cX9_about) (maxL := 2) (by decide) rfl (Nat.le_of_ble_eq_true rfl) ?_
  intro p9 e9 s m below meth co9 A ls hB
  obtain ⟨hx, hb, hml, hr, hts, hown, hlocks, hmn, hK, hP, hD, hS, hA, hl⟩ := hB
  have hP : va_P G vwCl [(ad 0 0, .inr (9, [.ref (ad 1 0), .ref (ad 2 0), .ref (ad 4 0), .ref (ad 5 0), .ref (ad 6 0), .ref (ad 7 0), .ref (ad 8 0), .ref (ad 9 0), .ref (ad 10 0), .ref (ad 11 0), .ref (ad 12 0)])), (ad 4 0, .inr (1, [.ref (ad 4 1), .ref (ad 4 2), .int (nI rk), .int (nI sl)])), (ad 4 1, .inl (cI, 7, .inl (fun i9 => nI (kd i9)))), (ad 4 2, .inl (cI, 175, .inl (fun i9 => nI (tn i9)))), (ad 5 0, .inr (5, [.ref (ad 5 1), .ref (ad 5 2), .ref (ad 5 3), .ref (ad 5 4), .ref (ad 5 5), .ref (ad 5 6), .ref (ad 5 7), .int mi, .long se])), (ad 5 1, .inl (cI, 7, .inl (v 0))), (ad 5 2, .inl (cI, 7, .inl (v 1))), (ad 5 3, .inl (cI, 7, .inl (v 5))), (ad 5 4, .inl (cI, 7, .inl (v 2))), (ad 5 5, .inl (cI, 7, .inl (v 3))), (ad 5 6, .inl (cI, 7, .inl (v 4))), (ad 5 7, .inl (cZ, 7, .inl (v 6))), (ad 7 0, .inr (0, [.ref (ad 7 1), .int (nI fi), .int (nI ac)])), (ad 9 0, .inr (8, [.ref (ad 9 1), .ref (ad 9 2), .ref (ad 9 3), .int (nI tc)])), (ad 9 1, .inl (cI, 6, .inl (fun i9 => nI (tr i9)))), (ad 9 2, .inl (cI, 6, .inl (fun i9 => nI (tq i9)))), (ad 9 3, .inl (cZ, 6, .inl (fun i9 => nI (td i9)))), (ad 1 0, .inr (7, [.ref (ad 1 1), .int (nI ln)])), (ad 1 1, .inl (cI, 64, .inl (fun i9 => nI (tx i9))))] s.heap := hP
  have hD : va_D A [(ad 0 0, .inr (9, [.ref (ad 1 0), .ref (ad 2 0), .ref (ad 4 0), .ref (ad 5 0), .ref (ad 6 0), .ref (ad 7 0), .ref (ad 8 0), .ref (ad 9 0), .ref (ad 10 0), .ref (ad 11 0), .ref (ad 12 0)])), (ad 4 0, .inr (1, [.ref (ad 4 1), .ref (ad 4 2), .int (nI rk), .int (nI sl)])), (ad 4 1, .inl (cI, 7, .inl (fun i9 => nI (kd i9)))), (ad 4 2, .inl (cI, 175, .inl (fun i9 => nI (tn i9)))), (ad 5 0, .inr (5, [.ref (ad 5 1), .ref (ad 5 2), .ref (ad 5 3), .ref (ad 5 4), .ref (ad 5 5), .ref (ad 5 6), .ref (ad 5 7), .int mi, .long se])), (ad 5 1, .inl (cI, 7, .inl (v 0))), (ad 5 2, .inl (cI, 7, .inl (v 1))), (ad 5 3, .inl (cI, 7, .inl (v 5))), (ad 5 4, .inl (cI, 7, .inl (v 2))), (ad 5 5, .inl (cI, 7, .inl (v 3))), (ad 5 6, .inl (cI, 7, .inl (v 4))), (ad 5 7, .inl (cZ, 7, .inl (v 6))), (ad 7 0, .inr (0, [.ref (ad 7 1), .int (nI fi), .int (nI ac)])), (ad 9 0, .inr (8, [.ref (ad 9 1), .ref (ad 9 2), .ref (ad 9 3), .int (nI tc)])), (ad 9 1, .inl (cI, 6, .inl (fun i9 => nI (tr i9)))), (ad 9 2, .inl (cI, 6, .inl (fun i9 => nI (tq i9)))), (ad 9 3, .inl (cZ, 6, .inl (fun i9 => nI (td i9)))), (ad 1 0, .inr (7, [.ref (ad 1 1), .int (nI ln)])), (ad 1 1, .inl (cI, 64, .inl (fun i9 => nI (tx i9))))] := hD
  have hl : lv_has ls 2 [(0, .ref (ad 0 0)), (1, .int q)] := hl
  have k_0 := hts (.fieldLink RX9 26 "HearsayMarch" "army" "LHearsayMarch$Army;") (by decide +kernel)
  have k_1 := hts (.fieldLink RX9 110 "HearsayMarch$Army" "ranks" "I") (by decide +kernel)
  have k_2 := hts (.fieldLink RX9 113 "HearsayMarch$Army" "slips" "I") (by decide +kernel)
  have k_3 := hts (.fieldLink RX9 33 "HearsayMarch" "scene" "LHearsayMarch$Scene;") (by decide +kernel)
  have k_4 := hts (.fieldLink RX9 116 "HearsayMarch$Scene" "minute" "I") (by decide +kernel)
  have k_5 := hts (.fieldLink RX9 43 "HearsayMarch" "acts" "LHearsayMarch$Acts;") (by decide +kernel)
  have k_6 := hts (.fieldLink RX9 126 "HearsayMarch$Acts" "count" "I") (by decide +kernel)
  have k_7 := hts (.fieldLink RX9 57 "HearsayMarch" "traces" "LHearsayMarch$Traces;") (by decide +kernel)
  have k_8 := hts (.fieldLink RX9 129 "HearsayMarch$Traces" "count" "I") (by decide +kernel)
  have k_9 := hts (.fieldLink RX9 10 "HearsayMarch" "text" "LHearsayMarch$Text;") (by decide +kernel)
  have k_10 := hts (.fieldLink RX9 91 "HearsayMarch$Text" "length" "I") (by decide +kernel)
  have hin0 : ∀ w ∈ wsX00, w ∈ wsX9_about := by decide +kernel
  have hin1 : ∀ w ∈ wsX10, w ∈ wsX9_about := by decide +kernel
  have hin5 : ∀ w ∈ wsX50, w ∈ wsX9_about := by decide +kernel
  have hin7 : ∀ w ∈ wsX70, w ∈ wsX9_about := by decide +kernel
  have hin8 : ∀ w ∈ wsX80, w ∈ wsX9_about := by decide +kernel
  have hin9 : ∀ w ∈ wsX90, w ∈ wsX9_about := by decide +kernel
  refine lv_iload_n hx hb dX9_about_0 rfl (lv_at hl 1 rfl) ?_
  by_cases w_0 : q = nI 0
  · skip
    subst w_0
    refine lv_tableIn (tgt := 48) (off := 47) hx hb dX9_about_1 (by decide) (by decide) (by decide) (by decide) ?_
    refine lv_aload_n hx hb dX9_about_48 rfl (lv_at hl 0 rfl) ?_
    refine va_get (D := G) (ci := 9) (v := .ref (ad 4 0)) (C := RX9) (T := TX9) (N := 11) hx hb hts hin9 hown hK.1 hP 0 rfl rfl 2 (by decide) k_0 (fun _ h9 => h9) rfl dX9_about_49 ?_
    refine va_get (D := G) (ci := 1) (v := .int (nI rk)) (C := RX1) (T := TX1) (N := 4) hx hb hts hin1 hown hK.1 hP 1 rfl rfl 2 (by decide) k_1 (fun _ h9 => h9) rfl dX9_about_52 ?_
    exact endI hx hb hr hlocks (()) (by unfold abI; repeat (first | rw [if_pos rfl] | rw [if_neg (by decide)])) (hP.sub [0, 1, 2, 3, 4, 5, 6, 7, 8, 9, 10, 11, 12, 13, 14, 15, 16, 17, 18] rfl) (hD.sub [0, 1, 2, 3, 4, 5, 6, 7, 8, 9, 10, 11, 12, 13, 14, 15, 16, 17, 18] (by decide) rfl) hS dX9_about_55
  by_cases w_1 : q = nI 1
  · skip
    subst w_1
    refine lv_tableIn (tgt := 56) (off := 55) hx hb dX9_about_1 (by decide) (by decide) (by decide) (by decide) ?_
    refine lv_aload_n hx hb dX9_about_56 rfl (lv_at hl 0 rfl) ?_
    refine va_get (D := G) (ci := 9) (v := .ref (ad 4 0)) (C := RX9) (T := TX9) (N := 11) hx hb hts hin9 hown hK.1 hP 0 rfl rfl 2 (by decide) k_0 (fun _ h9 => h9) rfl dX9_about_57 ?_
    refine va_get (D := G) (ci := 1) (v := .int (nI sl)) (C := RX1) (T := TX1) (N := 4) hx hb hts hin1 hown hK.1 hP 1 rfl rfl 3 (by decide) k_2 (fun _ h9 => h9) rfl dX9_about_60 ?_
    exact endI hx hb hr hlocks (()) (by unfold abI; repeat (first | rw [if_pos rfl] | rw [if_neg (by decide)])) (hP.sub [0, 1, 2, 3, 4, 5, 6, 7, 8, 9, 10, 11, 12, 13, 14, 15, 16, 17, 18] rfl) (hD.sub [0, 1, 2, 3, 4, 5, 6, 7, 8, 9, 10, 11, 12, 13, 14, 15, 16, 17, 18] (by decide) rfl) hS dX9_about_63
  by_cases w_2 : q = nI 2
  · skip
    subst w_2
    refine lv_tableIn (tgt := 64) (off := 63) hx hb dX9_about_1 (by decide) (by decide) (by decide) (by decide) ?_
    refine lv_aload_n hx hb dX9_about_64 rfl (lv_at hl 0 rfl) ?_
    refine va_get (D := G) (ci := 9) (v := .ref (ad 5 0)) (C := RX9) (T := TX9) (N := 11) hx hb hts hin9 hown hK.1 hP 0 rfl rfl 3 (by decide) k_3 (fun _ h9 => h9) rfl dX9_about_65 ?_
    refine va_get (D := G) (ci := 5) (v := .int mi) (C := RX5) (T := TX5) (N := 9) hx hb hts hin5 hown hK.1 hP 4 rfl rfl 7 (by decide) k_4 (fun _ h9 => h9) rfl dX9_about_68 ?_
    exact endI hx hb hr hlocks (()) (by unfold abI; repeat (first | rw [if_pos rfl] | rw [if_neg (by decide)])) (hP.sub [0, 1, 2, 3, 4, 5, 6, 7, 8, 9, 10, 11, 12, 13, 14, 15, 16, 17, 18] rfl) (hD.sub [0, 1, 2, 3, 4, 5, 6, 7, 8, 9, 10, 11, 12, 13, 14, 15, 16, 17, 18] (by decide) rfl) hS dX9_about_71
  by_cases w_3 : q = nI 3
  · skip
    subst w_3
    refine lv_tableIn (tgt := 72) (off := 71) hx hb dX9_about_1 (by decide) (by decide) (by decide) (by decide) ?_
    refine lv_aload_n hx hb dX9_about_72 rfl (lv_at hl 0 rfl) ?_
    refine va_get (D := G) (ci := 9) (v := .ref (ad 5 0)) (C := RX9) (T := TX9) (N := 11) hx hb hts hin9 hown hK.1 hP 0 rfl rfl 3 (by decide) k_3 (fun _ h9 => h9) rfl dX9_about_73 ?_
    refine lv_aload_n hx hb dX9_about_76 rfl (lv_at hl 0 rfl) ?_
    refine va_get (D := G) (ci := 9) (v := .ref (ad 4 0)) (C := RX9) (T := TX9) (N := 11) hx hb hts hin9 hown hK.1 hP 0 rfl rfl 2 (by decide) k_0 (fun _ h9 => h9) rfl dX9_about_77 ?_
    refine aft_i (wr := [(ad 0 0, .inr (9, [.ref (ad 1 0), .ref (ad 2 0), .ref (ad 4 0), .ref (ad 5 0), .ref (ad 6 0), .ref (ad 7 0), .ref (ad 8 0), .ref (ad 9 0), .ref (ad 10 0), .ref (ad 11 0), .ref (ad 12 0)])), (ad 7 0, .inr (0, [.ref (ad 7 1), .int (nI fi), .int (nI ac)])), (ad 9 0, .inr (8, [.ref (ad 9 1), .ref (ad 9 2), .ref (ad 9 3), .int (nI tc)])), (ad 9 1, .inl (cI, 6, .inl (fun i9 => nI (tr i9)))), (ad 9 2, .inl (cI, 6, .inl (fun i9 => nI (tq i9)))), (ad 9 3, .inl (cZ, 6, .inl (fun i9 => nI (td i9)))), (ad 1 0, .inr (7, [.ref (ad 1 1), .int (nI ln)])), (ad 1 1, .inl (cI, 64, .inl (fun i9 => nI (tx i9))))]) (va_runV (As := [.ref (ad 4 0)]) (rest := []) ⟨hx, hb, hml, hown, hts⟩ (c_X5_sleepers (g := (ad 5)) (v := v) (mi := mi) (se := se) (h := (ad 4)) (kd := kd) (tn := tn) (rk := rk) (sl := sl) (hrk := by first | assumption | omega | exact hok.1 _ (by omega) | exact hok.2.2 _ _ (by omega) (by omega) | exact hok.2.1) _) (cwV 1 hts gX9_about_X5_sleepers rfl rfl rfl (by decide +kernel) ⟨Nat.le_of_ble_eq_true rfl, Nat.le_of_ble_eq_true rfl⟩) (preV (cq := (RX5, TX5, 9)) (q0 := 4) (ci := 5) hK hP hD [4, 5, 6, 7, 8, 9, 10, 11, 1, 2, 3] rfl rfl rfl rfl) rfl rfl hl.1 rfl (lv_room (Nat.le_of_ble_eq_true rfl)) dX9_about_80 ⟨Nat.le_of_ble_eq_true rfl, Nat.le_of_ble_eq_true rfl⟩) hP hD hS hA [4, 5, 6, 7, 8, 9, 10, 11, 1, 2, 3] [0, 12, 13, 14, 15, 16, 17, 18] rfl rfl rfl (by decide) (fun r_80 uu9 H locs hw hP hD hS => ?_)
    have hP : va_P G vwCl [(ad 0 0, .inr (9, [.ref (ad 1 0), .ref (ad 2 0), .ref (ad 4 0), .ref (ad 5 0), .ref (ad 6 0), .ref (ad 7 0), .ref (ad 8 0), .ref (ad 9 0), .ref (ad 10 0), .ref (ad 11 0), .ref (ad 12 0)])), (ad 7 0, .inr (0, [.ref (ad 7 1), .int (nI fi), .int (nI ac)])), (ad 9 0, .inr (8, [.ref (ad 9 1), .ref (ad 9 2), .ref (ad 9 3), .int (nI tc)])), (ad 9 1, .inl (cI, 6, .inl (fun i9 => nI (tr i9)))), (ad 9 2, .inl (cI, 6, .inl (fun i9 => nI (tq i9)))), (ad 9 3, .inl (cZ, 6, .inl (fun i9 => nI (td i9)))), (ad 1 0, .inr (7, [.ref (ad 1 1), .int (nI ln)])), (ad 1 1, .inl (cI, 64, .inl (fun i9 => nI (tx i9)))), (ad 5 0, .inr (5, [.ref ((ad 5) 1), .ref ((ad 5) 2), .ref ((ad 5) 3), .ref ((ad 5) 4), .ref ((ad 5) 5), .ref ((ad 5) 6), .ref ((ad 5) 7), .int mi, .long se])), (ad 5 1, .inl (cI, 7, .inl (v 0))), (ad 5 2, .inl (cI, 7, .inl (v 1))), (ad 5 3, .inl (cI, 7, .inl (v 5))), (ad 5 4, .inl (cI, 7, .inl (v 2))), (ad 5 5, .inl (cI, 7, .inl (v 3))), (ad 5 6, .inl (cI, 7, .inl (v 4))), (ad 5 7, .inl (cZ, 7, .inl (v 6))), (ad 4 0, .inr (1, [.ref ((ad 4) 1), .ref ((ad 4) 2), .int (nI rk), .int (nI sl)])), (ad 4 1, .inl (cI, 7, .inl (fun i9 => nI (kd i9)))), (ad 4 2, .inl (cI, 175, .inl (fun i9 => nI (tn i9))))] _ := hP
    have hD : va_D A [(ad 0 0, .inr (9, [.ref (ad 1 0), .ref (ad 2 0), .ref (ad 4 0), .ref (ad 5 0), .ref (ad 6 0), .ref (ad 7 0), .ref (ad 8 0), .ref (ad 9 0), .ref (ad 10 0), .ref (ad 11 0), .ref (ad 12 0)])), (ad 7 0, .inr (0, [.ref (ad 7 1), .int (nI fi), .int (nI ac)])), (ad 9 0, .inr (8, [.ref (ad 9 1), .ref (ad 9 2), .ref (ad 9 3), .int (nI tc)])), (ad 9 1, .inl (cI, 6, .inl (fun i9 => nI (tr i9)))), (ad 9 2, .inl (cI, 6, .inl (fun i9 => nI (tq i9)))), (ad 9 3, .inl (cZ, 6, .inl (fun i9 => nI (td i9)))), (ad 1 0, .inr (7, [.ref (ad 1 1), .int (nI ln)])), (ad 1 1, .inl (cI, 64, .inl (fun i9 => nI (tx i9)))), (ad 5 0, .inr (5, [.ref ((ad 5) 1), .ref ((ad 5) 2), .ref ((ad 5) 3), .ref ((ad 5) 4), .ref ((ad 5) 5), .ref ((ad 5) 6), .ref ((ad 5) 7), .int mi, .long se])), (ad 5 1, .inl (cI, 7, .inl (v 0))), (ad 5 2, .inl (cI, 7, .inl (v 1))), (ad 5 3, .inl (cI, 7, .inl (v 5))), (ad 5 4, .inl (cI, 7, .inl (v 2))), (ad 5 5, .inl (cI, 7, .inl (v 3))), (ad 5 6, .inl (cI, 7, .inl (v 4))), (ad 5 7, .inl (cZ, 7, .inl (v 6))), (ad 4 0, .inr (1, [.ref ((ad 4) 1), .ref ((ad 4) 2), .int (nI rk), .int (nI sl)])), (ad 4 1, .inl (cI, 7, .inl (fun i9 => nI (kd i9)))), (ad 4 2, .inl (cI, 175, .inl (fun i9 => nI (tn i9))))] := hD
    obtain rfl := hw
    refine top_i (y := slpI v rk) rfl ?_
    exact endI hx hb hr hlocks (()) (by unfold abI; repeat (first | rw [if_pos rfl] | rw [if_neg (by decide)])) (hP.sub [0, 16, 17, 18, 8, 9, 10, 11, 12, 13, 14, 15, 1, 2, 3, 4, 5, 6, 7] rfl) (hD.sub [0, 16, 17, 18, 8, 9, 10, 11, 12, 13, 14, 15, 1, 2, 3, 4, 5, 6, 7] (by decide) rfl) hS dX9_about_83
  by_cases w_4 : q = nI 4
  · skip
    subst w_4
    refine lv_tableIn (tgt := 84) (off := 83) hx hb dX9_about_1 (by decide) (by decide) (by decide) (by decide) ?_
    refine lv_aload_n hx hb dX9_about_84 rfl (lv_at hl 0 rfl) ?_
    refine va_get (D := G) (ci := 9) (v := .ref (ad 5 0)) (C := RX9) (T := TX9) (N := 11) hx hb hts hin9 hown hK.1 hP 0 rfl rfl 3 (by decide) k_3 (fun _ h9 => h9) rfl dX9_about_85 ?_
    refine lv_aload_n hx hb dX9_about_88 rfl (lv_at hl 0 rfl) ?_
    refine va_get (D := G) (ci := 9) (v := .ref (ad 4 0)) (C := RX9) (T := TX9) (N := 11) hx hb hts hin9 hown hK.1 hP 0 rfl rfl 2 (by decide) k_0 (fun _ h9 => h9) rfl dX9_about_89 ?_
    refine aft_i (wr := [(ad 0 0, .inr (9, [.ref (ad 1 0), .ref (ad 2 0), .ref (ad 4 0), .ref (ad 5 0), .ref (ad 6 0), .ref (ad 7 0), .ref (ad 8 0), .ref (ad 9 0), .ref (ad 10 0), .ref (ad 11 0), .ref (ad 12 0)])), (ad 7 0, .inr (0, [.ref (ad 7 1), .int (nI fi), .int (nI ac)])), (ad 9 0, .inr (8, [.ref (ad 9 1), .ref (ad 9 2), .ref (ad 9 3), .int (nI tc)])), (ad 9 1, .inl (cI, 6, .inl (fun i9 => nI (tr i9)))), (ad 9 2, .inl (cI, 6, .inl (fun i9 => nI (tq i9)))), (ad 9 3, .inl (cZ, 6, .inl (fun i9 => nI (td i9)))), (ad 1 0, .inr (7, [.ref (ad 1 1), .int (nI ln)])), (ad 1 1, .inl (cI, 64, .inl (fun i9 => nI (tx i9))))]) (va_runV (As := [.ref (ad 4 0)]) (rest := []) ⟨hx, hb, hml, hown, hts⟩ (c_X5_hearers (g := (ad 5)) (v := v) (mi := mi) (se := se) (h := (ad 4)) (kd := kd) (tn := tn) (rk := rk) (sl := sl) (hrk := by first | assumption | omega | exact hok.1 _ (by omega) | exact hok.2.2 _ _ (by omega) (by omega) | exact hok.2.1) _) (cwV 1 hts gX9_about_X5_hearers rfl rfl rfl (by decide +kernel) ⟨Nat.le_of_ble_eq_true rfl, Nat.le_of_ble_eq_true rfl⟩) (preV (cq := (RX5, TX5, 9)) (q0 := 4) (ci := 5) hK hP hD [4, 5, 6, 7, 8, 9, 10, 11, 1, 2, 3] rfl rfl rfl rfl) rfl rfl hl.1 rfl (lv_room (Nat.le_of_ble_eq_true rfl)) dX9_about_92 ⟨Nat.le_of_ble_eq_true rfl, Nat.le_of_ble_eq_true rfl⟩) hP hD hS hA [4, 5, 6, 7, 8, 9, 10, 11, 1, 2, 3] [0, 12, 13, 14, 15, 16, 17, 18] rfl rfl rfl (by decide) (fun r_92 uu9 H locs hw hP hD hS => ?_)
    have hP : va_P G vwCl [(ad 0 0, .inr (9, [.ref (ad 1 0), .ref (ad 2 0), .ref (ad 4 0), .ref (ad 5 0), .ref (ad 6 0), .ref (ad 7 0), .ref (ad 8 0), .ref (ad 9 0), .ref (ad 10 0), .ref (ad 11 0), .ref (ad 12 0)])), (ad 7 0, .inr (0, [.ref (ad 7 1), .int (nI fi), .int (nI ac)])), (ad 9 0, .inr (8, [.ref (ad 9 1), .ref (ad 9 2), .ref (ad 9 3), .int (nI tc)])), (ad 9 1, .inl (cI, 6, .inl (fun i9 => nI (tr i9)))), (ad 9 2, .inl (cI, 6, .inl (fun i9 => nI (tq i9)))), (ad 9 3, .inl (cZ, 6, .inl (fun i9 => nI (td i9)))), (ad 1 0, .inr (7, [.ref (ad 1 1), .int (nI ln)])), (ad 1 1, .inl (cI, 64, .inl (fun i9 => nI (tx i9)))), (ad 5 0, .inr (5, [.ref ((ad 5) 1), .ref ((ad 5) 2), .ref ((ad 5) 3), .ref ((ad 5) 4), .ref ((ad 5) 5), .ref ((ad 5) 6), .ref ((ad 5) 7), .int mi, .long se])), (ad 5 1, .inl (cI, 7, .inl (v 0))), (ad 5 2, .inl (cI, 7, .inl (v 1))), (ad 5 3, .inl (cI, 7, .inl (v 5))), (ad 5 4, .inl (cI, 7, .inl (v 2))), (ad 5 5, .inl (cI, 7, .inl (v 3))), (ad 5 6, .inl (cI, 7, .inl (v 4))), (ad 5 7, .inl (cZ, 7, .inl (v 6))), (ad 4 0, .inr (1, [.ref ((ad 4) 1), .ref ((ad 4) 2), .int (nI rk), .int (nI sl)])), (ad 4 1, .inl (cI, 7, .inl (fun i9 => nI (kd i9)))), (ad 4 2, .inl (cI, 175, .inl (fun i9 => nI (tn i9))))] _ := hP
    have hD : va_D A [(ad 0 0, .inr (9, [.ref (ad 1 0), .ref (ad 2 0), .ref (ad 4 0), .ref (ad 5 0), .ref (ad 6 0), .ref (ad 7 0), .ref (ad 8 0), .ref (ad 9 0), .ref (ad 10 0), .ref (ad 11 0), .ref (ad 12 0)])), (ad 7 0, .inr (0, [.ref (ad 7 1), .int (nI fi), .int (nI ac)])), (ad 9 0, .inr (8, [.ref (ad 9 1), .ref (ad 9 2), .ref (ad 9 3), .int (nI tc)])), (ad 9 1, .inl (cI, 6, .inl (fun i9 => nI (tr i9)))), (ad 9 2, .inl (cI, 6, .inl (fun i9 => nI (tq i9)))), (ad 9 3, .inl (cZ, 6, .inl (fun i9 => nI (td i9)))), (ad 1 0, .inr (7, [.ref (ad 1 1), .int (nI ln)])), (ad 1 1, .inl (cI, 64, .inl (fun i9 => nI (tx i9)))), (ad 5 0, .inr (5, [.ref ((ad 5) 1), .ref ((ad 5) 2), .ref ((ad 5) 3), .ref ((ad 5) 4), .ref ((ad 5) 5), .ref ((ad 5) 6), .ref ((ad 5) 7), .int mi, .long se])), (ad 5 1, .inl (cI, 7, .inl (v 0))), (ad 5 2, .inl (cI, 7, .inl (v 1))), (ad 5 3, .inl (cI, 7, .inl (v 5))), (ad 5 4, .inl (cI, 7, .inl (v 2))), (ad 5 5, .inl (cI, 7, .inl (v 3))), (ad 5 6, .inl (cI, 7, .inl (v 4))), (ad 5 7, .inl (cZ, 7, .inl (v 6))), (ad 4 0, .inr (1, [.ref ((ad 4) 1), .ref ((ad 4) 2), .int (nI rk), .int (nI sl)])), (ad 4 1, .inl (cI, 7, .inl (fun i9 => nI (kd i9)))), (ad 4 2, .inl (cI, 175, .inl (fun i9 => nI (tn i9))))] := hD
    obtain rfl := hw
    refine top_i (y := hrsI v rk) rfl ?_
    exact endI hx hb hr hlocks (()) (by unfold abI; repeat (first | rw [if_pos rfl] | rw [if_neg (by decide)])) (hP.sub [0, 16, 17, 18, 8, 9, 10, 11, 12, 13, 14, 15, 1, 2, 3, 4, 5, 6, 7] rfl) (hD.sub [0, 16, 17, 18, 8, 9, 10, 11, 12, 13, 14, 15, 1, 2, 3, 4, 5, 6, 7] (by decide) rfl) hS dX9_about_95
  by_cases w_5 : q = nI 5
  · skip
    subst w_5
    refine lv_tableIn (tgt := 96) (off := 95) hx hb dX9_about_1 (by decide) (by decide) (by decide) (by decide) ?_
    refine lv_aload_n hx hb dX9_about_96 rfl (lv_at hl 0 rfl) ?_
    refine va_get (D := G) (ci := 9) (v := .ref (ad 7 0)) (C := RX9) (T := TX9) (N := 11) hx hb hts hin9 hown hK.1 hP 0 rfl rfl 5 (by decide) k_5 (fun _ h9 => h9) rfl dX9_about_97 ?_
    refine va_get (D := G) (ci := 0) (v := .int (nI ac)) (C := RX0) (T := TX0) (N := 3) hx hb hts hin0 hown hK.1 hP 12 rfl rfl 2 (by decide) k_6 (fun _ h9 => h9) rfl dX9_about_100 ?_
    exact endI hx hb hr hlocks (()) (by unfold abI; repeat (first | rw [if_pos rfl] | rw [if_neg (by decide)])) (hP.sub [0, 1, 2, 3, 4, 5, 6, 7, 8, 9, 10, 11, 12, 13, 14, 15, 16, 17, 18] rfl) (hD.sub [0, 1, 2, 3, 4, 5, 6, 7, 8, 9, 10, 11, 12, 13, 14, 15, 16, 17, 18] (by decide) rfl) hS dX9_about_103
  by_cases w_6 : q = nI 6
  · skip
    subst w_6
    refine lv_tableIn (tgt := 104) (off := 103) hx hb dX9_about_1 (by decide) (by decide) (by decide) (by decide) ?_
    refine lv_aload_n hx hb dX9_about_104 rfl (lv_at hl 0 rfl) ?_
    refine va_get (D := G) (ci := 9) (v := .ref (ad 9 0)) (C := RX9) (T := TX9) (N := 11) hx hb hts hin9 hown hK.1 hP 0 rfl rfl 7 (by decide) k_7 (fun _ h9 => h9) rfl dX9_about_105 ?_
    refine va_get (D := G) (ci := 8) (v := .int (nI tc)) (C := RX8) (T := TX8) (N := 4) hx hb hts hin8 hown hK.1 hP 13 rfl rfl 3 (by decide) k_8 (fun _ h9 => h9) rfl dX9_about_108 ?_
    exact endI hx hb hr hlocks (()) (by unfold abI; repeat (first | rw [if_pos rfl] | rw [if_neg (by decide)])) (hP.sub [0, 1, 2, 3, 4, 5, 6, 7, 8, 9, 10, 11, 12, 13, 14, 15, 16, 17, 18] rfl) (hD.sub [0, 1, 2, 3, 4, 5, 6, 7, 8, 9, 10, 11, 12, 13, 14, 15, 16, 17, 18] (by decide) rfl) hS dX9_about_111
  by_cases w_7 : q = nI 7
  · skip
    subst w_7
    refine lv_tableIn (tgt := 112) (off := 111) hx hb dX9_about_1 (by decide) (by decide) (by decide) (by decide) ?_
    refine lv_aload_n hx hb dX9_about_112 rfl (lv_at hl 0 rfl) ?_
    refine va_get (D := G) (ci := 9) (v := .ref (ad 1 0)) (C := RX9) (T := TX9) (N := 11) hx hb hts hin9 hown hK.1 hP 0 rfl rfl 0 (by decide) k_9 (fun _ h9 => h9) rfl dX9_about_113 ?_
    refine va_get (D := G) (ci := 7) (v := .int (nI ln)) (C := RX7) (T := TX7) (N := 2) hx hb hts hin7 hown hK.1 hP 17 rfl rfl 1 (by decide) k_10 (fun _ h9 => h9) rfl dX9_about_116 ?_
    exact endI hx hb hr hlocks (()) (by unfold abI; repeat (first | rw [if_pos rfl] | rw [if_neg (by decide)])) (hP.sub [0, 1, 2, 3, 4, 5, 6, 7, 8, 9, 10, 11, 12, 13, 14, 15, 16, 17, 18] rfl) (hD.sub [0, 1, 2, 3, 4, 5, 6, 7, 8, 9, 10, 11, 12, 13, 14, 15, 16, 17, 18] (by decide) rfl) hS dX9_about_119
  refine lv_tableOut (tgt := 120) hx hb dX9_about_1 (sw_out (hi := 7) 8 (by omega) (by decide) (by decide) (fun j hj => by rcases (show j = 0 ∨ j = 1 ∨ j = 2 ∨ j = 3 ∨ j = 4 ∨ j = 5 ∨ j = 6 ∨ j = 7 by omega) with rfl | rfl | rfl | rfl | rfl | rfl | rfl | rfl <;> assumption)) (by decide) ?_
  refine lv_bipush (v := (-2)) hx hb dX9_about_120 (by decide) ?_
  exact endI hx hb hr hlocks (()) ((abI_no w_0 w_1 w_2 w_3 w_4 w_5 w_6 w_7).symm) (hP.sub [0, 1, 2, 3, 4, 5, 6, 7, 8, 9, 10, 11, 12, 13, 14, 15, 16, 17, 18] rfl) (hD.sub [0, 1, 2, 3, 4, 5, 6, 7, 8, 9, 10, 11, 12, 13, 14, 15, 16, 17, 18] (by decide) rfl) hS dX9_about_122

set_option maxHeartbeats 4000000 in
set_option maxRecDepth 100000 in
theorem c_X9_rank {l : Launch} {G : va_G} {cI cJ cZ cS : ClassId} (ad : Nat → Nat → Nat) (kd : Nat → Nat) (tn : Nat → Nat) (rk : Nat) (sl : Nat) (v : Nat → Nat → Int32) (mi : Int32) (se : Int64) (r : Int32) (q : Int32) (hrk : rk < 8) (hok : ArmyOk kd tn) : CI l G (kT cI cJ cZ cS) (S := Unit) yX9_rank wsX9_rank { frames := 1, cells := 0, slots := 0, locals := 21 } [.ref (ad 0 0), .int r, .int q] [(ad 0 0, .inr (9, [.ref (ad 1 0), .ref (ad 2 0), .ref (ad 4 0), .ref (ad 5 0), .ref (ad 6 0), .ref (ad 7 0), .ref (ad 8 0), .ref (ad 9 0), .ref (ad 10 0), .ref (ad 11 0), .ref (ad 12 0)])), (ad 4 0, .inr (1, [.ref (ad 4 1), .ref (ad 4 2), .int (nI rk), .int (nI sl)])), (ad 4 1, .inl (cI, 7, .inl (fun i9 => nI (kd i9)))), (ad 4 2, .inl (cI, 175, .inl (fun i9 => nI (tn i9)))), (ad 5 0, .inr (5, [.ref (ad 5 1), .ref (ad 5 2), .ref (ad 5 3), .ref (ad 5 4), .ref (ad 5 5), .ref (ad 5 6), .ref (ad 5 7), .int mi, .long se])), (ad 5 1, .inl (cI, 7, .inl (v 0))), (ad 5 2, .inl (cI, 7, .inl (v 1))), (ad 5 3, .inl (cI, 7, .inl (v 5))), (ad 5 4, .inl (cI, 7, .inl (v 2))), (ad 5 5, .inl (cI, 7, .inl (v 3))), (ad 5 6, .inl (cI, 7, .inl (v 4))), (ad 5 7, .inl (cZ, 7, .inl (v 6)))] (fun res _ => An1 rk r (fun k9 => rkI kd v k9 q) (-1) res) (fun _ => [(ad 0 0, .inr (9, [.ref (ad 1 0), .ref (ad 2 0), .ref (ad 4 0), .ref (ad 5 0), .ref (ad 6 0), .ref (ad 7 0), .ref (ad 8 0), .ref (ad 9 0), .ref (ad 10 0), .ref (ad 11 0), .ref (ad 12 0)])), (ad 4 0, .inr (1, [.ref (ad 4 1), .ref (ad 4 2), .int (nI rk), .int (nI sl)])), (ad 4 1, .inl (cI, 7, .inl (fun i9 => nI (kd i9)))), (ad 4 2, .inl (cI, 175, .inl (fun i9 => nI (tn i9)))), (ad 5 0, .inr (5, [.ref (ad 5 1), .ref (ad 5 2), .ref (ad 5 3), .ref (ad 5 4), .ref (ad 5 5), .ref (ad 5 6), .ref (ad 5 7), .int mi, .long se])), (ad 5 1, .inl (cI, 7, .inl (v 0))), (ad 5 2, .inl (cI, 7, .inl (v 1))), (ad 5 3, .inl (cI, 7, .inl (v 5))), (ad 5 4, .inl (cI, 7, .inl (v 2))), (ad 5 5, .inl (cI, 7, .inl (v 3))), (ad 5 6, .inl (cI, 7, .inl (v 4))), (ad 5 7, .inl (cZ, 7, .inl (v 6)))]) := by
  refine CI.of (cc := cX9_rank) (maxL := 3) (by decide) rfl (Nat.le_of_ble_eq_true rfl) ?_
  intro p9 e9 s m below meth co9 A ls hB
  obtain ⟨hx, hb, hml, hr, hts, hown, hlocks, hmn, hK, hP, hD, hS, hA, hl⟩ := hB
  have hP : va_P G vwCl [(ad 0 0, .inr (9, [.ref (ad 1 0), .ref (ad 2 0), .ref (ad 4 0), .ref (ad 5 0), .ref (ad 6 0), .ref (ad 7 0), .ref (ad 8 0), .ref (ad 9 0), .ref (ad 10 0), .ref (ad 11 0), .ref (ad 12 0)])), (ad 4 0, .inr (1, [.ref (ad 4 1), .ref (ad 4 2), .int (nI rk), .int (nI sl)])), (ad 4 1, .inl (cI, 7, .inl (fun i9 => nI (kd i9)))), (ad 4 2, .inl (cI, 175, .inl (fun i9 => nI (tn i9)))), (ad 5 0, .inr (5, [.ref (ad 5 1), .ref (ad 5 2), .ref (ad 5 3), .ref (ad 5 4), .ref (ad 5 5), .ref (ad 5 6), .ref (ad 5 7), .int mi, .long se])), (ad 5 1, .inl (cI, 7, .inl (v 0))), (ad 5 2, .inl (cI, 7, .inl (v 1))), (ad 5 3, .inl (cI, 7, .inl (v 5))), (ad 5 4, .inl (cI, 7, .inl (v 2))), (ad 5 5, .inl (cI, 7, .inl (v 3))), (ad 5 6, .inl (cI, 7, .inl (v 4))), (ad 5 7, .inl (cZ, 7, .inl (v 6)))] s.heap := hP
  have hD : va_D A [(ad 0 0, .inr (9, [.ref (ad 1 0), .ref (ad 2 0), .ref (ad 4 0), .ref (ad 5 0), .ref (ad 6 0), .ref (ad 7 0), .ref (ad 8 0), .ref (ad 9 0), .ref (ad 10 0), .ref (ad 11 0), .ref (ad 12 0)])), (ad 4 0, .inr (1, [.ref (ad 4 1), .ref (ad 4 2), .int (nI rk), .int (nI sl)])), (ad 4 1, .inl (cI, 7, .inl (fun i9 => nI (kd i9)))), (ad 4 2, .inl (cI, 175, .inl (fun i9 => nI (tn i9)))), (ad 5 0, .inr (5, [.ref (ad 5 1), .ref (ad 5 2), .ref (ad 5 3), .ref (ad 5 4), .ref (ad 5 5), .ref (ad 5 6), .ref (ad 5 7), .int mi, .long se])), (ad 5 1, .inl (cI, 7, .inl (v 0))), (ad 5 2, .inl (cI, 7, .inl (v 1))), (ad 5 3, .inl (cI, 7, .inl (v 5))), (ad 5 4, .inl (cI, 7, .inl (v 2))), (ad 5 5, .inl (cI, 7, .inl (v 3))), (ad 5 6, .inl (cI, 7, .inl (v 4))), (ad 5 7, .inl (cZ, 7, .inl (v 6)))] := hD
  have hl : lv_has ls 3 [(0, .ref (ad 0 0)), (1, .int r), (2, .int q)] := hl
  have k_0 := hts (.fieldLink RX9 26 "HearsayMarch" "army" "LHearsayMarch$Army;") (by decide +kernel)
  have k_1 := hts (.fieldLink RX9 133 "HearsayMarch$Army" "kinds" "[I") (by decide +kernel)
  have k_2 := hts (.fieldLink RX9 33 "HearsayMarch" "scene" "LHearsayMarch$Scene;") (by decide +kernel)
  have k_3 := hts (.fieldLink RX9 136 "HearsayMarch$Scene" "last" "[I") (by decide +kernel)
  have k_4 := hts (.fieldLink RX9 139 "HearsayMarch$Scene" "ahead" "[I") (by decide +kernel)
  have k_5 := hts (.fieldLink RX9 142 "HearsayMarch$Scene" "does" "[I") (by decide +kernel)
  have k_6 := hts (.fieldLink RX9 149 "HearsayMarch$Scene" "north" "[I") (by decide +kernel)
  have k_7 := hts (.fieldLink RX9 152 "HearsayMarch$Scene" "heardNow" "[I") (by decide +kernel)
  have hin1 : ∀ w ∈ wsX10, w ∈ wsX9_rank := by decide +kernel
  have hin5 : ∀ w ∈ wsX50, w ∈ wsX9_rank := by decide +kernel
  have hin9 : ∀ w ∈ wsX90, w ∈ wsX9_rank := by decide +kernel
  refine lv_aload_n hx hb dX9_rank_0 rfl (lv_at hl 0 rfl) ?_
  refine va_get (D := G) (ci := 9) (v := .ref (ad 4 0)) (C := RX9) (T := TX9) (N := 11) hx hb hts hin9 hown hK.1 hP 0 rfl rfl 2 (by decide) k_0 (fun _ h9 => h9) rfl dX9_rank_1 ?_
  refine lv_iload_n hx hb dX9_rank_4 rfl (lv_at hl 1 rfl) ?_
  refine aft_i (wr := [(ad 0 0, .inr (9, [.ref (ad 1 0), .ref (ad 2 0), .ref (ad 4 0), .ref (ad 5 0), .ref (ad 6 0), .ref (ad 7 0), .ref (ad 8 0), .ref (ad 9 0), .ref (ad 10 0), .ref (ad 11 0), .ref (ad 12 0)])), (ad 5 0, .inr (5, [.ref (ad 5 1), .ref (ad 5 2), .ref (ad 5 3), .ref (ad 5 4), .ref (ad 5 5), .ref (ad 5 6), .ref (ad 5 7), .int mi, .long se])), (ad 5 1, .inl (cI, 7, .inl (v 0))), (ad 5 2, .inl (cI, 7, .inl (v 1))), (ad 5 3, .inl (cI, 7, .inl (v 5))), (ad 5 4, .inl (cI, 7, .inl (v 2))), (ad 5 5, .inl (cI, 7, .inl (v 3))), (ad 5 6, .inl (cI, 7, .inl (v 4))), (ad 5 7, .inl (cZ, 7, .inl (v 6)))]) (va_runV (As := [.int r]) (rest := []) ⟨hx, hb, hml, hown, hts⟩ (c_X1_has (h := (ad 4)) (kd := kd) (tn := tn) (rk := rk) (sl := sl) (r := r) (hrk := by first | assumption | omega | exact hok.1 _ (by omega) | exact hok.2.2 _ _ (by omega) (by omega) | exact hok.2.1) _) (cwV 1 hts gX9_rank_X1_has rfl rfl rfl (by decide +kernel) ⟨Nat.le_of_ble_eq_true rfl, Nat.le_of_ble_eq_true rfl⟩) (preV (cq := (RX1, TX1, 4)) (q0 := 1) (ci := 1) hK hP hD [1, 2, 3] rfl rfl rfl rfl) rfl rfl hl.1 rfl (lv_room (Nat.le_of_ble_eq_true rfl)) dX9_rank_5 ⟨Nat.le_of_ble_eq_true rfl, Nat.le_of_ble_eq_true rfl⟩) hP hD hS hA [1, 2, 3] [0, 4, 5, 6, 7, 8, 9, 10, 11] rfl rfl rfl (by decide) (fun r_5 uu9 H locs hw hP hD hS => ?_)
  have hP : va_P G vwCl [(ad 0 0, .inr (9, [.ref (ad 1 0), .ref (ad 2 0), .ref (ad 4 0), .ref (ad 5 0), .ref (ad 6 0), .ref (ad 7 0), .ref (ad 8 0), .ref (ad 9 0), .ref (ad 10 0), .ref (ad 11 0), .ref (ad 12 0)])), (ad 5 0, .inr (5, [.ref (ad 5 1), .ref (ad 5 2), .ref (ad 5 3), .ref (ad 5 4), .ref (ad 5 5), .ref (ad 5 6), .ref (ad 5 7), .int mi, .long se])), (ad 5 1, .inl (cI, 7, .inl (v 0))), (ad 5 2, .inl (cI, 7, .inl (v 1))), (ad 5 3, .inl (cI, 7, .inl (v 5))), (ad 5 4, .inl (cI, 7, .inl (v 2))), (ad 5 5, .inl (cI, 7, .inl (v 3))), (ad 5 6, .inl (cI, 7, .inl (v 4))), (ad 5 7, .inl (cZ, 7, .inl (v 6))), (ad 4 0, .inr (1, [.ref ((ad 4) 1), .ref ((ad 4) 2), .int (nI rk), .int (nI sl)])), (ad 4 1, .inl (cI, 7, .inl (fun i9 => nI (kd i9)))), (ad 4 2, .inl (cI, 175, .inl (fun i9 => nI (tn i9))))] _ := hP
  have hD : va_D A [(ad 0 0, .inr (9, [.ref (ad 1 0), .ref (ad 2 0), .ref (ad 4 0), .ref (ad 5 0), .ref (ad 6 0), .ref (ad 7 0), .ref (ad 8 0), .ref (ad 9 0), .ref (ad 10 0), .ref (ad 11 0), .ref (ad 12 0)])), (ad 5 0, .inr (5, [.ref (ad 5 1), .ref (ad 5 2), .ref (ad 5 3), .ref (ad 5 4), .ref (ad 5 5), .ref (ad 5 6), .ref (ad 5 7), .int mi, .long se])), (ad 5 1, .inl (cI, 7, .inl (v 0))), (ad 5 2, .inl (cI, 7, .inl (v 1))), (ad 5 3, .inl (cI, 7, .inl (v 5))), (ad 5 4, .inl (cI, 7, .inl (v 2))), (ad 5 5, .inl (cI, 7, .inl (v 3))), (ad 5 6, .inl (cI, 7, .inl (v 4))), (ad 5 7, .inl (cZ, 7, .inl (v 6))), (ad 4 0, .inr (1, [.ref ((ad 4) 1), .ref ((ad 4) 2), .int (nI rk), .int (nI sl)])), (ad 4 1, .inl (cI, 7, .inl (fun i9 => nI (kd i9)))), (ad 4 2, .inl (cI, 175, .inl (fun i9 => nI (tn i9))))] := hD
  obtain rfl := hw
  refine top_i (y := bI (isR rk r)) rfl ?_
  refine lv_if_ne (tgt := 13) hx hb dX9_rank_8 (by decide) (fun c_8 => ?_) (fun c_8 => ?_)
  · skip
    have c_8 := bI_t c_8
    obtain ⟨k, hk, rfl⟩ := c_8
    refine lv_iload_n hx hb dX9_rank_13 rfl (lv_at hl 2 rfl) ?_
    by_cases w_0 : q = nI 0
    · skip
      subst w_0
      refine lv_tableIn (tgt := 56) (off := 42) hx hb dX9_rank_14 (by decide) (by decide) (by decide) (by decide) ?_
      refine lv_aload_n hx hb dX9_rank_56 rfl (lv_at hl 0 rfl) ?_
      refine va_get (D := G) (ci := 9) (v := .ref (ad 4 0)) (C := RX9) (T := TX9) (N := 11) hx hb hts hin9 hown hK.1 hP 0 rfl rfl 2 (by decide) k_0 (fun _ h9 => h9) rfl dX9_rank_57 ?_
      refine va_get (D := G) (ci := 1) (v := .ref ((ad 4) 1)) (C := RX1) (T := TX1) (N := 4) hx hb hts hin1 hown hK.1 hP 9 rfl rfl 0 (by decide) k_1 (fun _ h9 => h9) rfl dX9_rank_60 ?_
      refine lv_iload_n hx hb dX9_rank_63 rfl (lv_at hl 1 rfl) ?_
      refine ald hx hb hK hP 10 0 rfl rfl (j := k) (by omega) (by omega) dX9_rank_64 ?_
      exact endI hx hb hr hlocks (()) (An1_ok (by omega) hk (by unfold rkI; repeat (first | rw [if_pos rfl] | rw [if_neg (by decide)]))) (hP.sub [0, 9, 10, 11, 1, 2, 3, 4, 5, 6, 7, 8] rfl) (hD.sub [0, 9, 10, 11, 1, 2, 3, 4, 5, 6, 7, 8] (by decide) rfl) hS dX9_rank_65
    by_cases w_1 : q = nI 1
    · skip
      subst w_1
      refine lv_tableIn (tgt := 66) (off := 52) hx hb dX9_rank_14 (by decide) (by decide) (by decide) (by decide) ?_
      refine lv_aload_n hx hb dX9_rank_66 rfl (lv_at hl 0 rfl) ?_
      refine va_get (D := G) (ci := 9) (v := .ref (ad 5 0)) (C := RX9) (T := TX9) (N := 11) hx hb hts hin9 hown hK.1 hP 0 rfl rfl 3 (by decide) k_2 (fun _ h9 => h9) rfl dX9_rank_67 ?_
      refine va_get (D := G) (ci := 5) (v := .ref (ad 5 1)) (C := RX5) (T := TX5) (N := 9) hx hb hts hin5 hown hK.1 hP 1 rfl rfl 0 (by decide) k_3 (fun _ h9 => h9) rfl dX9_rank_70 ?_
      refine lv_iload_n hx hb dX9_rank_73 rfl (lv_at hl 1 rfl) ?_
      refine ald hx hb hK hP 2 0 rfl rfl (j := k) (by omega) (by omega) dX9_rank_74 ?_
      exact endI hx hb hr hlocks (()) (An1_ok (by omega) hk (by unfold rkI; repeat (first | rw [if_pos rfl] | rw [if_neg (by decide)]))) (hP.sub [0, 9, 10, 11, 1, 2, 3, 4, 5, 6, 7, 8] rfl) (hD.sub [0, 9, 10, 11, 1, 2, 3, 4, 5, 6, 7, 8] (by decide) rfl) hS dX9_rank_75
    by_cases w_2 : q = nI 2
    · skip
      subst w_2
      refine lv_tableIn (tgt := 76) (off := 62) hx hb dX9_rank_14 (by decide) (by decide) (by decide) (by decide) ?_
      refine lv_aload_n hx hb dX9_rank_76 rfl (lv_at hl 0 rfl) ?_
      refine va_get (D := G) (ci := 9) (v := .ref (ad 5 0)) (C := RX9) (T := TX9) (N := 11) hx hb hts hin9 hown hK.1 hP 0 rfl rfl 3 (by decide) k_2 (fun _ h9 => h9) rfl dX9_rank_77 ?_
      refine va_get (D := G) (ci := 5) (v := .ref (ad 5 2)) (C := RX5) (T := TX5) (N := 9) hx hb hts hin5 hown hK.1 hP 1 rfl rfl 1 (by decide) k_4 (fun _ h9 => h9) rfl dX9_rank_80 ?_
      refine lv_iload_n hx hb dX9_rank_83 rfl (lv_at hl 1 rfl) ?_
      refine ald hx hb hK hP 3 0 rfl rfl (j := k) (by omega) (by omega) dX9_rank_84 ?_
      exact endI hx hb hr hlocks (()) (An1_ok (by omega) hk (by unfold rkI; repeat (first | rw [if_pos rfl] | rw [if_neg (by decide)]))) (hP.sub [0, 9, 10, 11, 1, 2, 3, 4, 5, 6, 7, 8] rfl) (hD.sub [0, 9, 10, 11, 1, 2, 3, 4, 5, 6, 7, 8] (by decide) rfl) hS dX9_rank_85
    by_cases w_3 : q = nI 3
    · skip
      subst w_3
      refine lv_tableIn (tgt := 86) (off := 72) hx hb dX9_rank_14 (by decide) (by decide) (by decide) (by decide) ?_
      refine lv_aload_n hx hb dX9_rank_86 rfl (lv_at hl 0 rfl) ?_
      refine va_get (D := G) (ci := 9) (v := .ref (ad 5 0)) (C := RX9) (T := TX9) (N := 11) hx hb hts hin9 hown hK.1 hP 0 rfl rfl 3 (by decide) k_2 (fun _ h9 => h9) rfl dX9_rank_87 ?_
      refine va_get (D := G) (ci := 5) (v := .ref (ad 5 4)) (C := RX5) (T := TX5) (N := 9) hx hb hts hin5 hown hK.1 hP 1 rfl rfl 3 (by decide) k_5 (fun _ h9 => h9) rfl dX9_rank_90 ?_
      refine lv_iload_n hx hb dX9_rank_93 rfl (lv_at hl 1 rfl) ?_
      refine ald hx hb hK hP 5 0 rfl rfl (j := k) (by omega) (by omega) dX9_rank_94 ?_
      exact endI hx hb hr hlocks (()) (An1_ok (by omega) hk (by unfold rkI; repeat (first | rw [if_pos rfl] | rw [if_neg (by decide)]))) (hP.sub [0, 9, 10, 11, 1, 2, 3, 4, 5, 6, 7, 8] rfl) (hD.sub [0, 9, 10, 11, 1, 2, 3, 4, 5, 6, 7, 8] (by decide) rfl) hS dX9_rank_95
    by_cases w_4 : q = nI 4
    · skip
      subst w_4
      refine lv_tableIn (tgt := 96) (off := 82) hx hb dX9_rank_14 (by decide) (by decide) (by decide) (by decide) ?_
      refine lv_aload_n hx hb dX9_rank_96 rfl (lv_at hl 0 rfl) ?_
      refine va_get (D := G) (ci := 9) (v := .ref (ad 5 0)) (C := RX9) (T := TX9) (N := 11) hx hb hts hin9 hown hK.1 hP 0 rfl rfl 3 (by decide) k_2 (fun _ h9 => h9) rfl dX9_rank_97 ?_
      refine lv_iload_n hx hb dX9_rank_100 rfl (lv_at hl 1 rfl) ?_
      refine aft_i (wr := [(ad 0 0, .inr (9, [.ref (ad 1 0), .ref (ad 2 0), .ref (ad 4 0), .ref (ad 5 0), .ref (ad 6 0), .ref (ad 7 0), .ref (ad 8 0), .ref (ad 9 0), .ref (ad 10 0), .ref (ad 11 0), .ref (ad 12 0)])), (ad 4 0, .inr (1, [.ref ((ad 4) 1), .ref ((ad 4) 2), .int (nI rk), .int (nI sl)])), (ad 4 1, .inl (cI, 7, .inl (fun i9 => nI (kd i9)))), (ad 4 2, .inl (cI, 175, .inl (fun i9 => nI (tn i9))))]) (va_runV (As := [.int (nI k)]) (rest := []) ⟨hx, hb, hml, hown, hts⟩ (c_X5_eastAndThousand (g := (ad 5)) (v := v) (mi := mi) (se := se) (k := k) (hk := by first | assumption | omega | exact hok.1 _ (by omega) | exact hok.2.2 _ _ (by omega) (by omega) | exact hok.2.1) _) (cwV 1 hts gX9_rank_X5_eastAndThousand rfl rfl rfl (by decide +kernel) ⟨Nat.le_of_ble_eq_true rfl, Nat.le_of_ble_eq_true rfl⟩) (preV (cq := (RX5, TX5, 9)) (q0 := 1) (ci := 5) hK hP hD [1, 2, 3, 4, 5, 6, 7, 8] rfl rfl rfl rfl) rfl rfl hl.1 rfl (lv_room (Nat.le_of_ble_eq_true rfl)) dX9_rank_101 ⟨Nat.le_of_ble_eq_true rfl, Nat.le_of_ble_eq_true rfl⟩) hP hD hS hA [1, 2, 3, 4, 5, 6, 7, 8] [0, 9, 10, 11] rfl rfl rfl (by decide) (fun r_101 uu9 H locs hw hP hD hS => ?_)
      have hP : va_P G vwCl [(ad 0 0, .inr (9, [.ref (ad 1 0), .ref (ad 2 0), .ref (ad 4 0), .ref (ad 5 0), .ref (ad 6 0), .ref (ad 7 0), .ref (ad 8 0), .ref (ad 9 0), .ref (ad 10 0), .ref (ad 11 0), .ref (ad 12 0)])), (ad 4 0, .inr (1, [.ref ((ad 4) 1), .ref ((ad 4) 2), .int (nI rk), .int (nI sl)])), (ad 4 1, .inl (cI, 7, .inl (fun i9 => nI (kd i9)))), (ad 4 2, .inl (cI, 175, .inl (fun i9 => nI (tn i9)))), (ad 5 0, .inr (5, [.ref ((ad 5) 1), .ref ((ad 5) 2), .ref ((ad 5) 3), .ref ((ad 5) 4), .ref ((ad 5) 5), .ref ((ad 5) 6), .ref ((ad 5) 7), .int mi, .long se])), (ad 5 1, .inl (cI, 7, .inl (v 0))), (ad 5 2, .inl (cI, 7, .inl (v 1))), (ad 5 3, .inl (cI, 7, .inl (v 5))), (ad 5 4, .inl (cI, 7, .inl (v 2))), (ad 5 5, .inl (cI, 7, .inl (v 3))), (ad 5 6, .inl (cI, 7, .inl (v 4))), (ad 5 7, .inl (cZ, 7, .inl (v 6)))] _ := hP
      have hD : va_D A [(ad 0 0, .inr (9, [.ref (ad 1 0), .ref (ad 2 0), .ref (ad 4 0), .ref (ad 5 0), .ref (ad 6 0), .ref (ad 7 0), .ref (ad 8 0), .ref (ad 9 0), .ref (ad 10 0), .ref (ad 11 0), .ref (ad 12 0)])), (ad 4 0, .inr (1, [.ref ((ad 4) 1), .ref ((ad 4) 2), .int (nI rk), .int (nI sl)])), (ad 4 1, .inl (cI, 7, .inl (fun i9 => nI (kd i9)))), (ad 4 2, .inl (cI, 175, .inl (fun i9 => nI (tn i9)))), (ad 5 0, .inr (5, [.ref ((ad 5) 1), .ref ((ad 5) 2), .ref ((ad 5) 3), .ref ((ad 5) 4), .ref ((ad 5) 5), .ref ((ad 5) 6), .ref ((ad 5) 7), .int mi, .long se])), (ad 5 1, .inl (cI, 7, .inl (v 0))), (ad 5 2, .inl (cI, 7, .inl (v 1))), (ad 5 3, .inl (cI, 7, .inl (v 5))), (ad 5 4, .inl (cI, 7, .inl (v 2))), (ad 5 5, .inl (cI, 7, .inl (v 3))), (ad 5 6, .inl (cI, 7, .inl (v 4))), (ad 5 7, .inl (cZ, 7, .inl (v 6)))] := hD
      obtain rfl := hw
      refine top_i (y := nI 1000 + v 3 k) rfl ?_
      exact endI hx hb hr hlocks (()) (An1_ok (by omega) hk (by unfold rkI; repeat (first | rw [if_pos rfl] | rw [if_neg (by decide)]))) (hP.sub [0, 1, 2, 3, 4, 5, 6, 7, 8, 9, 10, 11] rfl) (hD.sub [0, 1, 2, 3, 4, 5, 6, 7, 8, 9, 10, 11] (by decide) rfl) hS dX9_rank_104
    by_cases w_5 : q = nI 5
    · skip
      subst w_5
      refine lv_tableIn (tgt := 105) (off := 91) hx hb dX9_rank_14 (by decide) (by decide) (by decide) (by decide) ?_
      refine lv_aload_n hx hb dX9_rank_105 rfl (lv_at hl 0 rfl) ?_
      refine va_get (D := G) (ci := 9) (v := .ref (ad 5 0)) (C := RX9) (T := TX9) (N := 11) hx hb hts hin9 hown hK.1 hP 0 rfl rfl 3 (by decide) k_2 (fun _ h9 => h9) rfl dX9_rank_106 ?_
      refine va_get (D := G) (ci := 5) (v := .ref (ad 5 6)) (C := RX5) (T := TX5) (N := 9) hx hb hts hin5 hown hK.1 hP 1 rfl rfl 5 (by decide) k_6 (fun _ h9 => h9) rfl dX9_rank_109 ?_
      refine lv_iload_n hx hb dX9_rank_112 rfl (lv_at hl 1 rfl) ?_
      refine ald hx hb hK hP 7 0 rfl rfl (j := k) (by omega) (by omega) dX9_rank_113 ?_
      exact endI hx hb hr hlocks (()) (An1_ok (by omega) hk (by unfold rkI; repeat (first | rw [if_pos rfl] | rw [if_neg (by decide)]))) (hP.sub [0, 9, 10, 11, 1, 2, 3, 4, 5, 6, 7, 8] rfl) (hD.sub [0, 9, 10, 11, 1, 2, 3, 4, 5, 6, 7, 8] (by decide) rfl) hS dX9_rank_114
    by_cases w_6 : q = nI 6
    · skip
      subst w_6
      refine lv_tableIn (tgt := 115) (off := 101) hx hb dX9_rank_14 (by decide) (by decide) (by decide) (by decide) ?_
      refine lv_aload_n hx hb dX9_rank_115 rfl (lv_at hl 0 rfl) ?_
      refine va_get (D := G) (ci := 9) (v := .ref (ad 5 0)) (C := RX9) (T := TX9) (N := 11) hx hb hts hin9 hown hK.1 hP 0 rfl rfl 3 (by decide) k_2 (fun _ h9 => h9) rfl dX9_rank_116 ?_
      refine va_get (D := G) (ci := 5) (v := .ref (ad 5 3)) (C := RX5) (T := TX5) (N := 9) hx hb hts hin5 hown hK.1 hP 1 rfl rfl 2 (by decide) k_7 (fun _ h9 => h9) rfl dX9_rank_119 ?_
      refine lv_iload_n hx hb dX9_rank_122 rfl (lv_at hl 1 rfl) ?_
      refine ald hx hb hK hP 4 0 rfl rfl (j := k) (by omega) (by omega) dX9_rank_123 ?_
      exact endI hx hb hr hlocks (()) (An1_ok (by omega) hk (by unfold rkI; repeat (first | rw [if_pos rfl] | rw [if_neg (by decide)]))) (hP.sub [0, 9, 10, 11, 1, 2, 3, 4, 5, 6, 7, 8] rfl) (hD.sub [0, 9, 10, 11, 1, 2, 3, 4, 5, 6, 7, 8] (by decide) rfl) hS dX9_rank_124
    refine lv_tableOut (tgt := 125) hx hb dX9_rank_14 (sw_out (hi := 6) 7 (by omega) (by decide) (by decide) (fun j hj => by rcases (show j = 0 ∨ j = 1 ∨ j = 2 ∨ j = 3 ∨ j = 4 ∨ j = 5 ∨ j = 6 by omega) with rfl | rfl | rfl | rfl | rfl | rfl | rfl <;> assumption)) (by decide) ?_
    refine lv_bipush (v := (-2)) hx hb dX9_rank_125 (by decide) ?_
    exact endI hx hb hr hlocks (()) (An1_ok (by omega) hk (rkI_no w_0 w_1 w_2 w_3 w_4 w_5 w_6).symm) (hP.sub [0, 9, 10, 11, 1, 2, 3, 4, 5, 6, 7, 8] rfl) (hD.sub [0, 9, 10, 11, 1, 2, 3, 4, 5, 6, 7, 8] (by decide) rfl) hS dX9_rank_127
  · skip
    have c_8 := bI_f c_8
    refine lv_iconst (v := (-1)) hx hb dX9_rank_11 (by decide) ?_
    exact endI hx hb hr hlocks (()) (An1_no c_8) (hP.sub [0, 9, 10, 11, 1, 2, 3, 4, 5, 6, 7, 8] rfl) (hD.sub [0, 9, 10, 11, 1, 2, 3, 4, 5, 6, 7, 8] (by decide) rfl) hS dX9_rank_12

set_option maxHeartbeats 4000000 in
set_option maxRecDepth 100000 in
theorem c_X9_slip {l : Launch} {G : va_G} {cI cJ cZ cS : ClassId} (ad : Nat → Nat → Nat) (kd : Nat → Nat) (tn : Nat → Nat) (rk : Nat) (sl : Nat) (r : Int32) (u : Int32) (w : Int32) (hrk : rk < 8) (hok : ArmyOk kd tn) : CI l G (kT cI cJ cZ cS) (S := Unit) yX9_slip wsX9_slip { frames := 4, cells := 0, slots := 0, locals := 92 } [.ref (ad 0 0), .int r, .int u, .int w] [(ad 0 0, .inr (9, [.ref (ad 1 0), .ref (ad 2 0), .ref (ad 4 0), .ref (ad 5 0), .ref (ad 6 0), .ref (ad 7 0), .ref (ad 8 0), .ref (ad 9 0), .ref (ad 10 0), .ref (ad 11 0), .ref (ad 12 0)])), (ad 4 0, .inr (1, [.ref (ad 4 1), .ref (ad 4 2), .int (nI rk), .int (nI sl)])), (ad 4 1, .inl (cI, 7, .inl (fun i9 => nI (kd i9)))), (ad 4 2, .inl (cI, 175, .inl (fun i9 => nI (tn i9))))] (fun res _ => An3 rk r u w (fun k9 o9 w9 => nI (wayT tn k9 o9 w9)) (-1) res) (fun _ => [(ad 0 0, .inr (9, [.ref (ad 1 0), .ref (ad 2 0), .ref (ad 4 0), .ref (ad 5 0), .ref (ad 6 0), .ref (ad 7 0), .ref (ad 8 0), .ref (ad 9 0), .ref (ad 10 0), .ref (ad 11 0), .ref (ad 12 0)])), (ad 4 0, .inr (1, [.ref (ad 4 1), .ref (ad 4 2), .int (nI rk), .int (nI sl)])), (ad 4 1, .inl (cI, 7, .inl (fun i9 => nI (kd i9)))), (ad 4 2, .inl (cI, 175, .inl (fun i9 => nI (tn i9))))]) := by
  refine CI.of (cc := cX9_slip) (maxL := 4) (by decide) rfl (Nat.le_of_ble_eq_true rfl) ?_
  intro p9 e9 s m below meth co9 A ls hB
  obtain ⟨hx, hb, hml, hr, hts, hown, hlocks, hmn, hK, hP, hD, hS, hA, hl⟩ := hB
  have hP : va_P G vwCl [(ad 0 0, .inr (9, [.ref (ad 1 0), .ref (ad 2 0), .ref (ad 4 0), .ref (ad 5 0), .ref (ad 6 0), .ref (ad 7 0), .ref (ad 8 0), .ref (ad 9 0), .ref (ad 10 0), .ref (ad 11 0), .ref (ad 12 0)])), (ad 4 0, .inr (1, [.ref (ad 4 1), .ref (ad 4 2), .int (nI rk), .int (nI sl)])), (ad 4 1, .inl (cI, 7, .inl (fun i9 => nI (kd i9)))), (ad 4 2, .inl (cI, 175, .inl (fun i9 => nI (tn i9))))] s.heap := hP
  have hD : va_D A [(ad 0 0, .inr (9, [.ref (ad 1 0), .ref (ad 2 0), .ref (ad 4 0), .ref (ad 5 0), .ref (ad 6 0), .ref (ad 7 0), .ref (ad 8 0), .ref (ad 9 0), .ref (ad 10 0), .ref (ad 11 0), .ref (ad 12 0)])), (ad 4 0, .inr (1, [.ref (ad 4 1), .ref (ad 4 2), .int (nI rk), .int (nI sl)])), (ad 4 1, .inl (cI, 7, .inl (fun i9 => nI (kd i9)))), (ad 4 2, .inl (cI, 175, .inl (fun i9 => nI (tn i9))))] := hD
  have hl : lv_has ls 4 [(0, .ref (ad 0 0)), (1, .int r), (2, .int u), (3, .int w)] := hl
  have k_0 := hts (.fieldLink RX9 26 "HearsayMarch" "army" "LHearsayMarch$Army;") (by decide +kernel)
  have hin9 : ∀ w ∈ wsX90, w ∈ wsX9_slip := by decide +kernel
  refine lv_aload_n hx hb dX9_slip_0 rfl (lv_at hl 0 rfl) ?_
  refine va_get (D := G) (ci := 9) (v := .ref (ad 4 0)) (C := RX9) (T := TX9) (N := 11) hx hb hts hin9 hown hK.1 hP 0 rfl rfl 2 (by decide) k_0 (fun _ h9 => h9) rfl dX9_slip_1 ?_
  refine lv_iload_n hx hb dX9_slip_4 rfl (lv_at hl 1 rfl) ?_
  refine aft_i (wr := [(ad 0 0, .inr (9, [.ref (ad 1 0), .ref (ad 2 0), .ref (ad 4 0), .ref (ad 5 0), .ref (ad 6 0), .ref (ad 7 0), .ref (ad 8 0), .ref (ad 9 0), .ref (ad 10 0), .ref (ad 11 0), .ref (ad 12 0)]))]) (va_runV (As := [.int r]) (rest := []) ⟨hx, hb, hml, hown, hts⟩ (c_X1_has (h := (ad 4)) (kd := kd) (tn := tn) (rk := rk) (sl := sl) (r := r) (hrk := by first | assumption | omega | exact hok.1 _ (by omega) | exact hok.2.2 _ _ (by omega) (by omega) | exact hok.2.1) _) (cwV 1 hts gX9_slip_X1_has rfl rfl rfl (by decide +kernel) ⟨Nat.le_of_ble_eq_true rfl, Nat.le_of_ble_eq_true rfl⟩) (preV (cq := (RX1, TX1, 4)) (q0 := 1) (ci := 1) hK hP hD [1, 2, 3] rfl rfl rfl rfl) rfl rfl hl.1 rfl (lv_room (Nat.le_of_ble_eq_true rfl)) dX9_slip_5 ⟨Nat.le_of_ble_eq_true rfl, Nat.le_of_ble_eq_true rfl⟩) hP hD hS hA [1, 2, 3] [0] rfl rfl rfl (by decide) (fun r_5 uu9 H locs hw hP hD hS => ?_)
  have hP : va_P G vwCl [(ad 0 0, .inr (9, [.ref (ad 1 0), .ref (ad 2 0), .ref (ad 4 0), .ref (ad 5 0), .ref (ad 6 0), .ref (ad 7 0), .ref (ad 8 0), .ref (ad 9 0), .ref (ad 10 0), .ref (ad 11 0), .ref (ad 12 0)])), (ad 4 0, .inr (1, [.ref ((ad 4) 1), .ref ((ad 4) 2), .int (nI rk), .int (nI sl)])), (ad 4 1, .inl (cI, 7, .inl (fun i9 => nI (kd i9)))), (ad 4 2, .inl (cI, 175, .inl (fun i9 => nI (tn i9))))] _ := hP
  have hD : va_D A [(ad 0 0, .inr (9, [.ref (ad 1 0), .ref (ad 2 0), .ref (ad 4 0), .ref (ad 5 0), .ref (ad 6 0), .ref (ad 7 0), .ref (ad 8 0), .ref (ad 9 0), .ref (ad 10 0), .ref (ad 11 0), .ref (ad 12 0)])), (ad 4 0, .inr (1, [.ref ((ad 4) 1), .ref ((ad 4) 2), .int (nI rk), .int (nI sl)])), (ad 4 1, .inl (cI, 7, .inl (fun i9 => nI (kd i9)))), (ad 4 2, .inl (cI, 175, .inl (fun i9 => nI (tn i9))))] := hD
  obtain rfl := hw
  refine top_i (y := bI (isR rk r)) rfl ?_
  refine lv_if_eq (tgt := 25) hx hb dX9_slip_8 (by decide) (fun c_8 => ?_) (fun c_8 => ?_)
  · skip
    have c_8 := bI_f c_8
    refine lv_iconst (v := (-1)) hx hb dX9_slip_25 (by decide) ?_
    exact endI hx hb hr hlocks (()) (An3_no (fun h => c_8 h.1)) (hP.sub [0, 1, 2, 3] rfl) (hD.sub [0, 1, 2, 3] (by decide) rfl) hS dX9_slip_26
  · skip
    have c_8 := bI_t c_8
    obtain ⟨k, hk, rfl⟩ := c_8
    refine lv_iload_n hx hb dX9_slip_11 rfl (lv_at hl 2 rfl) ?_
    refine aft_i (wr := [(ad 0 0, .inr (9, [.ref (ad 1 0), .ref (ad 2 0), .ref (ad 4 0), .ref (ad 5 0), .ref (ad 6 0), .ref (ad 7 0), .ref (ad 8 0), .ref (ad 9 0), .ref (ad 10 0), .ref (ad 11 0), .ref (ad 12 0)])), (ad 4 0, .inr (1, [.ref ((ad 4) 1), .ref ((ad 4) 2), .int (nI rk), .int (nI sl)])), (ad 4 1, .inl (cI, 7, .inl (fun i9 => nI (kd i9)))), (ad 4 2, .inl (cI, 175, .inl (fun i9 => nI (tn i9))))]) (va_runS (As := [.int u]) (rest := []) ⟨hx, hb, hml, hown, hts⟩ (c_X9_isOrder (r := u) _) (va_cwS 1 hts gX9_slip_X9_isOrder rfl rfl rfl (by decide +kernel) ⟨Nat.le_of_ble_eq_true rfl, Nat.le_of_ble_eq_true rfl⟩) (preS hK hP hD [] rfl rfl) rfl rfl hl.1 rfl (lv_room (Nat.le_of_ble_eq_true rfl)) dX9_slip_12 ⟨Nat.le_of_ble_eq_true rfl, Nat.le_of_ble_eq_true rfl⟩) hP hD hS hA [] [0, 1, 2, 3] rfl rfl rfl (by decide) (fun r_12 uu9 H locs hw hP hD hS => ?_)
    have hP : va_P G vwCl [(ad 0 0, .inr (9, [.ref (ad 1 0), .ref (ad 2 0), .ref (ad 4 0), .ref (ad 5 0), .ref (ad 6 0), .ref (ad 7 0), .ref (ad 8 0), .ref (ad 9 0), .ref (ad 10 0), .ref (ad 11 0), .ref (ad 12 0)])), (ad 4 0, .inr (1, [.ref ((ad 4) 1), .ref ((ad 4) 2), .int (nI rk), .int (nI sl)])), (ad 4 1, .inl (cI, 7, .inl (fun i9 => nI (kd i9)))), (ad 4 2, .inl (cI, 175, .inl (fun i9 => nI (tn i9))))] _ := hP
    have hD : va_D A [(ad 0 0, .inr (9, [.ref (ad 1 0), .ref (ad 2 0), .ref (ad 4 0), .ref (ad 5 0), .ref (ad 6 0), .ref (ad 7 0), .ref (ad 8 0), .ref (ad 9 0), .ref (ad 10 0), .ref (ad 11 0), .ref (ad 12 0)])), (ad 4 0, .inr (1, [.ref ((ad 4) 1), .ref ((ad 4) 2), .int (nI rk), .int (nI sl)])), (ad 4 1, .inl (cI, 7, .inl (fun i9 => nI (kd i9)))), (ad 4 2, .inl (cI, 175, .inl (fun i9 => nI (tn i9))))] := hD
    obtain rfl := hw
    refine top_i (y := bI (isR 5 u)) rfl ?_
    refine lv_if_eq (tgt := 25) hx hb dX9_slip_15 (by decide) (fun c_15 => ?_) (fun c_15 => ?_)
    · skip
      have c_15 := bI_f c_15
      refine lv_iconst (v := (-1)) hx hb dX9_slip_25 (by decide) ?_
      exact endI hx hb hr hlocks (()) (An3_no (fun h => c_15 h.2.1)) (hP.sub [0, 1, 2, 3] rfl) (hD.sub [0, 1, 2, 3] (by decide) rfl) hS dX9_slip_26
    · skip
      have c_15 := bI_t c_15
      obtain ⟨o, ho, rfl⟩ := c_15
      refine lv_iload_n hx hb dX9_slip_18 rfl (lv_at hl 3 rfl) ?_
      refine aft_i (wr := [(ad 0 0, .inr (9, [.ref (ad 1 0), .ref (ad 2 0), .ref (ad 4 0), .ref (ad 5 0), .ref (ad 6 0), .ref (ad 7 0), .ref (ad 8 0), .ref (ad 9 0), .ref (ad 10 0), .ref (ad 11 0), .ref (ad 12 0)])), (ad 4 0, .inr (1, [.ref ((ad 4) 1), .ref ((ad 4) 2), .int (nI rk), .int (nI sl)])), (ad 4 1, .inl (cI, 7, .inl (fun i9 => nI (kd i9)))), (ad 4 2, .inl (cI, 175, .inl (fun i9 => nI (tn i9))))]) (va_runS (As := [.int w]) (rest := []) ⟨hx, hb, hml, hown, hts⟩ (c_X9_isOrder (r := w) _) (va_cwS 1 hts gX9_slip_X9_isOrder rfl rfl rfl (by decide +kernel) ⟨Nat.le_of_ble_eq_true rfl, Nat.le_of_ble_eq_true rfl⟩) (preS hK hP hD [] rfl rfl) rfl rfl hl.1 rfl (lv_room (Nat.le_of_ble_eq_true rfl)) dX9_slip_19 ⟨Nat.le_of_ble_eq_true rfl, Nat.le_of_ble_eq_true rfl⟩) hP hD hS hA [] [0, 1, 2, 3] rfl rfl rfl (by decide) (fun r_19 uu9 H locs hw hP hD hS => ?_)
      have hP : va_P G vwCl [(ad 0 0, .inr (9, [.ref (ad 1 0), .ref (ad 2 0), .ref (ad 4 0), .ref (ad 5 0), .ref (ad 6 0), .ref (ad 7 0), .ref (ad 8 0), .ref (ad 9 0), .ref (ad 10 0), .ref (ad 11 0), .ref (ad 12 0)])), (ad 4 0, .inr (1, [.ref ((ad 4) 1), .ref ((ad 4) 2), .int (nI rk), .int (nI sl)])), (ad 4 1, .inl (cI, 7, .inl (fun i9 => nI (kd i9)))), (ad 4 2, .inl (cI, 175, .inl (fun i9 => nI (tn i9))))] _ := hP
      have hD : va_D A [(ad 0 0, .inr (9, [.ref (ad 1 0), .ref (ad 2 0), .ref (ad 4 0), .ref (ad 5 0), .ref (ad 6 0), .ref (ad 7 0), .ref (ad 8 0), .ref (ad 9 0), .ref (ad 10 0), .ref (ad 11 0), .ref (ad 12 0)])), (ad 4 0, .inr (1, [.ref ((ad 4) 1), .ref ((ad 4) 2), .int (nI rk), .int (nI sl)])), (ad 4 1, .inl (cI, 7, .inl (fun i9 => nI (kd i9)))), (ad 4 2, .inl (cI, 175, .inl (fun i9 => nI (tn i9))))] := hD
      obtain rfl := hw
      refine top_i (y := bI (isR 5 w)) rfl ?_
      refine lv_if_ne (tgt := 27) hx hb dX9_slip_22 (by decide) (fun c_22 => ?_) (fun c_22 => ?_)
      · skip
        have c_22 := bI_t c_22
        obtain ⟨x, hx9, rfl⟩ := c_22
        refine lv_aload_n hx hb dX9_slip_27 rfl (lv_at hl 0 rfl) ?_
        refine va_get (D := G) (ci := 9) (v := .ref (ad 4 0)) (C := RX9) (T := TX9) (N := 11) hx hb hts hin9 hown hK.1 hP 0 rfl rfl 2 (by decide) k_0 (fun _ h9 => h9) rfl dX9_slip_28 ?_
        refine lv_iload_n hx hb dX9_slip_31 rfl (lv_at hl 1 rfl) ?_
        refine lv_iload_n hx hb dX9_slip_32 rfl (lv_at hl 2 rfl) ?_
        refine lv_iload_n hx hb dX9_slip_33 rfl (lv_at hl 3 rfl) ?_
        refine aft_i (wr := [(ad 0 0, .inr (9, [.ref (ad 1 0), .ref (ad 2 0), .ref (ad 4 0), .ref (ad 5 0), .ref (ad 6 0), .ref (ad 7 0), .ref (ad 8 0), .ref (ad 9 0), .ref (ad 10 0), .ref (ad 11 0), .ref (ad 12 0)]))]) (va_runV (As := [.int (nI k), .int (nI o), .int (nI x)]) (rest := []) ⟨hx, hb, hml, hown, hts⟩ (c_X1_wayTenths (h := (ad 4)) (kd := kd) (tn := tn) (rk := rk) (sl := sl) (k := k) (u := o) (v := x) (hk := by first | assumption | omega | exact hok.1 _ (by omega) | exact hok.2.2 _ _ (by omega) (by omega) | exact hok.2.1) (hu := by first | assumption | omega | exact hok.1 _ (by omega) | exact hok.2.2 _ _ (by omega) (by omega) | exact hok.2.1) (hv := by first | assumption | omega | exact hok.1 _ (by omega) | exact hok.2.2 _ _ (by omega) (by omega) | exact hok.2.1) (hs := by first | assumption | omega | exact hok.1 _ (by omega) | exact hok.2.2 _ _ (by omega) (by omega) | exact hok.2.1) _) (cwV 3 hts gX9_slip_X1_wayTenths rfl rfl rfl (by decide +kernel) ⟨Nat.le_of_ble_eq_true rfl, Nat.le_of_ble_eq_true rfl⟩) (preV (cq := (RX1, TX1, 4)) (q0 := 1) (ci := 1) hK hP hD [1, 2, 3] rfl rfl rfl rfl) rfl rfl hl.1 rfl (lv_room (Nat.le_of_ble_eq_true rfl)) dX9_slip_34 ⟨Nat.le_of_ble_eq_true rfl, Nat.le_of_ble_eq_true rfl⟩) hP hD hS hA [1, 2, 3] [0] rfl rfl rfl (by decide) (fun r_34 uu9 H locs hw hP hD hS => ?_)
        have hP : va_P G vwCl [(ad 0 0, .inr (9, [.ref (ad 1 0), .ref (ad 2 0), .ref (ad 4 0), .ref (ad 5 0), .ref (ad 6 0), .ref (ad 7 0), .ref (ad 8 0), .ref (ad 9 0), .ref (ad 10 0), .ref (ad 11 0), .ref (ad 12 0)])), (ad 4 0, .inr (1, [.ref ((ad 4) 1), .ref ((ad 4) 2), .int (nI rk), .int (nI sl)])), (ad 4 1, .inl (cI, 7, .inl (fun i9 => nI (kd i9)))), (ad 4 2, .inl (cI, 175, .inl (fun i9 => nI (tn i9))))] _ := hP
        have hD : va_D A [(ad 0 0, .inr (9, [.ref (ad 1 0), .ref (ad 2 0), .ref (ad 4 0), .ref (ad 5 0), .ref (ad 6 0), .ref (ad 7 0), .ref (ad 8 0), .ref (ad 9 0), .ref (ad 10 0), .ref (ad 11 0), .ref (ad 12 0)])), (ad 4 0, .inr (1, [.ref ((ad 4) 1), .ref ((ad 4) 2), .int (nI rk), .int (nI sl)])), (ad 4 1, .inl (cI, 7, .inl (fun i9 => nI (kd i9)))), (ad 4 2, .inl (cI, 175, .inl (fun i9 => nI (tn i9))))] := hD
        obtain rfl := hw
        refine top_i (y := nI (wayT tn k o x)) rfl ?_
        exact endI hx hb hr hlocks (()) (An3_ok (by omega) hk ho hx9 rfl) (hP.sub [0, 1, 2, 3] rfl) (hD.sub [0, 1, 2, 3] (by decide) rfl) hS dX9_slip_37
      · skip
        have c_22 := bI_f c_22
        refine lv_iconst (v := (-1)) hx hb dX9_slip_25 (by decide) ?_
        exact endI hx hb hr hlocks (()) (An3_no (fun h => c_22 h.2.2)) (hP.sub [0, 1, 2, 3] rfl) (hD.sub [0, 1, 2, 3] (by decide) rfl) hS dX9_slip_26

set_option maxHeartbeats 4000000 in
set_option maxRecDepth 100000 in
theorem c_X9_seed {l : Launch} {G : va_G} {cI cJ cZ cS : ClassId} (ad : Nat → Nat → Nat) (v : Nat → Nat → Int32) (mi : Int32) (se : Int64) (z : Int64) : CL l G (kT cI cJ cZ cS) (S := Unit) yX9_seed wsX9_seed { frames := 0, cells := 0, slots := 0, locals := 0 } [.ref (ad 0 0), .long z] [(ad 0 0, .inr (9, [.ref (ad 1 0), .ref (ad 2 0), .ref (ad 4 0), .ref (ad 5 0), .ref (ad 6 0), .ref (ad 7 0), .ref (ad 8 0), .ref (ad 9 0), .ref (ad 10 0), .ref (ad 11 0), .ref (ad 12 0)])), (ad 5 0, .inr (5, [.ref (ad 5 1), .ref (ad 5 2), .ref (ad 5 3), .ref (ad 5 4), .ref (ad 5 5), .ref (ad 5 6), .ref (ad 5 7), .int mi, .long se])), (ad 5 1, .inl (cI, 7, .inl (v 0))), (ad 5 2, .inl (cI, 7, .inl (v 1))), (ad 5 3, .inl (cI, 7, .inl (v 5))), (ad 5 4, .inl (cI, 7, .inl (v 2))), (ad 5 5, .inl (cI, 7, .inl (v 3))), (ad 5 6, .inl (cI, 7, .inl (v 4))), (ad 5 7, .inl (cZ, 7, .inl (v 6)))] (fun res _ => res = se) (fun _ => [(ad 0 0, .inr (9, [.ref (ad 1 0), .ref (ad 2 0), .ref (ad 4 0), .ref (ad 5 0), .ref (ad 6 0), .ref (ad 7 0), .ref (ad 8 0), .ref (ad 9 0), .ref (ad 10 0), .ref (ad 11 0), .ref (ad 12 0)])), (ad 5 0, .inr (5, [.ref (ad 5 1), .ref (ad 5 2), .ref (ad 5 3), .ref (ad 5 4), .ref (ad 5 5), .ref (ad 5 6), .ref (ad 5 7), .int mi, .long z])), (ad 5 1, .inl (cI, 7, .inl (v 0))), (ad 5 2, .inl (cI, 7, .inl (v 1))), (ad 5 3, .inl (cI, 7, .inl (v 5))), (ad 5 4, .inl (cI, 7, .inl (v 2))), (ad 5 5, .inl (cI, 7, .inl (v 3))), (ad 5 6, .inl (cI, 7, .inl (v 4))), (ad 5 7, .inl (cZ, 7, .inl (v 6)))]) := by
  refine CL.of (cc := cX9_seed) (maxL := 5) (by decide) rfl (Nat.le_of_ble_eq_true rfl) ?_
  intro p9 e9 s m below meth co9 A ls hB
  obtain ⟨hx, hb, hml, hr, hts, hown, hlocks, hmn, hK, hP, hD, hS, hA, hl⟩ := hB
  have hP : va_P G vwCl [(ad 0 0, .inr (9, [.ref (ad 1 0), .ref (ad 2 0), .ref (ad 4 0), .ref (ad 5 0), .ref (ad 6 0), .ref (ad 7 0), .ref (ad 8 0), .ref (ad 9 0), .ref (ad 10 0), .ref (ad 11 0), .ref (ad 12 0)])), (ad 5 0, .inr (5, [.ref (ad 5 1), .ref (ad 5 2), .ref (ad 5 3), .ref (ad 5 4), .ref (ad 5 5), .ref (ad 5 6), .ref (ad 5 7), .int mi, .long se])), (ad 5 1, .inl (cI, 7, .inl (v 0))), (ad 5 2, .inl (cI, 7, .inl (v 1))), (ad 5 3, .inl (cI, 7, .inl (v 5))), (ad 5 4, .inl (cI, 7, .inl (v 2))), (ad 5 5, .inl (cI, 7, .inl (v 3))), (ad 5 6, .inl (cI, 7, .inl (v 4))), (ad 5 7, .inl (cZ, 7, .inl (v 6)))] s.heap := hP
  have hD : va_D A [(ad 0 0, .inr (9, [.ref (ad 1 0), .ref (ad 2 0), .ref (ad 4 0), .ref (ad 5 0), .ref (ad 6 0), .ref (ad 7 0), .ref (ad 8 0), .ref (ad 9 0), .ref (ad 10 0), .ref (ad 11 0), .ref (ad 12 0)])), (ad 5 0, .inr (5, [.ref (ad 5 1), .ref (ad 5 2), .ref (ad 5 3), .ref (ad 5 4), .ref (ad 5 5), .ref (ad 5 6), .ref (ad 5 7), .int mi, .long se])), (ad 5 1, .inl (cI, 7, .inl (v 0))), (ad 5 2, .inl (cI, 7, .inl (v 1))), (ad 5 3, .inl (cI, 7, .inl (v 5))), (ad 5 4, .inl (cI, 7, .inl (v 2))), (ad 5 5, .inl (cI, 7, .inl (v 3))), (ad 5 6, .inl (cI, 7, .inl (v 4))), (ad 5 7, .inl (cZ, 7, .inl (v 6)))] := hD
  have hl : lv_has ls 5 [(0, .ref (ad 0 0)), (1, .long z)] := hl
  have k_0 := hts (.fieldLink RX9 33 "HearsayMarch" "scene" "LHearsayMarch$Scene;") (by decide +kernel)
  have k_1 := hts (.fieldLink RX9 162 "HearsayMarch$Scene" "seed" "J") (by decide +kernel)
  have hin5 : ∀ w ∈ wsX50, w ∈ wsX9_seed := by decide +kernel
  have hin9 : ∀ w ∈ wsX90, w ∈ wsX9_seed := by decide +kernel
  refine lv_aload_n hx hb dX9_seed_0 rfl (lv_at hl 0 rfl) ?_
  refine va_get (D := G) (ci := 9) (v := .ref (ad 5 0)) (C := RX9) (T := TX9) (N := 11) hx hb hts hin9 hown hK.1 hP 0 rfl rfl 3 (by decide) k_0 (fun _ h9 => h9) rfl dX9_seed_1 ?_
  refine va_get (D := G) (ci := 5) (v := .long se) (C := RX5) (T := TX5) (N := 9) hx hb hts hin5 hown hK.1 hP 1 rfl rfl 8 (by decide) k_1 (fun _ h9 => h9) rfl dX9_seed_4 ?_
  refine lv_lstore_n (lv' := [(3, .long se), (0, .ref (ad 0 0)), (1, .long z)]) hx hb dX9_seed_7 rfl hl (by decide) rfl (fun ls hl => ?_)
  refine lv_aload_n hx hb dX9_seed_8 rfl (lv_at hl 1 rfl) ?_
  refine va_get (D := G) (ci := 9) (v := .ref (ad 5 0)) (C := RX9) (T := TX9) (N := 11) hx hb hts hin9 hown hK.1 hP 0 rfl rfl 3 (by decide) k_0 (fun _ h9 => h9) rfl dX9_seed_9 ?_
  refine lv_lload_n hx hb dX9_seed_12 rfl (lv_at hl 2 rfl) ?_
  refine va_put (D := G) (ci := 5) (v := .long z) (ty := tyX5 8) (C := RX5) (T := TX5) (N := 9) hx hb hts hin5 tyX5 tyX5_ok nmX5 hown hK.1 hP hD hS 1 rfl rfl 8 (by decide) k_1 (fun _ h9 => h9) rfl (by decide +kernel) rfl rfl (Nat.le_of_ble_eq_true rfl) dX9_seed_13 (fun H locs hP hD hS => ?_)
  have hP : va_P G vwCl [(ad 0 0, .inr (9, [.ref (ad 1 0), .ref (ad 2 0), .ref (ad 4 0), .ref (ad 5 0), .ref (ad 6 0), .ref (ad 7 0), .ref (ad 8 0), .ref (ad 9 0), .ref (ad 10 0), .ref (ad 11 0), .ref (ad 12 0)])), (ad 5 0, .inr (5, [.ref (ad 5 1), .ref (ad 5 2), .ref (ad 5 3), .ref (ad 5 4), .ref (ad 5 5), .ref (ad 5 6), .ref (ad 5 7), .int mi, .long z])), (ad 5 1, .inl (cI, 7, .inl (v 0))), (ad 5 2, .inl (cI, 7, .inl (v 1))), (ad 5 3, .inl (cI, 7, .inl (v 5))), (ad 5 4, .inl (cI, 7, .inl (v 2))), (ad 5 5, .inl (cI, 7, .inl (v 3))), (ad 5 6, .inl (cI, 7, .inl (v 4))), (ad 5 7, .inl (cZ, 7, .inl (v 6)))] _ := hP
  have hD : va_D A [(ad 0 0, .inr (9, [.ref (ad 1 0), .ref (ad 2 0), .ref (ad 4 0), .ref (ad 5 0), .ref (ad 6 0), .ref (ad 7 0), .ref (ad 8 0), .ref (ad 9 0), .ref (ad 10 0), .ref (ad 11 0), .ref (ad 12 0)])), (ad 5 0, .inr (5, [.ref (ad 5 1), .ref (ad 5 2), .ref (ad 5 3), .ref (ad 5 4), .ref (ad 5 5), .ref (ad 5 6), .ref (ad 5 7), .int mi, .long z])), (ad 5 1, .inl (cI, 7, .inl (v 0))), (ad 5 2, .inl (cI, 7, .inl (v 1))), (ad 5 3, .inl (cI, 7, .inl (v 5))), (ad 5 4, .inl (cI, 7, .inl (v 2))), (ad 5 5, .inl (cI, 7, .inl (v 3))), (ad 5 6, .inl (cI, 7, .inl (v 4))), (ad 5 7, .inl (cZ, 7, .inl (v 6)))] := hD
  refine lv_lload_n hx hb dX9_seed_16 rfl (lv_at hl 0 rfl) ?_
  exact endL hx hb hr hlocks (()) (rfl) (hP.sub [0, 1, 2, 3, 4, 5, 6, 7, 8] rfl) (hD.sub [0, 1, 2, 3, 4, 5, 6, 7, 8] (by decide) rfl) hS dX9_seed_17

set_option maxHeartbeats 4000000 in
set_option maxRecDepth 100000 in
theorem c_X9_comingOrders {l : Launch} {G : va_G} {cI cJ cZ cS : ClassId} (ad : Nat → Nat → Nat) (kd : Nat → Nat) (tn : Nat → Nat) (rk : Nat) (sl : Nat) (pa : Nat → Nat) (on : Nat → Nat) (wh : Nat) (k : Nat) (o : Nat) (hok : ArmyOk kd tn) (hk : k < 7) (ho : o < 5) : CI l G (kT cI cJ cZ cS) (S := (Nat → Nat) × (Nat → Nat)) yX9_comingOrders wsX9_comingOrders { frames := 6, cells := 0, slots := 0, locals := 143 } [.ref (ad 0 0), .int (nI k), .int (nI o)] [(ad 0 0, .inr (9, [.ref (ad 1 0), .ref (ad 2 0), .ref (ad 4 0), .ref (ad 5 0), .ref (ad 6 0), .ref (ad 7 0), .ref (ad 8 0), .ref (ad 9 0), .ref (ad 10 0), .ref (ad 11 0), .ref (ad 12 0)])), (ad 4 0, .inr (1, [.ref (ad 4 1), .ref (ad 4 2), .int (nI rk), .int (nI sl)])), (ad 4 1, .inl (cI, 7, .inl (fun i9 => nI (kd i9)))), (ad 4 2, .inl (cI, 175, .inl (fun i9 => nI (tn i9)))), (ad 10 0, .inr (2, [.ref (ad 10 1), .ref (ad 10 2), .long (lN wh)])), (ad 10 1, .inl (cJ, 5, .inr (.inl (fun i9 => lN (pa i9))))), (ad 10 2, .inl (cJ, 5, .inr (.inl (fun i9 => lN (on i9)))))] (fun res uu9 => match uu9 with | (p1, o1) => res = nI (comN (spP tn kd 0 o k) 5)) (fun uu9 => match uu9 with | (p1, o1) => [(ad 0 0, .inr (9, [.ref (ad 1 0), .ref (ad 2 0), .ref (ad 4 0), .ref (ad 5 0), .ref (ad 6 0), .ref (ad 7 0), .ref (ad 8 0), .ref (ad 9 0), .ref (ad 10 0), .ref (ad 11 0), .ref (ad 12 0)])), (ad 4 0, .inr (1, [.ref (ad 4 1), .ref (ad 4 2), .int (nI rk), .int (nI sl)])), (ad 4 1, .inl (cI, 7, .inl (fun i9 => nI (kd i9)))), (ad 4 2, .inl (cI, 175, .inl (fun i9 => nI (tn i9)))), (ad 10 0, .inr (2, [.ref (ad 10 1), .ref (ad 10 2), .long (lN (10 ^ (k - 0)))])), (ad 10 1, .inl (cJ, 5, .inr (.inl (fun i9 => lN (p1 i9))))), (ad 10 2, .inl (cJ, 5, .inr (.inl (fun i9 => lN (o1 i9)))))]) := by
  refine CI.of (cc := cX9_comingOrders) (maxL := 5) (by decide) rfl (Nat.le_of_ble_eq_true rfl) ?_
  intro p9 e9 s m below meth co9 A ls hB
  obtain ⟨hx, hb, hml, hr, hts, hown, hlocks, hmn, hK, hP, hD, hS, hA, hl⟩ := hB
  have hP : va_P G vwCl [(ad 0 0, .inr (9, [.ref (ad 1 0), .ref (ad 2 0), .ref (ad 4 0), .ref (ad 5 0), .ref (ad 6 0), .ref (ad 7 0), .ref (ad 8 0), .ref (ad 9 0), .ref (ad 10 0), .ref (ad 11 0), .ref (ad 12 0)])), (ad 4 0, .inr (1, [.ref (ad 4 1), .ref (ad 4 2), .int (nI rk), .int (nI sl)])), (ad 4 1, .inl (cI, 7, .inl (fun i9 => nI (kd i9)))), (ad 4 2, .inl (cI, 175, .inl (fun i9 => nI (tn i9)))), (ad 10 0, .inr (2, [.ref (ad 10 1), .ref (ad 10 2), .long (lN wh)])), (ad 10 1, .inl (cJ, 5, .inr (.inl (fun i9 => lN (pa i9))))), (ad 10 2, .inl (cJ, 5, .inr (.inl (fun i9 => lN (on i9)))))] s.heap := hP
  have hD : va_D A [(ad 0 0, .inr (9, [.ref (ad 1 0), .ref (ad 2 0), .ref (ad 4 0), .ref (ad 5 0), .ref (ad 6 0), .ref (ad 7 0), .ref (ad 8 0), .ref (ad 9 0), .ref (ad 10 0), .ref (ad 11 0), .ref (ad 12 0)])), (ad 4 0, .inr (1, [.ref (ad 4 1), .ref (ad 4 2), .int (nI rk), .int (nI sl)])), (ad 4 1, .inl (cI, 7, .inl (fun i9 => nI (kd i9)))), (ad 4 2, .inl (cI, 175, .inl (fun i9 => nI (tn i9)))), (ad 10 0, .inr (2, [.ref (ad 10 1), .ref (ad 10 2), .long (lN wh)])), (ad 10 1, .inl (cJ, 5, .inr (.inl (fun i9 => lN (pa i9))))), (ad 10 2, .inl (cJ, 5, .inr (.inl (fun i9 => lN (on i9)))))] := hD
  have hl : lv_has ls 5 [(0, .ref (ad 0 0)), (1, .int (nI k)), (2, .int (nI o))] := hl
  have k_0 := hts (.fieldLink RX9 64 "HearsayMarch" "chances" "LHearsayMarch$Chances;") (by decide +kernel)
  have k_1 := hts (.fieldLink RX9 26 "HearsayMarch" "army" "LHearsayMarch$Army;") (by decide +kernel)
  have k_2 := hts (.fieldLink RX9 189 "HearsayMarch$Chances" "parts" "[J") (by decide +kernel)
  have hin2 : ∀ w ∈ wsX20, w ∈ wsX9_comingOrders := by decide +kernel
  have hin9 : ∀ w ∈ wsX90, w ∈ wsX9_comingOrders := by decide +kernel
  refine lv_aload_n hx hb dX9_comingOrders_0 rfl (lv_at hl 0 rfl) ?_
  refine va_get (D := G) (ci := 9) (v := .ref (ad 10 0)) (C := RX9) (T := TX9) (N := 11) hx hb hts hin9 hown hK.1 hP 0 rfl rfl 8 (by decide) k_0 (fun _ h9 => h9) rfl dX9_comingOrders_1 ?_
  refine lv_aload_n hx hb dX9_comingOrders_4 rfl (lv_at hl 0 rfl) ?_
  refine va_get (D := G) (ci := 9) (v := .ref (ad 4 0)) (C := RX9) (T := TX9) (N := 11) hx hb hts hin9 hown hK.1 hP 0 rfl rfl 2 (by decide) k_1 (fun _ h9 => h9) rfl dX9_comingOrders_5 ?_
  refine lv_iconst (v := nI 0) hx hb dX9_comingOrders_8 (by decide) ?_
  refine lv_iload_n hx hb dX9_comingOrders_9 rfl (lv_at hl 1 rfl) ?_
  refine lv_iload_n hx hb dX9_comingOrders_10 rfl (lv_at hl 2 rfl) ?_
  refine aft_v (wr := [(ad 0 0, .inr (9, [.ref (ad 1 0), .ref (ad 2 0), .ref (ad 4 0), .ref (ad 5 0), .ref (ad 6 0), .ref (ad 7 0), .ref (ad 8 0), .ref (ad 9 0), .ref (ad 10 0), .ref (ad 11 0), .ref (ad 12 0)]))]) (va_runV (As := [.ref (ad 4 0), .int (nI 0), .int (nI k), .int (nI o)]) (rest := []) ⟨hx, hb, hml, hown, hts⟩ (c_X2_spread (g := (ad 10)) (pa := pa) (on := on) (wh := wh) (h := (ad 4)) (kd := kd) (tn := tn) (rk := rk) (sl := sl) (f := 0) (t := k) (o := o) (hok := by first | assumption | omega | exact hok.1 _ (by omega) | exact hok.2.2 _ _ (by omega) (by omega) | exact hok.2.1) (hf := by first | assumption | omega | exact hok.1 _ (by omega) | exact hok.2.2 _ _ (by omega) (by omega) | exact hok.2.1) (ht := by first | assumption | omega | exact hok.1 _ (by omega) | exact hok.2.2 _ _ (by omega) (by omega) | exact hok.2.1) (ho := by first | assumption | omega | exact hok.1 _ (by omega) | exact hok.2.2 _ _ (by omega) (by omega) | exact hok.2.1) _) (cwV 4 hts gX9_comingOrders_X2_spread rfl rfl rfl (by decide +kernel) ⟨Nat.le_of_ble_eq_true rfl, Nat.le_of_ble_eq_true rfl⟩) (preV (cq := (RX2, TX2, 3)) (q0 := 4) (ci := 2) hK hP hD [4, 5, 6, 1, 2, 3] rfl rfl rfl rfl) rfl rfl hl.1 rfl (lv_room (Nat.le_of_ble_eq_true rfl)) dX9_comingOrders_11 ⟨Nat.le_of_ble_eq_true rfl, Nat.le_of_ble_eq_true rfl⟩) hP hD hS hA [4, 5, 6, 1, 2, 3] [0] rfl rfl rfl (by decide) (fun uu9 H locs hw hP hD hS => ?_)
  obtain ⟨p1_11, o1_11⟩ := uu9
  have hP : va_P G vwCl [(ad 0 0, .inr (9, [.ref (ad 1 0), .ref (ad 2 0), .ref (ad 4 0), .ref (ad 5 0), .ref (ad 6 0), .ref (ad 7 0), .ref (ad 8 0), .ref (ad 9 0), .ref (ad 10 0), .ref (ad 11 0), .ref (ad 12 0)])), (ad 10 0, .inr (2, [.ref ((ad 10) 1), .ref ((ad 10) 2), .long (lN (10 ^ (k - 0)))])), (ad 10 1, .inl (cJ, 5, .inr (.inl (fun i9 => lN (p1_11 i9))))), (ad 10 2, .inl (cJ, 5, .inr (.inl (fun i9 => lN (o1_11 i9))))), (ad 4 0, .inr (1, [.ref ((ad 4) 1), .ref ((ad 4) 2), .int (nI rk), .int (nI sl)])), (ad 4 1, .inl (cI, 7, .inl (fun i9 => nI (kd i9)))), (ad 4 2, .inl (cI, 175, .inl (fun i9 => nI (tn i9))))] _ := hP
  have hD : va_D A [(ad 0 0, .inr (9, [.ref (ad 1 0), .ref (ad 2 0), .ref (ad 4 0), .ref (ad 5 0), .ref (ad 6 0), .ref (ad 7 0), .ref (ad 8 0), .ref (ad 9 0), .ref (ad 10 0), .ref (ad 11 0), .ref (ad 12 0)])), (ad 10 0, .inr (2, [.ref ((ad 10) 1), .ref ((ad 10) 2), .long (lN (10 ^ (k - 0)))])), (ad 10 1, .inl (cJ, 5, .inr (.inl (fun i9 => lN (p1_11 i9))))), (ad 10 2, .inl (cJ, 5, .inr (.inl (fun i9 => lN (o1_11 i9))))), (ad 4 0, .inr (1, [.ref ((ad 4) 1), .ref ((ad 4) 2), .int (nI rk), .int (nI sl)])), (ad 4 1, .inl (cI, 7, .inl (fun i9 => nI (kd i9)))), (ad 4 2, .inl (cI, 175, .inl (fun i9 => nI (tn i9))))] := hD
  have hw_11 : ∀ w, w < 5 → p1_11 w = spP tn kd 0 o (k - 0) w := hw
  refine lv_iconst (v := nI 0) hx hb dX9_comingOrders_14 (by decide) ?_
  refine lv_istore_n (lv' := [(3, .int (nI 0)), (0, .ref (ad 0 0)), (1, .int (nI k)), (2, .int (nI o))]) hx hb dX9_comingOrders_15 rfl hl (by decide) rfl (fun ls hl => ?_)
  refine lv_iconst (v := nI 0) hx hb dX9_comingOrders_16 (by decide) ?_
  refine lv_istore (lv' := [(4, .int (nI 0)), (3, .int (nI 0)), (0, .ref (ad 0 0)), (1, .int (nI k)), (2, .int (nI o))]) hx hb dX9_comingOrders_17 hl (by decide) rfl (fun ls hl => ?_)
  refine loopW (σ := Nat) 19 (fun (v : Nat) H locs ls => (v ≤ 5) ∧ va_P G vwCl [(ad 0 0, .inr (9, [.ref (ad 1 0), .ref (ad 2 0), .ref (ad 4 0), .ref (ad 5 0), .ref (ad 6 0), .ref (ad 7 0), .ref (ad 8 0), .ref (ad 9 0), .ref (ad 10 0), .ref (ad 11 0), .ref (ad 12 0)])), (ad 10 0, .inr (2, [.ref ((ad 10) 1), .ref ((ad 10) 2), .long (lN (10 ^ (k - 0)))])), (ad 10 1, .inl (cJ, 5, .inr (.inl (fun i9 => lN (p1_11 i9))))), (ad 10 2, .inl (cJ, 5, .inr (.inl (fun i9 => lN (o1_11 i9))))), (ad 4 0, .inr (1, [.ref ((ad 4) 1), .ref ((ad 4) 2), .int (nI rk), .int (nI sl)])), (ad 4 1, .inl (cI, 7, .inl (fun i9 => nI (kd i9)))), (ad 4 2, .inl (cI, 175, .inl (fun i9 => nI (tn i9))))] H ∧ va_D A [(ad 0 0, .inr (9, [.ref (ad 1 0), .ref (ad 2 0), .ref (ad 4 0), .ref (ad 5 0), .ref (ad 6 0), .ref (ad 7 0), .ref (ad 8 0), .ref (ad 9 0), .ref (ad 10 0), .ref (ad 11 0), .ref (ad 12 0)])), (ad 10 0, .inr (2, [.ref ((ad 10) 1), .ref ((ad 10) 2), .long (lN (10 ^ (k - 0)))])), (ad 10 1, .inl (cJ, 5, .inr (.inl (fun i9 => lN (p1_11 i9))))), (ad 10 2, .inl (cJ, 5, .inr (.inl (fun i9 => lN (o1_11 i9))))), (ad 4 0, .inr (1, [.ref ((ad 4) 1), .ref ((ad 4) 2), .int (nI rk), .int (nI sl)])), (ad 4 1, .inl (cI, 7, .inl (fun i9 => nI (kd i9)))), (ad 4 2, .inl (cI, 175, .inl (fun i9 => nI (tn i9))))] ∧ va_S A s.heap H locs ∧ lv_has ls 5 [(4, .int (nI v)), (3, .int (nI (comN (spP tn kd 0 o k) v))), (0, .ref (ad 0 0)), (1, .int (nI k)), (2, .int (nI o))]) (fun (v : Nat) => []) (fun (v : Nat) => 5 - v) ?_ 0 ⟨by first | assumption | omega | (simp; done), hP.sub [0, 1, 2, 3, 4, 5, 6] rfl, hD.sub [0, 1, 2, 3, 4, 5, 6] (by decide) rfl, hS, lv_sub hl [0, 1, 2, 3, 4] rfl⟩
  intro xx9 H locs ls hI ih_19
  obtain ⟨v, rfl⟩ : ∃ z, z = xx9 := ⟨_, rfl⟩
  obtain ⟨hv, hP, hD, hS, hl⟩ := hI
  have hv : v ≤ 5 := hv
  have hP : va_P G vwCl [(ad 0 0, .inr (9, [.ref (ad 1 0), .ref (ad 2 0), .ref (ad 4 0), .ref (ad 5 0), .ref (ad 6 0), .ref (ad 7 0), .ref (ad 8 0), .ref (ad 9 0), .ref (ad 10 0), .ref (ad 11 0), .ref (ad 12 0)])), (ad 10 0, .inr (2, [.ref ((ad 10) 1), .ref ((ad 10) 2), .long (lN (10 ^ (k - 0)))])), (ad 10 1, .inl (cJ, 5, .inr (.inl (fun i9 => lN (p1_11 i9))))), (ad 10 2, .inl (cJ, 5, .inr (.inl (fun i9 => lN (o1_11 i9))))), (ad 4 0, .inr (1, [.ref ((ad 4) 1), .ref ((ad 4) 2), .int (nI rk), .int (nI sl)])), (ad 4 1, .inl (cI, 7, .inl (fun i9 => nI (kd i9)))), (ad 4 2, .inl (cI, 175, .inl (fun i9 => nI (tn i9))))] _ := hP
  have hD : va_D A [(ad 0 0, .inr (9, [.ref (ad 1 0), .ref (ad 2 0), .ref (ad 4 0), .ref (ad 5 0), .ref (ad 6 0), .ref (ad 7 0), .ref (ad 8 0), .ref (ad 9 0), .ref (ad 10 0), .ref (ad 11 0), .ref (ad 12 0)])), (ad 10 0, .inr (2, [.ref ((ad 10) 1), .ref ((ad 10) 2), .long (lN (10 ^ (k - 0)))])), (ad 10 1, .inl (cJ, 5, .inr (.inl (fun i9 => lN (p1_11 i9))))), (ad 10 2, .inl (cJ, 5, .inr (.inl (fun i9 => lN (o1_11 i9))))), (ad 4 0, .inr (1, [.ref ((ad 4) 1), .ref ((ad 4) 2), .int (nI rk), .int (nI sl)])), (ad 4 1, .inl (cI, 7, .inl (fun i9 => nI (kd i9)))), (ad 4 2, .inl (cI, 175, .inl (fun i9 => nI (tn i9))))] := hD
  have hl : lv_has ls 5 [(4, .int (nI v)), (3, .int (nI (comN (spP tn kd 0 o k) v))), (0, .ref (ad 0 0)), (1, .int (nI k)), (2, .int (nI o))] := hl
  refine lv_iload hx hb dX9_comingOrders_19 (lv_at hl 0 rfl) ?_
  refine lv_iconst (v := nI 5) hx hb dX9_comingOrders_21 (by decide) ?_
  refine lv_icmp_ge (tgt := 53) hx hb dX9_comingOrders_22 (by decide) (fun c_22 => ?_) (fun c_22 => ?_)
  · skip
    have c_22 := n_geT c_22 (by omega) (by omega)
    refine lv_iload_n hx hb dX9_comingOrders_53 rfl (lv_at hl 1 rfl) ?_
    exact endI hx hb hr hlocks ((p1_11, o1_11)) (by rw [show v = 5 by omega]) (hP.sub [0, 4, 5, 6, 1, 2, 3] rfl) (hD.sub [0, 4, 5, 6, 1, 2, 3] (by decide) rfl) hS dX9_comingOrders_54
  · skip
    have c_22 := n_geF c_22 (by omega) (by omega)
    refine lv_aload_n hx hb dX9_comingOrders_25 rfl (lv_at hl 2 rfl) ?_
    refine va_get (D := G) (ci := 9) (v := .ref (ad 10 0)) (C := RX9) (T := TX9) (N := 11) hx hb hts hin9 hown hK.1 hP 0 rfl rfl 8 (by decide) k_0 (fun _ h9 => h9) rfl dX9_comingOrders_26 ?_
    refine va_get (D := G) (ci := 2) (v := .ref ((ad 10) 1)) (C := RX2) (T := TX2) (N := 3) hx hb hts hin2 hown hK.1 hP 1 rfl rfl 0 (by decide) k_2 (fun _ h9 => h9) rfl dX9_comingOrders_29 ?_
    have hp9 : p1_11 v = spP tn kd 0 o k v := hw_11 v (by omega)
    have hb9 := spP_b (f := 0) (n := k) hok (by omega) ho v (by omega)
    refine lv_iload hx hb dX9_comingOrders_32 (lv_at hl 0 rfl) ?_
    refine lld hx hb hK hP 2 1 rfl rfl (j := v) (by omega) (by omega) dX9_comingOrders_34 ?_
    refine lv_lconst (v := lN 0) hx hb dX9_comingOrders_35 (by decide) ?_
    refine W.lcmp hx hb dX9_comingOrders_36 ?_
    refine lv_if_le (tgt := 47) hx hb dX9_comingOrders_37 (by decide) (fun c_37 => ?_) (fun c_37 => ?_)
    · skip
      have c_37 := lc_leT c_37
      have c_37 : ¬ 0 < spP tn kd 0 o k v := fun z => by rw [hp9] at c_37; have q9 := (pk_lLE (by omega) (by omega)).mp c_37; omega
      have hl : lv_has ls 5 [(4, .int (nI v)), (3, .int (nI (comN (spP tn kd 0 o k) (v + 1)))), (0, .ref (ad 0 0)), (1, .int (nI k)), (2, .int (nI o))] := by first | exact hl | (rw [comN_n c_37]; exact hl)
      refine lv_iinc (v := nI (v + 1)) (lv' := [(4, .int (nI (v + 1))), (3, .int (nI (comN (spP tn kd 0 o k) (v + 1)))), (0, .ref (ad 0 0)), (1, .int (nI k)), (2, .int (nI o))]) hx hb dX9_comingOrders_47 hl (k := 0) rfl (nI_inc _ 1 1 (by decide)) (by decide) rfl (fun ls hl => ?_)
      refine lv_goto (tgt := 19) hx hb dX9_comingOrders_50 (by decide) ?_
      exact ih_19 (v + 1) _ _ _ (by first | omega | (simp only []; omega) | (show _ < _; omega)) ⟨by first | assumption | omega | (simp; done), hP.sub [0, 1, 2, 3, 4, 5, 6] rfl, hD.sub [0, 1, 2, 3, 4, 5, 6] (by decide) rfl, hS, lv_sub hl [0, 1, 2, 3, 4] rfl⟩
    · skip
      have c_37 := lc_leF c_37
      have c_37 : 0 < spP tn kd 0 o k v := Nat.pos_of_ne_zero (fun z => c_37 (by rw [hp9, z]; exact Int64.le_refl _))
      refine lv_iload_n hx hb dX9_comingOrders_40 rfl (lv_at hl 1 rfl) ?_
      refine lv_iconst (v := nI 1) hx hb dX9_comingOrders_41 (by decide) ?_
      refine lv_iload hx hb dX9_comingOrders_42 (lv_at hl 0 rfl) ?_
      refine lv_ishl hx hb dX9_comingOrders_44 ?_
      refine lv_ior hx hb dX9_comingOrders_45 ?_
      refine top_i (y := nI (comN (spP tn kd 0 o k) (v + 1))) (comN_y (by omega) c_37) ?_
      refine lv_istore_n (lv' := [(3, .int (nI (comN (spP tn kd 0 o k) (v + 1)))), (4, .int (nI v)), (0, .ref (ad 0 0)), (1, .int (nI k)), (2, .int (nI o))]) hx hb dX9_comingOrders_46 rfl hl (by decide) rfl (fun ls hl => ?_)
      have hl : lv_has ls 5 [(3, .int (nI (comN (spP tn kd 0 o k) (v + 1)))), (4, .int (nI v)), (0, .ref (ad 0 0)), (1, .int (nI k)), (2, .int (nI o))] := by first | exact hl | (rw [comN_n c_37]; exact hl)
      refine lv_iinc (v := nI (v + 1)) (lv' := [(4, .int (nI (v + 1))), (3, .int (nI (comN (spP tn kd 0 o k) (v + 1)))), (0, .ref (ad 0 0)), (1, .int (nI k)), (2, .int (nI o))]) hx hb dX9_comingOrders_47 hl (k := 1) rfl (nI_inc _ 1 1 (by decide)) (by decide) rfl (fun ls hl => ?_)
      refine lv_goto (tgt := 19) hx hb dX9_comingOrders_50 (by decide) ?_
      exact ih_19 (v + 1) _ _ _ (by first | omega | (simp only []; omega) | (show _ < _; omega)) ⟨by first | assumption | omega | (simp; done), hP.sub [0, 1, 2, 3, 4, 5, 6] rfl, hD.sub [0, 1, 2, 3, 4, 5, 6] (by decide) rfl, hS, lv_sub hl [0, 1, 2, 3, 4] rfl⟩

set_option maxHeartbeats 4000000 in
set_option maxRecDepth 100000 in
theorem c_X9_heard {l : Launch} {G : va_G} {cI cJ cZ cS : ClassId} (ad : Nat → Nat → Nat) (kd : Nat → Nat) (tn : Nat → Nat) (rk : Nat) (sl : Nat) (pa : Nat → Nat) (on : Nat → Nat) (wh : Nat) (r : Int32) (u : Int32) (w : Int32) (z : Int32) (hrk : rk < 8) (hok : ArmyOk kd tn) : CL l G (kT cI cJ cZ cS) (S := (Nat → Nat) × (Nat → Nat) × Nat) yX9_heard wsX9_heard { frames := 6, cells := 0, slots := 0, locals := 143 } [.ref (ad 0 0), .int r, .int u, .int w, .int z] [(ad 0 0, .inr (9, [.ref (ad 1 0), .ref (ad 2 0), .ref (ad 4 0), .ref (ad 5 0), .ref (ad 6 0), .ref (ad 7 0), .ref (ad 8 0), .ref (ad 9 0), .ref (ad 10 0), .ref (ad 11 0), .ref (ad 12 0)])), (ad 4 0, .inr (1, [.ref (ad 4 1), .ref (ad 4 2), .int (nI rk), .int (nI sl)])), (ad 4 1, .inl (cI, 7, .inl (fun i9 => nI (kd i9)))), (ad 4 2, .inl (cI, 175, .inl (fun i9 => nI (tn i9)))), (ad 10 0, .inr (2, [.ref (ad 10 1), .ref (ad 10 2), .long (lN wh)])), (ad 10 1, .inl (cJ, 5, .inr (.inl (fun i9 => lN (pa i9))))), (ad 10 2, .inl (cJ, 5, .inr (.inl (fun i9 => lN (on i9)))))] (fun res uu9 => match uu9 with | (p1, o1, w1) => An3 rk r u w (fun k9 o9 w9 => lN (ltT (spP tn kd 0 o9 k9 w9) (10 ^ k9) z)) (-1) res) (fun uu9 => match uu9 with | (p1, o1, w1) => [(ad 0 0, .inr (9, [.ref (ad 1 0), .ref (ad 2 0), .ref (ad 4 0), .ref (ad 5 0), .ref (ad 6 0), .ref (ad 7 0), .ref (ad 8 0), .ref (ad 9 0), .ref (ad 10 0), .ref (ad 11 0), .ref (ad 12 0)])), (ad 4 0, .inr (1, [.ref (ad 4 1), .ref (ad 4 2), .int (nI rk), .int (nI sl)])), (ad 4 1, .inl (cI, 7, .inl (fun i9 => nI (kd i9)))), (ad 4 2, .inl (cI, 175, .inl (fun i9 => nI (tn i9)))), (ad 10 0, .inr (2, [.ref (ad 10 1), .ref (ad 10 2), .long (lN w1)])), (ad 10 1, .inl (cJ, 5, .inr (.inl (fun i9 => lN (p1 i9))))), (ad 10 2, .inl (cJ, 5, .inr (.inl (fun i9 => lN (o1 i9)))))]) := by
  refine CL.of (cc := cX9_heard) (maxL := 5) (by decide) rfl (Nat.le_of_ble_eq_true rfl) ?_
  intro p9 e9 s m below meth co9 A ls hB
  obtain ⟨hx, hb, hml, hr, hts, hown, hlocks, hmn, hK, hP, hD, hS, hA, hl⟩ := hB
  have hP : va_P G vwCl [(ad 0 0, .inr (9, [.ref (ad 1 0), .ref (ad 2 0), .ref (ad 4 0), .ref (ad 5 0), .ref (ad 6 0), .ref (ad 7 0), .ref (ad 8 0), .ref (ad 9 0), .ref (ad 10 0), .ref (ad 11 0), .ref (ad 12 0)])), (ad 4 0, .inr (1, [.ref (ad 4 1), .ref (ad 4 2), .int (nI rk), .int (nI sl)])), (ad 4 1, .inl (cI, 7, .inl (fun i9 => nI (kd i9)))), (ad 4 2, .inl (cI, 175, .inl (fun i9 => nI (tn i9)))), (ad 10 0, .inr (2, [.ref (ad 10 1), .ref (ad 10 2), .long (lN wh)])), (ad 10 1, .inl (cJ, 5, .inr (.inl (fun i9 => lN (pa i9))))), (ad 10 2, .inl (cJ, 5, .inr (.inl (fun i9 => lN (on i9)))))] s.heap := hP
  have hD : va_D A [(ad 0 0, .inr (9, [.ref (ad 1 0), .ref (ad 2 0), .ref (ad 4 0), .ref (ad 5 0), .ref (ad 6 0), .ref (ad 7 0), .ref (ad 8 0), .ref (ad 9 0), .ref (ad 10 0), .ref (ad 11 0), .ref (ad 12 0)])), (ad 4 0, .inr (1, [.ref (ad 4 1), .ref (ad 4 2), .int (nI rk), .int (nI sl)])), (ad 4 1, .inl (cI, 7, .inl (fun i9 => nI (kd i9)))), (ad 4 2, .inl (cI, 175, .inl (fun i9 => nI (tn i9)))), (ad 10 0, .inr (2, [.ref (ad 10 1), .ref (ad 10 2), .long (lN wh)])), (ad 10 1, .inl (cJ, 5, .inr (.inl (fun i9 => lN (pa i9))))), (ad 10 2, .inl (cJ, 5, .inr (.inl (fun i9 => lN (on i9)))))] := hD
  have hl : lv_has ls 5 [(0, .ref (ad 0 0)), (1, .int r), (2, .int u), (3, .int w), (4, .int z)] := hl
  have k_0 := hts (.fieldLink RX9 26 "HearsayMarch" "army" "LHearsayMarch$Army;") (by decide +kernel)
  have k_1 := hts (.constantLong RX9 183 (-1)) (by decide +kernel)
  have k_2 := hts (.fieldLink RX9 64 "HearsayMarch" "chances" "LHearsayMarch$Chances;") (by decide +kernel)
  have k_3 := hts (.fieldLink RX9 189 "HearsayMarch$Chances" "parts" "[J") (by decide +kernel)
  have k_4 := hts (.fieldLink RX9 193 "HearsayMarch$Chances" "whole" "J") (by decide +kernel)
  have hin2 : ∀ w ∈ wsX20, w ∈ wsX9_heard := by decide +kernel
  have hin9 : ∀ w ∈ wsX90, w ∈ wsX9_heard := by decide +kernel
  refine lv_aload_n hx hb dX9_heard_0 rfl (lv_at hl 0 rfl) ?_
  refine va_get (D := G) (ci := 9) (v := .ref (ad 4 0)) (C := RX9) (T := TX9) (N := 11) hx hb hts hin9 hown hK.1 hP 0 rfl rfl 2 (by decide) k_0 (fun _ h9 => h9) rfl dX9_heard_1 ?_
  refine lv_iload_n hx hb dX9_heard_4 rfl (lv_at hl 1 rfl) ?_
  refine aft_i (wr := [(ad 0 0, .inr (9, [.ref (ad 1 0), .ref (ad 2 0), .ref (ad 4 0), .ref (ad 5 0), .ref (ad 6 0), .ref (ad 7 0), .ref (ad 8 0), .ref (ad 9 0), .ref (ad 10 0), .ref (ad 11 0), .ref (ad 12 0)])), (ad 10 0, .inr (2, [.ref (ad 10 1), .ref (ad 10 2), .long (lN wh)])), (ad 10 1, .inl (cJ, 5, .inr (.inl (fun i9 => lN (pa i9))))), (ad 10 2, .inl (cJ, 5, .inr (.inl (fun i9 => lN (on i9)))))]) (va_runV (As := [.int r]) (rest := []) ⟨hx, hb, hml, hown, hts⟩ (c_X1_has (h := (ad 4)) (kd := kd) (tn := tn) (rk := rk) (sl := sl) (r := r) (hrk := by first | assumption | omega | exact hok.1 _ (by omega) | exact hok.2.2 _ _ (by omega) (by omega) | exact hok.2.1) _) (cwV 1 hts gX9_heard_X1_has rfl rfl rfl (by decide +kernel) ⟨Nat.le_of_ble_eq_true rfl, Nat.le_of_ble_eq_true rfl⟩) (preV (cq := (RX1, TX1, 4)) (q0 := 1) (ci := 1) hK hP hD [1, 2, 3] rfl rfl rfl rfl) rfl rfl hl.1 rfl (lv_room (Nat.le_of_ble_eq_true rfl)) dX9_heard_5 ⟨Nat.le_of_ble_eq_true rfl, Nat.le_of_ble_eq_true rfl⟩) hP hD hS hA [1, 2, 3] [0, 4, 5, 6] rfl rfl rfl (by decide) (fun r_5 uu9 H locs hw hP hD hS => ?_)
  have hP : va_P G vwCl [(ad 0 0, .inr (9, [.ref (ad 1 0), .ref (ad 2 0), .ref (ad 4 0), .ref (ad 5 0), .ref (ad 6 0), .ref (ad 7 0), .ref (ad 8 0), .ref (ad 9 0), .ref (ad 10 0), .ref (ad 11 0), .ref (ad 12 0)])), (ad 10 0, .inr (2, [.ref (ad 10 1), .ref (ad 10 2), .long (lN wh)])), (ad 10 1, .inl (cJ, 5, .inr (.inl (fun i9 => lN (pa i9))))), (ad 10 2, .inl (cJ, 5, .inr (.inl (fun i9 => lN (on i9))))), (ad 4 0, .inr (1, [.ref ((ad 4) 1), .ref ((ad 4) 2), .int (nI rk), .int (nI sl)])), (ad 4 1, .inl (cI, 7, .inl (fun i9 => nI (kd i9)))), (ad 4 2, .inl (cI, 175, .inl (fun i9 => nI (tn i9))))] _ := hP
  have hD : va_D A [(ad 0 0, .inr (9, [.ref (ad 1 0), .ref (ad 2 0), .ref (ad 4 0), .ref (ad 5 0), .ref (ad 6 0), .ref (ad 7 0), .ref (ad 8 0), .ref (ad 9 0), .ref (ad 10 0), .ref (ad 11 0), .ref (ad 12 0)])), (ad 10 0, .inr (2, [.ref (ad 10 1), .ref (ad 10 2), .long (lN wh)])), (ad 10 1, .inl (cJ, 5, .inr (.inl (fun i9 => lN (pa i9))))), (ad 10 2, .inl (cJ, 5, .inr (.inl (fun i9 => lN (on i9))))), (ad 4 0, .inr (1, [.ref ((ad 4) 1), .ref ((ad 4) 2), .int (nI rk), .int (nI sl)])), (ad 4 1, .inl (cI, 7, .inl (fun i9 => nI (kd i9)))), (ad 4 2, .inl (cI, 175, .inl (fun i9 => nI (tn i9))))] := hD
  obtain rfl := hw
  refine top_i (y := bI (isR rk r)) rfl ?_
  refine lv_if_eq (tgt := 25) hx hb dX9_heard_8 (by decide) (fun c_8 => ?_) (fun c_8 => ?_)
  · skip
    have c_8 := bI_f c_8
    refine lv_ldc2 (v := (-1 : Int64)) hx hb hown k_1 dX9_heard_25 ?_
    exact endL hx hb hr hlocks ((pa, on, wh)) (An3_no (fun h => c_8 h.1)) (hP.sub [0, 4, 5, 6, 1, 2, 3] rfl) (hD.sub [0, 4, 5, 6, 1, 2, 3] (by decide) rfl) hS dX9_heard_28
  · skip
    have c_8 := bI_t c_8
    obtain ⟨k, hk, rfl⟩ := c_8
    refine lv_iload_n hx hb dX9_heard_11 rfl (lv_at hl 2 rfl) ?_
    refine aft_i (wr := [(ad 0 0, .inr (9, [.ref (ad 1 0), .ref (ad 2 0), .ref (ad 4 0), .ref (ad 5 0), .ref (ad 6 0), .ref (ad 7 0), .ref (ad 8 0), .ref (ad 9 0), .ref (ad 10 0), .ref (ad 11 0), .ref (ad 12 0)])), (ad 10 0, .inr (2, [.ref (ad 10 1), .ref (ad 10 2), .long (lN wh)])), (ad 10 1, .inl (cJ, 5, .inr (.inl (fun i9 => lN (pa i9))))), (ad 10 2, .inl (cJ, 5, .inr (.inl (fun i9 => lN (on i9))))), (ad 4 0, .inr (1, [.ref ((ad 4) 1), .ref ((ad 4) 2), .int (nI rk), .int (nI sl)])), (ad 4 1, .inl (cI, 7, .inl (fun i9 => nI (kd i9)))), (ad 4 2, .inl (cI, 175, .inl (fun i9 => nI (tn i9))))]) (va_runS (As := [.int u]) (rest := []) ⟨hx, hb, hml, hown, hts⟩ (c_X9_isOrder (r := u) _) (va_cwS 1 hts gX9_heard_X9_isOrder rfl rfl rfl (by decide +kernel) ⟨Nat.le_of_ble_eq_true rfl, Nat.le_of_ble_eq_true rfl⟩) (preS hK hP hD [] rfl rfl) rfl rfl hl.1 rfl (lv_room (Nat.le_of_ble_eq_true rfl)) dX9_heard_12 ⟨Nat.le_of_ble_eq_true rfl, Nat.le_of_ble_eq_true rfl⟩) hP hD hS hA [] [0, 1, 2, 3, 4, 5, 6] rfl rfl rfl (by decide) (fun r_12 uu9 H locs hw hP hD hS => ?_)
    have hP : va_P G vwCl [(ad 0 0, .inr (9, [.ref (ad 1 0), .ref (ad 2 0), .ref (ad 4 0), .ref (ad 5 0), .ref (ad 6 0), .ref (ad 7 0), .ref (ad 8 0), .ref (ad 9 0), .ref (ad 10 0), .ref (ad 11 0), .ref (ad 12 0)])), (ad 10 0, .inr (2, [.ref (ad 10 1), .ref (ad 10 2), .long (lN wh)])), (ad 10 1, .inl (cJ, 5, .inr (.inl (fun i9 => lN (pa i9))))), (ad 10 2, .inl (cJ, 5, .inr (.inl (fun i9 => lN (on i9))))), (ad 4 0, .inr (1, [.ref ((ad 4) 1), .ref ((ad 4) 2), .int (nI rk), .int (nI sl)])), (ad 4 1, .inl (cI, 7, .inl (fun i9 => nI (kd i9)))), (ad 4 2, .inl (cI, 175, .inl (fun i9 => nI (tn i9))))] _ := hP
    have hD : va_D A [(ad 0 0, .inr (9, [.ref (ad 1 0), .ref (ad 2 0), .ref (ad 4 0), .ref (ad 5 0), .ref (ad 6 0), .ref (ad 7 0), .ref (ad 8 0), .ref (ad 9 0), .ref (ad 10 0), .ref (ad 11 0), .ref (ad 12 0)])), (ad 10 0, .inr (2, [.ref (ad 10 1), .ref (ad 10 2), .long (lN wh)])), (ad 10 1, .inl (cJ, 5, .inr (.inl (fun i9 => lN (pa i9))))), (ad 10 2, .inl (cJ, 5, .inr (.inl (fun i9 => lN (on i9))))), (ad 4 0, .inr (1, [.ref ((ad 4) 1), .ref ((ad 4) 2), .int (nI rk), .int (nI sl)])), (ad 4 1, .inl (cI, 7, .inl (fun i9 => nI (kd i9)))), (ad 4 2, .inl (cI, 175, .inl (fun i9 => nI (tn i9))))] := hD
    obtain rfl := hw
    refine top_i (y := bI (isR 5 u)) rfl ?_
    refine lv_if_eq (tgt := 25) hx hb dX9_heard_15 (by decide) (fun c_15 => ?_) (fun c_15 => ?_)
    · skip
      have c_15 := bI_f c_15
      refine lv_ldc2 (v := (-1 : Int64)) hx hb hown k_1 dX9_heard_25 ?_
      exact endL hx hb hr hlocks ((pa, on, wh)) (An3_no (fun h => c_15 h.2.1)) (hP.sub [0, 4, 5, 6, 1, 2, 3] rfl) (hD.sub [0, 4, 5, 6, 1, 2, 3] (by decide) rfl) hS dX9_heard_28
    · skip
      have c_15 := bI_t c_15
      obtain ⟨o, ho, rfl⟩ := c_15
      refine lv_iload_n hx hb dX9_heard_18 rfl (lv_at hl 3 rfl) ?_
      refine aft_i (wr := [(ad 0 0, .inr (9, [.ref (ad 1 0), .ref (ad 2 0), .ref (ad 4 0), .ref (ad 5 0), .ref (ad 6 0), .ref (ad 7 0), .ref (ad 8 0), .ref (ad 9 0), .ref (ad 10 0), .ref (ad 11 0), .ref (ad 12 0)])), (ad 10 0, .inr (2, [.ref (ad 10 1), .ref (ad 10 2), .long (lN wh)])), (ad 10 1, .inl (cJ, 5, .inr (.inl (fun i9 => lN (pa i9))))), (ad 10 2, .inl (cJ, 5, .inr (.inl (fun i9 => lN (on i9))))), (ad 4 0, .inr (1, [.ref ((ad 4) 1), .ref ((ad 4) 2), .int (nI rk), .int (nI sl)])), (ad 4 1, .inl (cI, 7, .inl (fun i9 => nI (kd i9)))), (ad 4 2, .inl (cI, 175, .inl (fun i9 => nI (tn i9))))]) (va_runS (As := [.int w]) (rest := []) ⟨hx, hb, hml, hown, hts⟩ (c_X9_isOrder (r := w) _) (va_cwS 1 hts gX9_heard_X9_isOrder rfl rfl rfl (by decide +kernel) ⟨Nat.le_of_ble_eq_true rfl, Nat.le_of_ble_eq_true rfl⟩) (preS hK hP hD [] rfl rfl) rfl rfl hl.1 rfl (lv_room (Nat.le_of_ble_eq_true rfl)) dX9_heard_19 ⟨Nat.le_of_ble_eq_true rfl, Nat.le_of_ble_eq_true rfl⟩) hP hD hS hA [] [0, 1, 2, 3, 4, 5, 6] rfl rfl rfl (by decide) (fun r_19 uu9 H locs hw hP hD hS => ?_)
      have hP : va_P G vwCl [(ad 0 0, .inr (9, [.ref (ad 1 0), .ref (ad 2 0), .ref (ad 4 0), .ref (ad 5 0), .ref (ad 6 0), .ref (ad 7 0), .ref (ad 8 0), .ref (ad 9 0), .ref (ad 10 0), .ref (ad 11 0), .ref (ad 12 0)])), (ad 10 0, .inr (2, [.ref (ad 10 1), .ref (ad 10 2), .long (lN wh)])), (ad 10 1, .inl (cJ, 5, .inr (.inl (fun i9 => lN (pa i9))))), (ad 10 2, .inl (cJ, 5, .inr (.inl (fun i9 => lN (on i9))))), (ad 4 0, .inr (1, [.ref ((ad 4) 1), .ref ((ad 4) 2), .int (nI rk), .int (nI sl)])), (ad 4 1, .inl (cI, 7, .inl (fun i9 => nI (kd i9)))), (ad 4 2, .inl (cI, 175, .inl (fun i9 => nI (tn i9))))] _ := hP
      have hD : va_D A [(ad 0 0, .inr (9, [.ref (ad 1 0), .ref (ad 2 0), .ref (ad 4 0), .ref (ad 5 0), .ref (ad 6 0), .ref (ad 7 0), .ref (ad 8 0), .ref (ad 9 0), .ref (ad 10 0), .ref (ad 11 0), .ref (ad 12 0)])), (ad 10 0, .inr (2, [.ref (ad 10 1), .ref (ad 10 2), .long (lN wh)])), (ad 10 1, .inl (cJ, 5, .inr (.inl (fun i9 => lN (pa i9))))), (ad 10 2, .inl (cJ, 5, .inr (.inl (fun i9 => lN (on i9))))), (ad 4 0, .inr (1, [.ref ((ad 4) 1), .ref ((ad 4) 2), .int (nI rk), .int (nI sl)])), (ad 4 1, .inl (cI, 7, .inl (fun i9 => nI (kd i9)))), (ad 4 2, .inl (cI, 175, .inl (fun i9 => nI (tn i9))))] := hD
      obtain rfl := hw
      refine top_i (y := bI (isR 5 w)) rfl ?_
      refine lv_if_ne (tgt := 29) hx hb dX9_heard_22 (by decide) (fun c_22 => ?_) (fun c_22 => ?_)
      · skip
        have c_22 := bI_t c_22
        obtain ⟨x, hx9, rfl⟩ := c_22
        refine lv_aload_n hx hb dX9_heard_29 rfl (lv_at hl 0 rfl) ?_
        refine va_get (D := G) (ci := 9) (v := .ref (ad 10 0)) (C := RX9) (T := TX9) (N := 11) hx hb hts hin9 hown hK.1 hP 0 rfl rfl 8 (by decide) k_2 (fun _ h9 => h9) rfl dX9_heard_30 ?_
        refine lv_aload_n hx hb dX9_heard_33 rfl (lv_at hl 0 rfl) ?_
        refine va_get (D := G) (ci := 9) (v := .ref (ad 4 0)) (C := RX9) (T := TX9) (N := 11) hx hb hts hin9 hown hK.1 hP 0 rfl rfl 2 (by decide) k_0 (fun _ h9 => h9) rfl dX9_heard_34 ?_
        refine lv_iconst (v := nI 0) hx hb dX9_heard_37 (by decide) ?_
        refine lv_iload_n hx hb dX9_heard_38 rfl (lv_at hl 1 rfl) ?_
        refine lv_iload_n hx hb dX9_heard_39 rfl (lv_at hl 2 rfl) ?_
        refine aft_v (wr := [(ad 0 0, .inr (9, [.ref (ad 1 0), .ref (ad 2 0), .ref (ad 4 0), .ref (ad 5 0), .ref (ad 6 0), .ref (ad 7 0), .ref (ad 8 0), .ref (ad 9 0), .ref (ad 10 0), .ref (ad 11 0), .ref (ad 12 0)]))]) (va_runV (As := [.ref (ad 4 0), .int (nI 0), .int (nI k), .int (nI o)]) (rest := []) ⟨hx, hb, hml, hown, hts⟩ (c_X2_spread (g := (ad 10)) (pa := pa) (on := on) (wh := wh) (h := (ad 4)) (kd := kd) (tn := tn) (rk := rk) (sl := sl) (f := 0) (t := k) (o := o) (hok := by first | assumption | omega | exact hok.1 _ (by omega) | exact hok.2.2 _ _ (by omega) (by omega) | exact hok.2.1) (hf := by first | assumption | omega | exact hok.1 _ (by omega) | exact hok.2.2 _ _ (by omega) (by omega) | exact hok.2.1) (ht := by first | assumption | omega | exact hok.1 _ (by omega) | exact hok.2.2 _ _ (by omega) (by omega) | exact hok.2.1) (ho := by first | assumption | omega | exact hok.1 _ (by omega) | exact hok.2.2 _ _ (by omega) (by omega) | exact hok.2.1) _) (cwV 4 hts gX9_heard_X2_spread rfl rfl rfl (by decide +kernel) ⟨Nat.le_of_ble_eq_true rfl, Nat.le_of_ble_eq_true rfl⟩) (preV (cq := (RX2, TX2, 3)) (q0 := 1) (ci := 2) hK hP hD [1, 2, 3, 4, 5, 6] rfl rfl rfl rfl) rfl rfl hl.1 rfl (lv_room (Nat.le_of_ble_eq_true rfl)) dX9_heard_40 ⟨Nat.le_of_ble_eq_true rfl, Nat.le_of_ble_eq_true rfl⟩) hP hD hS hA [1, 2, 3, 4, 5, 6] [0] rfl rfl rfl (by decide) (fun uu9 H locs hw hP hD hS => ?_)
        obtain ⟨p1_40, o1_40⟩ := uu9
        have hP : va_P G vwCl [(ad 0 0, .inr (9, [.ref (ad 1 0), .ref (ad 2 0), .ref (ad 4 0), .ref (ad 5 0), .ref (ad 6 0), .ref (ad 7 0), .ref (ad 8 0), .ref (ad 9 0), .ref (ad 10 0), .ref (ad 11 0), .ref (ad 12 0)])), (ad 10 0, .inr (2, [.ref ((ad 10) 1), .ref ((ad 10) 2), .long (lN (10 ^ (k - 0)))])), (ad 10 1, .inl (cJ, 5, .inr (.inl (fun i9 => lN (p1_40 i9))))), (ad 10 2, .inl (cJ, 5, .inr (.inl (fun i9 => lN (o1_40 i9))))), (ad 4 0, .inr (1, [.ref ((ad 4) 1), .ref ((ad 4) 2), .int (nI rk), .int (nI sl)])), (ad 4 1, .inl (cI, 7, .inl (fun i9 => nI (kd i9)))), (ad 4 2, .inl (cI, 175, .inl (fun i9 => nI (tn i9))))] _ := hP
        have hD : va_D A [(ad 0 0, .inr (9, [.ref (ad 1 0), .ref (ad 2 0), .ref (ad 4 0), .ref (ad 5 0), .ref (ad 6 0), .ref (ad 7 0), .ref (ad 8 0), .ref (ad 9 0), .ref (ad 10 0), .ref (ad 11 0), .ref (ad 12 0)])), (ad 10 0, .inr (2, [.ref ((ad 10) 1), .ref ((ad 10) 2), .long (lN (10 ^ (k - 0)))])), (ad 10 1, .inl (cJ, 5, .inr (.inl (fun i9 => lN (p1_40 i9))))), (ad 10 2, .inl (cJ, 5, .inr (.inl (fun i9 => lN (o1_40 i9))))), (ad 4 0, .inr (1, [.ref ((ad 4) 1), .ref ((ad 4) 2), .int (nI rk), .int (nI sl)])), (ad 4 1, .inl (cI, 7, .inl (fun i9 => nI (kd i9)))), (ad 4 2, .inl (cI, 175, .inl (fun i9 => nI (tn i9))))] := hD
        have hw_40 : ∀ w, w < 5 → p1_40 w = spP tn kd 0 o (k - 0) w := hw
        refine lv_aload_n hx hb dX9_heard_43 rfl (lv_at hl 0 rfl) ?_
        refine va_get (D := G) (ci := 9) (v := .ref (ad 10 0)) (C := RX9) (T := TX9) (N := 11) hx hb hts hin9 hown hK.1 hP 0 rfl rfl 8 (by decide) k_2 (fun _ h9 => h9) rfl dX9_heard_44 ?_
        refine va_get (D := G) (ci := 2) (v := .ref ((ad 10) 1)) (C := RX2) (T := TX2) (N := 3) hx hb hts hin2 hown hK.1 hP 1 rfl rfl 0 (by decide) k_3 (fun _ h9 => h9) rfl dX9_heard_47 ?_
        refine lv_iload_n hx hb dX9_heard_50 rfl (lv_at hl 3 rfl) ?_
        refine lld hx hb hK hP 2 1 rfl rfl (j := x) (by omega) (by omega) dX9_heard_51 ?_
        refine top_l (y := lN (spP tn kd 0 o k x)) (congrArg lN (hw_40 x hx9)) ?_
        have hb9 := spP_b (f := 0) (n := k) hok (by omega) ho x hx9
        have hp9 := pow_b (n := k) (by omega)
        refine lv_aload_n hx hb dX9_heard_52 rfl (lv_at hl 0 rfl) ?_
        refine va_get (D := G) (ci := 9) (v := .ref (ad 10 0)) (C := RX9) (T := TX9) (N := 11) hx hb hts hin9 hown hK.1 hP 0 rfl rfl 8 (by decide) k_2 (fun _ h9 => h9) rfl dX9_heard_53 ?_
        refine va_get (D := G) (ci := 2) (v := .long (lN (10 ^ (k - 0)))) (C := RX2) (T := TX2) (N := 3) hx hb hts hin2 hown hK.1 hP 1 rfl rfl 2 (by decide) k_4 (fun _ h9 => h9) rfl dX9_heard_56 ?_
        refine top_l (y := lN (10 ^ k)) (rfl) ?_
        refine lv_iload hx hb dX9_heard_59 (lv_at hl 4 rfl) ?_
        refine aft_l (wr := [(ad 0 0, .inr (9, [.ref (ad 1 0), .ref (ad 2 0), .ref (ad 4 0), .ref (ad 5 0), .ref (ad 6 0), .ref (ad 7 0), .ref (ad 8 0), .ref (ad 9 0), .ref (ad 10 0), .ref (ad 11 0), .ref (ad 12 0)])), (ad 10 0, .inr (2, [.ref ((ad 10) 1), .ref ((ad 10) 2), .long (lN (10 ^ (k - 0)))])), (ad 10 1, .inl (cJ, 5, .inr (.inl (fun i9 => lN (p1_40 i9))))), (ad 10 2, .inl (cJ, 5, .inr (.inl (fun i9 => lN (o1_40 i9))))), (ad 4 0, .inr (1, [.ref ((ad 4) 1), .ref ((ad 4) 2), .int (nI rk), .int (nI sl)])), (ad 4 1, .inl (cI, 7, .inl (fun i9 => nI (kd i9)))), (ad 4 2, .inl (cI, 175, .inl (fun i9 => nI (tn i9))))]) (va_runS (As := [.long (lN (spP tn kd 0 o k x)), .long (lN (10 ^ k)), .int z]) (rest := []) ⟨hx, hb, hml, hown, hts⟩ (c_X9_inLeastTerms (x := spP tn kd 0 o k x) (y := 10 ^ k) (z := z) (hx9 := by omega) (hy9 := by omega) (hy0 := hp9.1) _) (va_cwS 3 hts gX9_heard_X9_inLeastTerms rfl rfl rfl (by decide +kernel) ⟨Nat.le_of_ble_eq_true rfl, Nat.le_of_ble_eq_true rfl⟩) (preS hK hP hD [] rfl rfl) rfl rfl hl.1 rfl (lv_room (Nat.le_of_ble_eq_true rfl)) dX9_heard_61 ⟨Nat.le_of_ble_eq_true rfl, Nat.le_of_ble_eq_true rfl⟩) hP hD hS hA [] [0, 1, 2, 3, 4, 5, 6] rfl rfl rfl (by decide) (fun r_61 uu9 H locs hw hP hD hS => ?_)
        have hP : va_P G vwCl [(ad 0 0, .inr (9, [.ref (ad 1 0), .ref (ad 2 0), .ref (ad 4 0), .ref (ad 5 0), .ref (ad 6 0), .ref (ad 7 0), .ref (ad 8 0), .ref (ad 9 0), .ref (ad 10 0), .ref (ad 11 0), .ref (ad 12 0)])), (ad 10 0, .inr (2, [.ref ((ad 10) 1), .ref ((ad 10) 2), .long (lN (10 ^ (k - 0)))])), (ad 10 1, .inl (cJ, 5, .inr (.inl (fun i9 => lN (p1_40 i9))))), (ad 10 2, .inl (cJ, 5, .inr (.inl (fun i9 => lN (o1_40 i9))))), (ad 4 0, .inr (1, [.ref ((ad 4) 1), .ref ((ad 4) 2), .int (nI rk), .int (nI sl)])), (ad 4 1, .inl (cI, 7, .inl (fun i9 => nI (kd i9)))), (ad 4 2, .inl (cI, 175, .inl (fun i9 => nI (tn i9))))] _ := hP
        have hD : va_D A [(ad 0 0, .inr (9, [.ref (ad 1 0), .ref (ad 2 0), .ref (ad 4 0), .ref (ad 5 0), .ref (ad 6 0), .ref (ad 7 0), .ref (ad 8 0), .ref (ad 9 0), .ref (ad 10 0), .ref (ad 11 0), .ref (ad 12 0)])), (ad 10 0, .inr (2, [.ref ((ad 10) 1), .ref ((ad 10) 2), .long (lN (10 ^ (k - 0)))])), (ad 10 1, .inl (cJ, 5, .inr (.inl (fun i9 => lN (p1_40 i9))))), (ad 10 2, .inl (cJ, 5, .inr (.inl (fun i9 => lN (o1_40 i9))))), (ad 4 0, .inr (1, [.ref ((ad 4) 1), .ref ((ad 4) 2), .int (nI rk), .int (nI sl)])), (ad 4 1, .inl (cI, 7, .inl (fun i9 => nI (kd i9)))), (ad 4 2, .inl (cI, 175, .inl (fun i9 => nI (tn i9))))] := hD
        obtain rfl := hw
        refine top_l (y := lN (ltT (spP tn kd 0 o k x) (10 ^ k) z)) rfl ?_
        exact endL hx hb hr hlocks ((p1_40, o1_40, 10 ^ k)) (An3_ok (by omega) hk ho hx9 rfl) (hP.sub [0, 4, 5, 6, 1, 2, 3] rfl) (hD.sub [0, 4, 5, 6, 1, 2, 3] (by decide) rfl) hS dX9_heard_64
      · skip
        have c_22 := bI_f c_22
        refine lv_ldc2 (v := (-1 : Int64)) hx hb hown k_1 dX9_heard_25 ?_
        exact endL hx hb hr hlocks ((pa, on, wh)) (An3_no (fun h => c_22 h.2.2)) (hP.sub [0, 4, 5, 6, 1, 2, 3] rfl) (hD.sub [0, 4, 5, 6, 1, 2, 3] (by decide) rfl) hS dX9_heard_28

set_option maxHeartbeats 4000000 in
set_option maxRecDepth 100000 in
theorem c_X9_comes {l : Launch} {G : va_G} {cI cJ cZ cS : ClassId} (ad : Nat → Nat → Nat) (kd : Nat → Nat) (tn : Nat → Nat) (rk : Nat) (sl : Nat) (pa : Nat → Nat) (on : Nat → Nat) (wh : Nat) (r : Int32) (u : Int32) (hrk : rk < 8) (hok : ArmyOk kd tn) : CI l G (kT cI cJ cZ cS) (S := (Nat → Nat) × (Nat → Nat) × Nat) yX9_comes wsX9_comes { frames := 7, cells := 0, slots := 0, locals := 167 } [.ref (ad 0 0), .int r, .int u] [(ad 0 0, .inr (9, [.ref (ad 1 0), .ref (ad 2 0), .ref (ad 4 0), .ref (ad 5 0), .ref (ad 6 0), .ref (ad 7 0), .ref (ad 8 0), .ref (ad 9 0), .ref (ad 10 0), .ref (ad 11 0), .ref (ad 12 0)])), (ad 4 0, .inr (1, [.ref (ad 4 1), .ref (ad 4 2), .int (nI rk), .int (nI sl)])), (ad 4 1, .inl (cI, 7, .inl (fun i9 => nI (kd i9)))), (ad 4 2, .inl (cI, 175, .inl (fun i9 => nI (tn i9)))), (ad 10 0, .inr (2, [.ref (ad 10 1), .ref (ad 10 2), .long (lN wh)])), (ad 10 1, .inl (cJ, 5, .inr (.inl (fun i9 => lN (pa i9))))), (ad 10 2, .inl (cJ, 5, .inr (.inl (fun i9 => lN (on i9)))))] (fun res uu9 => match uu9 with | (p1, o1, w1) => An2 rk r u (fun k9 o9 => nI (comN (spP tn kd 0 o9 k9) 5)) (-1) res) (fun uu9 => match uu9 with | (p1, o1, w1) => [(ad 0 0, .inr (9, [.ref (ad 1 0), .ref (ad 2 0), .ref (ad 4 0), .ref (ad 5 0), .ref (ad 6 0), .ref (ad 7 0), .ref (ad 8 0), .ref (ad 9 0), .ref (ad 10 0), .ref (ad 11 0), .ref (ad 12 0)])), (ad 4 0, .inr (1, [.ref (ad 4 1), .ref (ad 4 2), .int (nI rk), .int (nI sl)])), (ad 4 1, .inl (cI, 7, .inl (fun i9 => nI (kd i9)))), (ad 4 2, .inl (cI, 175, .inl (fun i9 => nI (tn i9)))), (ad 10 0, .inr (2, [.ref (ad 10 1), .ref (ad 10 2), .long (lN w1)])), (ad 10 1, .inl (cJ, 5, .inr (.inl (fun i9 => lN (p1 i9))))), (ad 10 2, .inl (cJ, 5, .inr (.inl (fun i9 => lN (o1 i9)))))]) := by
  refine CI.of (cc := cX9_comes) (maxL := 3) (by decide) rfl (Nat.le_of_ble_eq_true rfl) ?_
  intro p9 e9 s m below meth co9 A ls hB
  obtain ⟨hx, hb, hml, hr, hts, hown, hlocks, hmn, hK, hP, hD, hS, hA, hl⟩ := hB
  have hP : va_P G vwCl [(ad 0 0, .inr (9, [.ref (ad 1 0), .ref (ad 2 0), .ref (ad 4 0), .ref (ad 5 0), .ref (ad 6 0), .ref (ad 7 0), .ref (ad 8 0), .ref (ad 9 0), .ref (ad 10 0), .ref (ad 11 0), .ref (ad 12 0)])), (ad 4 0, .inr (1, [.ref (ad 4 1), .ref (ad 4 2), .int (nI rk), .int (nI sl)])), (ad 4 1, .inl (cI, 7, .inl (fun i9 => nI (kd i9)))), (ad 4 2, .inl (cI, 175, .inl (fun i9 => nI (tn i9)))), (ad 10 0, .inr (2, [.ref (ad 10 1), .ref (ad 10 2), .long (lN wh)])), (ad 10 1, .inl (cJ, 5, .inr (.inl (fun i9 => lN (pa i9))))), (ad 10 2, .inl (cJ, 5, .inr (.inl (fun i9 => lN (on i9)))))] s.heap := hP
  have hD : va_D A [(ad 0 0, .inr (9, [.ref (ad 1 0), .ref (ad 2 0), .ref (ad 4 0), .ref (ad 5 0), .ref (ad 6 0), .ref (ad 7 0), .ref (ad 8 0), .ref (ad 9 0), .ref (ad 10 0), .ref (ad 11 0), .ref (ad 12 0)])), (ad 4 0, .inr (1, [.ref (ad 4 1), .ref (ad 4 2), .int (nI rk), .int (nI sl)])), (ad 4 1, .inl (cI, 7, .inl (fun i9 => nI (kd i9)))), (ad 4 2, .inl (cI, 175, .inl (fun i9 => nI (tn i9)))), (ad 10 0, .inr (2, [.ref (ad 10 1), .ref (ad 10 2), .long (lN wh)])), (ad 10 1, .inl (cJ, 5, .inr (.inl (fun i9 => lN (pa i9))))), (ad 10 2, .inl (cJ, 5, .inr (.inl (fun i9 => lN (on i9)))))] := hD
  have hl : lv_has ls 3 [(0, .ref (ad 0 0)), (1, .int r), (2, .int u)] := hl
  have k_0 := hts (.fieldLink RX9 26 "HearsayMarch" "army" "LHearsayMarch$Army;") (by decide +kernel)
  have hin9 : ∀ w ∈ wsX90, w ∈ wsX9_comes := by decide +kernel
  refine lv_aload_n hx hb dX9_comes_0 rfl (lv_at hl 0 rfl) ?_
  refine va_get (D := G) (ci := 9) (v := .ref (ad 4 0)) (C := RX9) (T := TX9) (N := 11) hx hb hts hin9 hown hK.1 hP 0 rfl rfl 2 (by decide) k_0 (fun _ h9 => h9) rfl dX9_comes_1 ?_
  refine lv_iload_n hx hb dX9_comes_4 rfl (lv_at hl 1 rfl) ?_
  refine aft_i (wr := [(ad 0 0, .inr (9, [.ref (ad 1 0), .ref (ad 2 0), .ref (ad 4 0), .ref (ad 5 0), .ref (ad 6 0), .ref (ad 7 0), .ref (ad 8 0), .ref (ad 9 0), .ref (ad 10 0), .ref (ad 11 0), .ref (ad 12 0)])), (ad 10 0, .inr (2, [.ref (ad 10 1), .ref (ad 10 2), .long (lN wh)])), (ad 10 1, .inl (cJ, 5, .inr (.inl (fun i9 => lN (pa i9))))), (ad 10 2, .inl (cJ, 5, .inr (.inl (fun i9 => lN (on i9)))))]) (va_runV (As := [.int r]) (rest := []) ⟨hx, hb, hml, hown, hts⟩ (c_X1_has (h := (ad 4)) (kd := kd) (tn := tn) (rk := rk) (sl := sl) (r := r) (hrk := by first | assumption | omega | exact hok.1 _ (by omega) | exact hok.2.2 _ _ (by omega) (by omega) | exact hok.2.1) _) (cwV 1 hts gX9_comes_X1_has rfl rfl rfl (by decide +kernel) ⟨Nat.le_of_ble_eq_true rfl, Nat.le_of_ble_eq_true rfl⟩) (preV (cq := (RX1, TX1, 4)) (q0 := 1) (ci := 1) hK hP hD [1, 2, 3] rfl rfl rfl rfl) rfl rfl hl.1 rfl (lv_room (Nat.le_of_ble_eq_true rfl)) dX9_comes_5 ⟨Nat.le_of_ble_eq_true rfl, Nat.le_of_ble_eq_true rfl⟩) hP hD hS hA [1, 2, 3] [0, 4, 5, 6] rfl rfl rfl (by decide) (fun r_5 uu9 H locs hw hP hD hS => ?_)
  have hP : va_P G vwCl [(ad 0 0, .inr (9, [.ref (ad 1 0), .ref (ad 2 0), .ref (ad 4 0), .ref (ad 5 0), .ref (ad 6 0), .ref (ad 7 0), .ref (ad 8 0), .ref (ad 9 0), .ref (ad 10 0), .ref (ad 11 0), .ref (ad 12 0)])), (ad 10 0, .inr (2, [.ref (ad 10 1), .ref (ad 10 2), .long (lN wh)])), (ad 10 1, .inl (cJ, 5, .inr (.inl (fun i9 => lN (pa i9))))), (ad 10 2, .inl (cJ, 5, .inr (.inl (fun i9 => lN (on i9))))), (ad 4 0, .inr (1, [.ref ((ad 4) 1), .ref ((ad 4) 2), .int (nI rk), .int (nI sl)])), (ad 4 1, .inl (cI, 7, .inl (fun i9 => nI (kd i9)))), (ad 4 2, .inl (cI, 175, .inl (fun i9 => nI (tn i9))))] _ := hP
  have hD : va_D A [(ad 0 0, .inr (9, [.ref (ad 1 0), .ref (ad 2 0), .ref (ad 4 0), .ref (ad 5 0), .ref (ad 6 0), .ref (ad 7 0), .ref (ad 8 0), .ref (ad 9 0), .ref (ad 10 0), .ref (ad 11 0), .ref (ad 12 0)])), (ad 10 0, .inr (2, [.ref (ad 10 1), .ref (ad 10 2), .long (lN wh)])), (ad 10 1, .inl (cJ, 5, .inr (.inl (fun i9 => lN (pa i9))))), (ad 10 2, .inl (cJ, 5, .inr (.inl (fun i9 => lN (on i9))))), (ad 4 0, .inr (1, [.ref ((ad 4) 1), .ref ((ad 4) 2), .int (nI rk), .int (nI sl)])), (ad 4 1, .inl (cI, 7, .inl (fun i9 => nI (kd i9)))), (ad 4 2, .inl (cI, 175, .inl (fun i9 => nI (tn i9))))] := hD
  obtain rfl := hw
  refine top_i (y := bI (isR rk r)) rfl ?_
  refine lv_if_eq (tgt := 18) hx hb dX9_comes_8 (by decide) (fun c_8 => ?_) (fun c_8 => ?_)
  · skip
    have c_8 := bI_f c_8
    refine lv_iconst (v := (-1)) hx hb dX9_comes_18 (by decide) ?_
    exact endI hx hb hr hlocks ((pa, on, wh)) (An2_no (fun h => c_8 h.1)) (hP.sub [0, 4, 5, 6, 1, 2, 3] rfl) (hD.sub [0, 4, 5, 6, 1, 2, 3] (by decide) rfl) hS dX9_comes_19
  · skip
    have c_8 := bI_t c_8
    obtain ⟨k, hk, rfl⟩ := c_8
    refine lv_iload_n hx hb dX9_comes_11 rfl (lv_at hl 2 rfl) ?_
    refine aft_i (wr := [(ad 0 0, .inr (9, [.ref (ad 1 0), .ref (ad 2 0), .ref (ad 4 0), .ref (ad 5 0), .ref (ad 6 0), .ref (ad 7 0), .ref (ad 8 0), .ref (ad 9 0), .ref (ad 10 0), .ref (ad 11 0), .ref (ad 12 0)])), (ad 10 0, .inr (2, [.ref (ad 10 1), .ref (ad 10 2), .long (lN wh)])), (ad 10 1, .inl (cJ, 5, .inr (.inl (fun i9 => lN (pa i9))))), (ad 10 2, .inl (cJ, 5, .inr (.inl (fun i9 => lN (on i9))))), (ad 4 0, .inr (1, [.ref ((ad 4) 1), .ref ((ad 4) 2), .int (nI rk), .int (nI sl)])), (ad 4 1, .inl (cI, 7, .inl (fun i9 => nI (kd i9)))), (ad 4 2, .inl (cI, 175, .inl (fun i9 => nI (tn i9))))]) (va_runS (As := [.int u]) (rest := []) ⟨hx, hb, hml, hown, hts⟩ (c_X9_isOrder (r := u) _) (va_cwS 1 hts gX9_comes_X9_isOrder rfl rfl rfl (by decide +kernel) ⟨Nat.le_of_ble_eq_true rfl, Nat.le_of_ble_eq_true rfl⟩) (preS hK hP hD [] rfl rfl) rfl rfl hl.1 rfl (lv_room (Nat.le_of_ble_eq_true rfl)) dX9_comes_12 ⟨Nat.le_of_ble_eq_true rfl, Nat.le_of_ble_eq_true rfl⟩) hP hD hS hA [] [0, 1, 2, 3, 4, 5, 6] rfl rfl rfl (by decide) (fun r_12 uu9 H locs hw hP hD hS => ?_)
    have hP : va_P G vwCl [(ad 0 0, .inr (9, [.ref (ad 1 0), .ref (ad 2 0), .ref (ad 4 0), .ref (ad 5 0), .ref (ad 6 0), .ref (ad 7 0), .ref (ad 8 0), .ref (ad 9 0), .ref (ad 10 0), .ref (ad 11 0), .ref (ad 12 0)])), (ad 10 0, .inr (2, [.ref (ad 10 1), .ref (ad 10 2), .long (lN wh)])), (ad 10 1, .inl (cJ, 5, .inr (.inl (fun i9 => lN (pa i9))))), (ad 10 2, .inl (cJ, 5, .inr (.inl (fun i9 => lN (on i9))))), (ad 4 0, .inr (1, [.ref ((ad 4) 1), .ref ((ad 4) 2), .int (nI rk), .int (nI sl)])), (ad 4 1, .inl (cI, 7, .inl (fun i9 => nI (kd i9)))), (ad 4 2, .inl (cI, 175, .inl (fun i9 => nI (tn i9))))] _ := hP
    have hD : va_D A [(ad 0 0, .inr (9, [.ref (ad 1 0), .ref (ad 2 0), .ref (ad 4 0), .ref (ad 5 0), .ref (ad 6 0), .ref (ad 7 0), .ref (ad 8 0), .ref (ad 9 0), .ref (ad 10 0), .ref (ad 11 0), .ref (ad 12 0)])), (ad 10 0, .inr (2, [.ref (ad 10 1), .ref (ad 10 2), .long (lN wh)])), (ad 10 1, .inl (cJ, 5, .inr (.inl (fun i9 => lN (pa i9))))), (ad 10 2, .inl (cJ, 5, .inr (.inl (fun i9 => lN (on i9))))), (ad 4 0, .inr (1, [.ref ((ad 4) 1), .ref ((ad 4) 2), .int (nI rk), .int (nI sl)])), (ad 4 1, .inl (cI, 7, .inl (fun i9 => nI (kd i9)))), (ad 4 2, .inl (cI, 175, .inl (fun i9 => nI (tn i9))))] := hD
    obtain rfl := hw
    refine top_i (y := bI (isR 5 u)) rfl ?_
    refine lv_if_ne (tgt := 20) hx hb dX9_comes_15 (by decide) (fun c_15 => ?_) (fun c_15 => ?_)
    · skip
      have c_15 := bI_t c_15
      obtain ⟨o, ho, rfl⟩ := c_15
      refine lv_aload_n hx hb dX9_comes_20 rfl (lv_at hl 0 rfl) ?_
      refine lv_iload_n hx hb dX9_comes_21 rfl (lv_at hl 1 rfl) ?_
      refine lv_iload_n hx hb dX9_comes_22 rfl (lv_at hl 2 rfl) ?_
      refine aft_i (wr := []) (va_runV (As := [.int (nI k), .int (nI o)]) (rest := []) ⟨hx, hb, hml, hown, hts⟩ (c_X9_comingOrders (ad := ad) (kd := kd) (tn := tn) (rk := rk) (sl := sl) (pa := pa) (on := on) (wh := wh) (k := k) (o := o) (hok := by first | assumption | omega | exact hok.1 _ (by omega) | exact hok.2.2 _ _ (by omega) (by omega) | exact hok.2.1) (hk := by first | assumption | omega | exact hok.1 _ (by omega) | exact hok.2.2 _ _ (by omega) (by omega) | exact hok.2.1) (ho := by first | assumption | omega | exact hok.1 _ (by omega) | exact hok.2.2 _ _ (by omega) (by omega) | exact hok.2.1) _) (cwV 2 hts gX9_comes_X9_comingOrders rfl rfl rfl (by decide +kernel) ⟨Nat.le_of_ble_eq_true rfl, Nat.le_of_ble_eq_true rfl⟩) (preV (cq := (RX9, TX9, 11)) (q0 := 0) (ci := 9) hK hP hD [0, 4, 5, 6, 1, 2, 3] rfl rfl rfl rfl) rfl rfl hl.1 rfl (lv_room (Nat.le_of_ble_eq_true rfl)) dX9_comes_23 ⟨Nat.le_of_ble_eq_true rfl, Nat.le_of_ble_eq_true rfl⟩) hP hD hS hA [0, 4, 5, 6, 1, 2, 3] [] rfl rfl rfl (by decide) (fun r_23 uu9 H locs hw hP hD hS => ?_)
      obtain ⟨p1_23, o1_23⟩ := uu9
      have hP : va_P G vwCl [(ad 0 0, .inr (9, [.ref (ad 1 0), .ref (ad 2 0), .ref (ad 4 0), .ref (ad 5 0), .ref (ad 6 0), .ref (ad 7 0), .ref (ad 8 0), .ref (ad 9 0), .ref (ad 10 0), .ref (ad 11 0), .ref (ad 12 0)])), (ad 4 0, .inr (1, [.ref (ad 4 1), .ref (ad 4 2), .int (nI rk), .int (nI sl)])), (ad 4 1, .inl (cI, 7, .inl (fun i9 => nI (kd i9)))), (ad 4 2, .inl (cI, 175, .inl (fun i9 => nI (tn i9)))), (ad 10 0, .inr (2, [.ref (ad 10 1), .ref (ad 10 2), .long (lN (10 ^ (k - 0)))])), (ad 10 1, .inl (cJ, 5, .inr (.inl (fun i9 => lN (p1_23 i9))))), (ad 10 2, .inl (cJ, 5, .inr (.inl (fun i9 => lN (o1_23 i9)))))] _ := hP
      have hD : va_D A [(ad 0 0, .inr (9, [.ref (ad 1 0), .ref (ad 2 0), .ref (ad 4 0), .ref (ad 5 0), .ref (ad 6 0), .ref (ad 7 0), .ref (ad 8 0), .ref (ad 9 0), .ref (ad 10 0), .ref (ad 11 0), .ref (ad 12 0)])), (ad 4 0, .inr (1, [.ref (ad 4 1), .ref (ad 4 2), .int (nI rk), .int (nI sl)])), (ad 4 1, .inl (cI, 7, .inl (fun i9 => nI (kd i9)))), (ad 4 2, .inl (cI, 175, .inl (fun i9 => nI (tn i9)))), (ad 10 0, .inr (2, [.ref (ad 10 1), .ref (ad 10 2), .long (lN (10 ^ (k - 0)))])), (ad 10 1, .inl (cJ, 5, .inr (.inl (fun i9 => lN (p1_23 i9))))), (ad 10 2, .inl (cJ, 5, .inr (.inl (fun i9 => lN (o1_23 i9)))))] := hD
      obtain rfl := hw
      refine top_i (y := nI (comN (spP tn kd 0 o k) 5)) rfl ?_
      exact endI hx hb hr hlocks ((p1_23, o1_23, 10 ^ (k - 0))) (An2_ok (by omega) hk ho rfl) (hP.sub [0, 1, 2, 3, 4, 5, 6] rfl) (hD.sub [0, 1, 2, 3, 4, 5, 6] (by decide) rfl) hS dX9_comes_26
    · skip
      have c_15 := bI_f c_15
      refine lv_iconst (v := (-1)) hx hb dX9_comes_18 (by decide) ?_
      exact endI hx hb hr hlocks ((pa, on, wh)) (An2_no (fun h => c_15 h.2)) (hP.sub [0, 4, 5, 6, 1, 2, 3] rfl) (hD.sub [0, 4, 5, 6, 1, 2, 3] (by decide) rfl) hS dX9_comes_19

set_option maxHeartbeats 4000000 in
set_option maxRecDepth 100000 in
theorem c_X9_sure {l : Launch} {G : va_G} {cI cJ cZ cS : ClassId} (ad : Nat → Nat → Nat) (kd : Nat → Nat) (tn : Nat → Nat) (rk : Nat) (sl : Nat) (pa : Nat → Nat) (on : Nat → Nat) (wh : Nat) (r : Int32) (hrk : rk < 8) (hok : ArmyOk kd tn) : CI l G (kT cI cJ cZ cS) (S := (Nat → Nat) × (Nat → Nat) × Nat) yX9_sure wsX9_sure { frames := 7, cells := 0, slots := 0, locals := 167 } [.ref (ad 0 0), .int r] [(ad 0 0, .inr (9, [.ref (ad 1 0), .ref (ad 2 0), .ref (ad 4 0), .ref (ad 5 0), .ref (ad 6 0), .ref (ad 7 0), .ref (ad 8 0), .ref (ad 9 0), .ref (ad 10 0), .ref (ad 11 0), .ref (ad 12 0)])), (ad 4 0, .inr (1, [.ref (ad 4 1), .ref (ad 4 2), .int (nI rk), .int (nI sl)])), (ad 4 1, .inl (cI, 7, .inl (fun i9 => nI (kd i9)))), (ad 4 2, .inl (cI, 175, .inl (fun i9 => nI (tn i9)))), (ad 10 0, .inr (2, [.ref (ad 10 1), .ref (ad 10 2), .long (lN wh)])), (ad 10 1, .inl (cJ, 5, .inr (.inl (fun i9 => lN (pa i9))))), (ad 10 2, .inl (cJ, 5, .inr (.inl (fun i9 => lN (on i9)))))] (fun res uu9 => match uu9 with | (p1, o1, w1) => An1 rk r (fun k9 => nI (surN (fun o9 => comN (spP tn kd 0 o9 k9) 5) 5)) (-1) res) (fun uu9 => match uu9 with | (p1, o1, w1) => [(ad 0 0, .inr (9, [.ref (ad 1 0), .ref (ad 2 0), .ref (ad 4 0), .ref (ad 5 0), .ref (ad 6 0), .ref (ad 7 0), .ref (ad 8 0), .ref (ad 9 0), .ref (ad 10 0), .ref (ad 11 0), .ref (ad 12 0)])), (ad 4 0, .inr (1, [.ref (ad 4 1), .ref (ad 4 2), .int (nI rk), .int (nI sl)])), (ad 4 1, .inl (cI, 7, .inl (fun i9 => nI (kd i9)))), (ad 4 2, .inl (cI, 175, .inl (fun i9 => nI (tn i9)))), (ad 10 0, .inr (2, [.ref (ad 10 1), .ref (ad 10 2), .long (lN w1)])), (ad 10 1, .inl (cJ, 5, .inr (.inl (fun i9 => lN (p1 i9))))), (ad 10 2, .inl (cJ, 5, .inr (.inl (fun i9 => lN (o1 i9)))))]) := by
  refine CI.of (cc := cX9_sure) (maxL := 4) (by decide) rfl (Nat.le_of_ble_eq_true rfl) ?_
  intro p9 e9 s m below meth co9 A ls hB
  obtain ⟨hx, hb, hml, hr, hts, hown, hlocks, hmn, hK, hP, hD, hS, hA, hl⟩ := hB
  have hP : va_P G vwCl [(ad 0 0, .inr (9, [.ref (ad 1 0), .ref (ad 2 0), .ref (ad 4 0), .ref (ad 5 0), .ref (ad 6 0), .ref (ad 7 0), .ref (ad 8 0), .ref (ad 9 0), .ref (ad 10 0), .ref (ad 11 0), .ref (ad 12 0)])), (ad 4 0, .inr (1, [.ref (ad 4 1), .ref (ad 4 2), .int (nI rk), .int (nI sl)])), (ad 4 1, .inl (cI, 7, .inl (fun i9 => nI (kd i9)))), (ad 4 2, .inl (cI, 175, .inl (fun i9 => nI (tn i9)))), (ad 10 0, .inr (2, [.ref (ad 10 1), .ref (ad 10 2), .long (lN wh)])), (ad 10 1, .inl (cJ, 5, .inr (.inl (fun i9 => lN (pa i9))))), (ad 10 2, .inl (cJ, 5, .inr (.inl (fun i9 => lN (on i9)))))] s.heap := hP
  have hD : va_D A [(ad 0 0, .inr (9, [.ref (ad 1 0), .ref (ad 2 0), .ref (ad 4 0), .ref (ad 5 0), .ref (ad 6 0), .ref (ad 7 0), .ref (ad 8 0), .ref (ad 9 0), .ref (ad 10 0), .ref (ad 11 0), .ref (ad 12 0)])), (ad 4 0, .inr (1, [.ref (ad 4 1), .ref (ad 4 2), .int (nI rk), .int (nI sl)])), (ad 4 1, .inl (cI, 7, .inl (fun i9 => nI (kd i9)))), (ad 4 2, .inl (cI, 175, .inl (fun i9 => nI (tn i9)))), (ad 10 0, .inr (2, [.ref (ad 10 1), .ref (ad 10 2), .long (lN wh)])), (ad 10 1, .inl (cJ, 5, .inr (.inl (fun i9 => lN (pa i9))))), (ad 10 2, .inl (cJ, 5, .inr (.inl (fun i9 => lN (on i9)))))] := hD
  have hl : lv_has ls 4 [(0, .ref (ad 0 0)), (1, .int r)] := hl
  have k_0 := hts (.fieldLink RX9 26 "HearsayMarch" "army" "LHearsayMarch$Army;") (by decide +kernel)
  have hin9 : ∀ w ∈ wsX90, w ∈ wsX9_sure := by decide +kernel
  refine lv_aload_n hx hb dX9_sure_0 rfl (lv_at hl 0 rfl) ?_
  refine va_get (D := G) (ci := 9) (v := .ref (ad 4 0)) (C := RX9) (T := TX9) (N := 11) hx hb hts hin9 hown hK.1 hP 0 rfl rfl 2 (by decide) k_0 (fun _ h9 => h9) rfl dX9_sure_1 ?_
  refine lv_iload_n hx hb dX9_sure_4 rfl (lv_at hl 1 rfl) ?_
  refine aft_i (wr := [(ad 0 0, .inr (9, [.ref (ad 1 0), .ref (ad 2 0), .ref (ad 4 0), .ref (ad 5 0), .ref (ad 6 0), .ref (ad 7 0), .ref (ad 8 0), .ref (ad 9 0), .ref (ad 10 0), .ref (ad 11 0), .ref (ad 12 0)])), (ad 10 0, .inr (2, [.ref (ad 10 1), .ref (ad 10 2), .long (lN wh)])), (ad 10 1, .inl (cJ, 5, .inr (.inl (fun i9 => lN (pa i9))))), (ad 10 2, .inl (cJ, 5, .inr (.inl (fun i9 => lN (on i9)))))]) (va_runV (As := [.int r]) (rest := []) ⟨hx, hb, hml, hown, hts⟩ (c_X1_has (h := (ad 4)) (kd := kd) (tn := tn) (rk := rk) (sl := sl) (r := r) (hrk := by first | assumption | omega | exact hok.1 _ (by omega) | exact hok.2.2 _ _ (by omega) (by omega) | exact hok.2.1) _) (cwV 1 hts gX9_sure_X1_has rfl rfl rfl (by decide +kernel) ⟨Nat.le_of_ble_eq_true rfl, Nat.le_of_ble_eq_true rfl⟩) (preV (cq := (RX1, TX1, 4)) (q0 := 1) (ci := 1) hK hP hD [1, 2, 3] rfl rfl rfl rfl) rfl rfl hl.1 rfl (lv_room (Nat.le_of_ble_eq_true rfl)) dX9_sure_5 ⟨Nat.le_of_ble_eq_true rfl, Nat.le_of_ble_eq_true rfl⟩) hP hD hS hA [1, 2, 3] [0, 4, 5, 6] rfl rfl rfl (by decide) (fun r_5 uu9 H locs hw hP hD hS => ?_)
  have hP : va_P G vwCl [(ad 0 0, .inr (9, [.ref (ad 1 0), .ref (ad 2 0), .ref (ad 4 0), .ref (ad 5 0), .ref (ad 6 0), .ref (ad 7 0), .ref (ad 8 0), .ref (ad 9 0), .ref (ad 10 0), .ref (ad 11 0), .ref (ad 12 0)])), (ad 10 0, .inr (2, [.ref (ad 10 1), .ref (ad 10 2), .long (lN wh)])), (ad 10 1, .inl (cJ, 5, .inr (.inl (fun i9 => lN (pa i9))))), (ad 10 2, .inl (cJ, 5, .inr (.inl (fun i9 => lN (on i9))))), (ad 4 0, .inr (1, [.ref ((ad 4) 1), .ref ((ad 4) 2), .int (nI rk), .int (nI sl)])), (ad 4 1, .inl (cI, 7, .inl (fun i9 => nI (kd i9)))), (ad 4 2, .inl (cI, 175, .inl (fun i9 => nI (tn i9))))] _ := hP
  have hD : va_D A [(ad 0 0, .inr (9, [.ref (ad 1 0), .ref (ad 2 0), .ref (ad 4 0), .ref (ad 5 0), .ref (ad 6 0), .ref (ad 7 0), .ref (ad 8 0), .ref (ad 9 0), .ref (ad 10 0), .ref (ad 11 0), .ref (ad 12 0)])), (ad 10 0, .inr (2, [.ref (ad 10 1), .ref (ad 10 2), .long (lN wh)])), (ad 10 1, .inl (cJ, 5, .inr (.inl (fun i9 => lN (pa i9))))), (ad 10 2, .inl (cJ, 5, .inr (.inl (fun i9 => lN (on i9))))), (ad 4 0, .inr (1, [.ref ((ad 4) 1), .ref ((ad 4) 2), .int (nI rk), .int (nI sl)])), (ad 4 1, .inl (cI, 7, .inl (fun i9 => nI (kd i9)))), (ad 4 2, .inl (cI, 175, .inl (fun i9 => nI (tn i9))))] := hD
  obtain rfl := hw
  refine top_i (y := bI (isR rk r)) rfl ?_
  refine lv_if_ne (tgt := 13) hx hb dX9_sure_8 (by decide) (fun c_8 => ?_) (fun c_8 => ?_)
  · skip
    have c_8 := bI_t c_8
    obtain ⟨k, hk, rfl⟩ := c_8
    refine lv_iconst (v := nI 0) hx hb dX9_sure_13 (by decide) ?_
    refine lv_istore_n (lv' := [(2, .int (nI 0)), (0, .ref (ad 0 0)), (1, .int (nI k))]) hx hb dX9_sure_14 rfl hl (by decide) rfl (fun ls hl => ?_)
    refine lv_iconst (v := nI 0) hx hb dX9_sure_15 (by decide) ?_
    refine lv_istore_n (lv' := [(3, .int (nI 0)), (2, .int (nI 0)), (0, .ref (ad 0 0)), (1, .int (nI k))]) hx hb dX9_sure_16 rfl hl (by decide) rfl (fun ls hl => ?_)
    refine loopW (σ := Nat × (Nat → Nat) × (Nat → Nat) × Nat) 17 (fun xx9 H locs ls => match xx9 with | (o, q1, q2, q3) => (o ≤ 5) ∧ va_P G vwCl [(ad 0 0, .inr (9, [.ref (ad 1 0), .ref (ad 2 0), .ref (ad 4 0), .ref (ad 5 0), .ref (ad 6 0), .ref (ad 7 0), .ref (ad 8 0), .ref (ad 9 0), .ref (ad 10 0), .ref (ad 11 0), .ref (ad 12 0)])), (ad 10 0, .inr (2, [.ref (ad 10 1), .ref (ad 10 2), .long (lN q3)])), (ad 10 1, .inl (cJ, 5, .inr (.inl (fun i9 => lN (q1 i9))))), (ad 10 2, .inl (cJ, 5, .inr (.inl (fun i9 => lN (q2 i9))))), (ad 4 0, .inr (1, [.ref ((ad 4) 1), .ref ((ad 4) 2), .int (nI rk), .int (nI sl)])), (ad 4 1, .inl (cI, 7, .inl (fun i9 => nI (kd i9)))), (ad 4 2, .inl (cI, 175, .inl (fun i9 => nI (tn i9))))] H ∧ va_D A [(ad 0 0, .inr (9, [.ref (ad 1 0), .ref (ad 2 0), .ref (ad 4 0), .ref (ad 5 0), .ref (ad 6 0), .ref (ad 7 0), .ref (ad 8 0), .ref (ad 9 0), .ref (ad 10 0), .ref (ad 11 0), .ref (ad 12 0)])), (ad 10 0, .inr (2, [.ref (ad 10 1), .ref (ad 10 2), .long (lN q3)])), (ad 10 1, .inl (cJ, 5, .inr (.inl (fun i9 => lN (q1 i9))))), (ad 10 2, .inl (cJ, 5, .inr (.inl (fun i9 => lN (q2 i9))))), (ad 4 0, .inr (1, [.ref ((ad 4) 1), .ref ((ad 4) 2), .int (nI rk), .int (nI sl)])), (ad 4 1, .inl (cI, 7, .inl (fun i9 => nI (kd i9)))), (ad 4 2, .inl (cI, 175, .inl (fun i9 => nI (tn i9))))] ∧ va_S A s.heap H locs ∧ lv_has ls 4 [(3, .int (nI o)), (2, .int (nI (surN (fun o9 => comN (spP tn kd 0 o9 k) 5) o))), (0, .ref (ad 0 0)), (1, .int (nI k))]) (fun xx9 => match xx9 with | (o, q1, q2, q3) => []) (fun xx9 => match xx9 with | (o, q1, q2, q3) => 5 - o) ?_ (0, pa, on, wh) ⟨by first | assumption | omega | (simp; done), hP.sub [0, 1, 2, 3, 4, 5, 6] rfl, hD.sub [0, 1, 2, 3, 4, 5, 6] (by decide) rfl, hS, lv_sub hl [0, 1, 2, 3] rfl⟩
    intro xx9 H locs ls hI ih_17
    obtain ⟨o, q1, q2, q3⟩ := xx9
    obtain ⟨ho9, hP, hD, hS, hl⟩ := hI
    have ho9 : o ≤ 5 := ho9
    have hP : va_P G vwCl [(ad 0 0, .inr (9, [.ref (ad 1 0), .ref (ad 2 0), .ref (ad 4 0), .ref (ad 5 0), .ref (ad 6 0), .ref (ad 7 0), .ref (ad 8 0), .ref (ad 9 0), .ref (ad 10 0), .ref (ad 11 0), .ref (ad 12 0)])), (ad 10 0, .inr (2, [.ref (ad 10 1), .ref (ad 10 2), .long (lN q3)])), (ad 10 1, .inl (cJ, 5, .inr (.inl (fun i9 => lN (q1 i9))))), (ad 10 2, .inl (cJ, 5, .inr (.inl (fun i9 => lN (q2 i9))))), (ad 4 0, .inr (1, [.ref ((ad 4) 1), .ref ((ad 4) 2), .int (nI rk), .int (nI sl)])), (ad 4 1, .inl (cI, 7, .inl (fun i9 => nI (kd i9)))), (ad 4 2, .inl (cI, 175, .inl (fun i9 => nI (tn i9))))] _ := hP
    have hD : va_D A [(ad 0 0, .inr (9, [.ref (ad 1 0), .ref (ad 2 0), .ref (ad 4 0), .ref (ad 5 0), .ref (ad 6 0), .ref (ad 7 0), .ref (ad 8 0), .ref (ad 9 0), .ref (ad 10 0), .ref (ad 11 0), .ref (ad 12 0)])), (ad 10 0, .inr (2, [.ref (ad 10 1), .ref (ad 10 2), .long (lN q3)])), (ad 10 1, .inl (cJ, 5, .inr (.inl (fun i9 => lN (q1 i9))))), (ad 10 2, .inl (cJ, 5, .inr (.inl (fun i9 => lN (q2 i9))))), (ad 4 0, .inr (1, [.ref ((ad 4) 1), .ref ((ad 4) 2), .int (nI rk), .int (nI sl)])), (ad 4 1, .inl (cI, 7, .inl (fun i9 => nI (kd i9)))), (ad 4 2, .inl (cI, 175, .inl (fun i9 => nI (tn i9))))] := hD
    have hl : lv_has ls 4 [(3, .int (nI o)), (2, .int (nI (surN (fun o9 => comN (spP tn kd 0 o9 k) 5) o))), (0, .ref (ad 0 0)), (1, .int (nI k))] := hl
    refine lv_iload_n hx hb dX9_sure_17 rfl (lv_at hl 0 rfl) ?_
    refine lv_iconst (v := nI 5) hx hb dX9_sure_18 (by decide) ?_
    refine lv_icmp_ge (tgt := 46) hx hb dX9_sure_19 (by decide) (fun c_19 => ?_) (fun c_19 => ?_)
    · skip
      have c_19 := n_geT c_19 (by omega) (by omega)
      refine lv_iload_n hx hb dX9_sure_46 rfl (lv_at hl 1 rfl) ?_
      exact endI hx hb hr hlocks ((q1, q2, q3)) (An1_ok (by omega) hk (by rw [show o = 5 by omega])) (hP.sub [0, 4, 5, 6, 1, 2, 3] rfl) (hD.sub [0, 4, 5, 6, 1, 2, 3] (by decide) rfl) hS dX9_sure_47
    · skip
      have c_19 := n_geF c_19 (by omega) (by omega)
      refine lv_aload_n hx hb dX9_sure_22 rfl (lv_at hl 2 rfl) ?_
      refine lv_iload_n hx hb dX9_sure_23 rfl (lv_at hl 3 rfl) ?_
      refine lv_iload_n hx hb dX9_sure_24 rfl (lv_at hl 0 rfl) ?_
      refine aft_i (wr := []) (va_runV (As := [.int (nI k), .int (nI o)]) (rest := []) ⟨hx, hb, hml, hown, hts⟩ (c_X9_comingOrders (ad := ad) (kd := kd) (tn := tn) (rk := rk) (sl := sl) (pa := q1) (on := q2) (wh := q3) (k := k) (o := o) (hok := by first | assumption | omega | exact hok.1 _ (by omega) | exact hok.2.2 _ _ (by omega) (by omega) | exact hok.2.1) (hk := by first | assumption | omega | exact hok.1 _ (by omega) | exact hok.2.2 _ _ (by omega) (by omega) | exact hok.2.1) (ho := by first | assumption | omega | exact hok.1 _ (by omega) | exact hok.2.2 _ _ (by omega) (by omega) | exact hok.2.1) _) (cwV 2 hts gX9_sure_X9_comingOrders rfl rfl rfl (by decide +kernel) ⟨Nat.le_of_ble_eq_true rfl, Nat.le_of_ble_eq_true rfl⟩) (preV (cq := (RX9, TX9, 11)) (q0 := 0) (ci := 9) hK hP hD [0, 4, 5, 6, 1, 2, 3] rfl rfl rfl rfl) rfl rfl hl.1 rfl (lv_room (Nat.le_of_ble_eq_true rfl)) dX9_sure_25 ⟨Nat.le_of_ble_eq_true rfl, Nat.le_of_ble_eq_true rfl⟩) hP hD hS hA [0, 4, 5, 6, 1, 2, 3] [] rfl rfl rfl (by decide) (fun r_25 uu9 H locs hw hP hD hS => ?_)
      obtain ⟨p1_25, o1_25⟩ := uu9
      have hP : va_P G vwCl [(ad 0 0, .inr (9, [.ref (ad 1 0), .ref (ad 2 0), .ref (ad 4 0), .ref (ad 5 0), .ref (ad 6 0), .ref (ad 7 0), .ref (ad 8 0), .ref (ad 9 0), .ref (ad 10 0), .ref (ad 11 0), .ref (ad 12 0)])), (ad 4 0, .inr (1, [.ref (ad 4 1), .ref (ad 4 2), .int (nI rk), .int (nI sl)])), (ad 4 1, .inl (cI, 7, .inl (fun i9 => nI (kd i9)))), (ad 4 2, .inl (cI, 175, .inl (fun i9 => nI (tn i9)))), (ad 10 0, .inr (2, [.ref (ad 10 1), .ref (ad 10 2), .long (lN (10 ^ (k - 0)))])), (ad 10 1, .inl (cJ, 5, .inr (.inl (fun i9 => lN (p1_25 i9))))), (ad 10 2, .inl (cJ, 5, .inr (.inl (fun i9 => lN (o1_25 i9)))))] _ := hP
      have hD : va_D A [(ad 0 0, .inr (9, [.ref (ad 1 0), .ref (ad 2 0), .ref (ad 4 0), .ref (ad 5 0), .ref (ad 6 0), .ref (ad 7 0), .ref (ad 8 0), .ref (ad 9 0), .ref (ad 10 0), .ref (ad 11 0), .ref (ad 12 0)])), (ad 4 0, .inr (1, [.ref (ad 4 1), .ref (ad 4 2), .int (nI rk), .int (nI sl)])), (ad 4 1, .inl (cI, 7, .inl (fun i9 => nI (kd i9)))), (ad 4 2, .inl (cI, 175, .inl (fun i9 => nI (tn i9)))), (ad 10 0, .inr (2, [.ref (ad 10 1), .ref (ad 10 2), .long (lN (10 ^ (k - 0)))])), (ad 10 1, .inl (cJ, 5, .inr (.inl (fun i9 => lN (p1_25 i9))))), (ad 10 2, .inl (cJ, 5, .inr (.inl (fun i9 => lN (o1_25 i9)))))] := hD
      obtain rfl := hw
      refine top_i (y := nI (comN (spP tn kd 0 o k) 5)) rfl ?_
      refine lv_iconst (v := nI 1) hx hb dX9_sure_28 (by decide) ?_
      refine lv_iload_n hx hb dX9_sure_29 rfl (lv_at hl 0 rfl) ?_
      refine lv_ishl hx hb dX9_sure_30 ?_
      refine top_i (y := nI (2 ^ o)) (shl1 (by omega)) ?_
      have hb9 := comN_lt (spP tn kd 0 o k) 5
      have hb8 := pow2_b (n := o) (by omega)
      refine lv_icmp_ne (tgt := 40) hx hb dX9_sure_31 (by decide) (fun c_31 => ?_) (fun c_31 => ?_)
      · skip
        have c_31 := n_neT c_31 (by omega) (by omega)
        have hl : lv_has ls 4 [(3, .int (nI o)), (2, .int (nI (surN (fun o9 => comN (spP tn kd 0 o9 k) 5) (o + 1)))), (0, .ref (ad 0 0)), (1, .int (nI k))] := by first | exact hl | (rw [surN_n c_31]; exact hl)
        refine lv_iinc (v := nI (o + 1)) (lv' := [(3, .int (nI (o + 1))), (2, .int (nI (surN (fun o9 => comN (spP tn kd 0 o9 k) 5) (o + 1)))), (0, .ref (ad 0 0)), (1, .int (nI k))]) hx hb dX9_sure_40 hl (k := 0) rfl (nI_inc _ 1 1 (by decide)) (by decide) rfl (fun ls hl => ?_)
        refine lv_goto (tgt := 17) hx hb dX9_sure_43 (by decide) ?_
        exact ih_17 (o + 1, p1_25, o1_25, (10 ^ (k - 0))) _ _ _ (by first | omega | (simp only []; omega) | (show _ < _; omega)) ⟨by first | assumption | omega | (simp; done), hP.sub [0, 4, 5, 6, 1, 2, 3] rfl, hD.sub [0, 4, 5, 6, 1, 2, 3] (by decide) rfl, hS, lv_sub hl [0, 1, 2, 3] rfl⟩
      · skip
        have c_31 := n_neF c_31 (by omega) (by omega)
        refine lv_iload_n hx hb dX9_sure_34 rfl (lv_at hl 1 rfl) ?_
        refine lv_iconst (v := nI 1) hx hb dX9_sure_35 (by decide) ?_
        refine lv_iload_n hx hb dX9_sure_36 rfl (lv_at hl 0 rfl) ?_
        refine lv_ishl hx hb dX9_sure_37 ?_
        refine lv_ior hx hb dX9_sure_38 ?_
        refine top_i (y := nI (surN (fun o9 => comN (spP tn kd 0 o9 k) 5) (o + 1))) (surN_y (by omega) c_31) ?_
        refine lv_istore_n (lv' := [(2, .int (nI (surN (fun o9 => comN (spP tn kd 0 o9 k) 5) (o + 1)))), (3, .int (nI o)), (0, .ref (ad 0 0)), (1, .int (nI k))]) hx hb dX9_sure_39 rfl hl (by decide) rfl (fun ls hl => ?_)
        have hl : lv_has ls 4 [(2, .int (nI (surN (fun o9 => comN (spP tn kd 0 o9 k) 5) (o + 1)))), (3, .int (nI o)), (0, .ref (ad 0 0)), (1, .int (nI k))] := by first | exact hl | (rw [surN_n c_31]; exact hl)
        refine lv_iinc (v := nI (o + 1)) (lv' := [(3, .int (nI (o + 1))), (2, .int (nI (surN (fun o9 => comN (spP tn kd 0 o9 k) 5) (o + 1)))), (0, .ref (ad 0 0)), (1, .int (nI k))]) hx hb dX9_sure_40 hl (k := 1) rfl (nI_inc _ 1 1 (by decide)) (by decide) rfl (fun ls hl => ?_)
        refine lv_goto (tgt := 17) hx hb dX9_sure_43 (by decide) ?_
        exact ih_17 (o + 1, p1_25, o1_25, (10 ^ (k - 0))) _ _ _ (by first | omega | (simp only []; omega) | (show _ < _; omega)) ⟨by first | assumption | omega | (simp; done), hP.sub [0, 4, 5, 6, 1, 2, 3] rfl, hD.sub [0, 4, 5, 6, 1, 2, 3] (by decide) rfl, hS, lv_sub hl [0, 1, 2, 3] rfl⟩
  · skip
    have c_8 := bI_f c_8
    refine lv_iconst (v := (-1)) hx hb dX9_sure_11 (by decide) ?_
    exact endI hx hb hr hlocks ((pa, on, wh)) (An1_no c_8) (hP.sub [0, 4, 5, 6, 1, 2, 3] rfl) (hD.sub [0, 4, 5, 6, 1, 2, 3] (by decide) rfl) hS dX9_sure_12

set_option maxHeartbeats 4000000 in
set_option maxRecDepth 100000 in
theorem c_X9_areApart {l : Launch} {G : va_G} {cI cJ cZ cS : ClassId} (ad : Nat → Nat → Nat) (cm : Nat → Nat) (q : Nat) (hq : q < 32) (hcm : ∀ j, j < 5 → cm j < 32) : CI l G (kT cI cJ cZ cS) (S := Unit) yX9_areApart wsX9_areApart { frames := 0, cells := 0, slots := 0, locals := 0 } [.ref (ad 0 0), .int (nI q)] [(ad 0 0, .inr (9, [.ref (ad 1 0), .ref (ad 2 0), .ref (ad 4 0), .ref (ad 5 0), .ref (ad 6 0), .ref (ad 7 0), .ref (ad 8 0), .ref (ad 9 0), .ref (ad 10 0), .ref (ad 11 0), .ref (ad 12 0)])), (ad 12 0, .inl (cI, 5, .inl (fun i9 => nI (cm i9))))] (fun res _ => res = bI (apt cm q)) (fun _ => [(ad 0 0, .inr (9, [.ref (ad 1 0), .ref (ad 2 0), .ref (ad 4 0), .ref (ad 5 0), .ref (ad 6 0), .ref (ad 7 0), .ref (ad 8 0), .ref (ad 9 0), .ref (ad 10 0), .ref (ad 11 0), .ref (ad 12 0)])), (ad 12 0, .inl (cI, 5, .inl (fun i9 => nI (cm i9))))]) := by
  refine CI.of (cc := cX9_areApart) (maxL := 4) (by decide) rfl (Nat.le_of_ble_eq_true rfl) ?_
  intro p9 e9 s m below meth co9 A ls hB
  obtain ⟨hx, hb, hml, hr, hts, hown, hlocks, hmn, hK, hP, hD, hS, hA, hl⟩ := hB
  have hP : va_P G vwCl [(ad 0 0, .inr (9, [.ref (ad 1 0), .ref (ad 2 0), .ref (ad 4 0), .ref (ad 5 0), .ref (ad 6 0), .ref (ad 7 0), .ref (ad 8 0), .ref (ad 9 0), .ref (ad 10 0), .ref (ad 11 0), .ref (ad 12 0)])), (ad 12 0, .inl (cI, 5, .inl (fun i9 => nI (cm i9))))] s.heap := hP
  have hD : va_D A [(ad 0 0, .inr (9, [.ref (ad 1 0), .ref (ad 2 0), .ref (ad 4 0), .ref (ad 5 0), .ref (ad 6 0), .ref (ad 7 0), .ref (ad 8 0), .ref (ad 9 0), .ref (ad 10 0), .ref (ad 11 0), .ref (ad 12 0)])), (ad 12 0, .inl (cI, 5, .inl (fun i9 => nI (cm i9))))] := hD
  have hl : lv_has ls 4 [(0, .ref (ad 0 0)), (1, .int (nI q))] := hl
  have k_0 := hts (.fieldLink RX9 75 "HearsayMarch" "comesOf" "[I") (by decide +kernel)
  have hin9 : ∀ w ∈ wsX90, w ∈ wsX9_areApart := by decide +kernel
  refine lv_iconst (v := nI 0) hx hb dX9_areApart_0 (by decide) ?_
  refine lv_istore_n (lv' := [(2, .int (nI 0)), (0, .ref (ad 0 0)), (1, .int (nI q))]) hx hb dX9_areApart_1 rfl hl (by decide) rfl (fun ls hl => ?_)
  refine lv_iconst (v := nI 0) hx hb dX9_areApart_2 (by decide) ?_
  refine lv_istore_n (lv' := [(3, .int (nI 0)), (2, .int (nI 0)), (0, .ref (ad 0 0)), (1, .int (nI q))]) hx hb dX9_areApart_3 rfl hl (by decide) rfl (fun ls hl => ?_)
  refine loopW (σ := Nat) 4 (fun (u : Nat) H locs ls => (u ≤ 5) ∧ (∀ j, j < u → q / 2 ^ j % 2 = 1 → apM cm q j &&& cm j = 0) ∧ va_P G vwCl [(ad 0 0, .inr (9, [.ref (ad 1 0), .ref (ad 2 0), .ref (ad 4 0), .ref (ad 5 0), .ref (ad 6 0), .ref (ad 7 0), .ref (ad 8 0), .ref (ad 9 0), .ref (ad 10 0), .ref (ad 11 0), .ref (ad 12 0)])), (ad 12 0, .inl (cI, 5, .inl (fun i9 => nI (cm i9))))] H ∧ va_D A [(ad 0 0, .inr (9, [.ref (ad 1 0), .ref (ad 2 0), .ref (ad 4 0), .ref (ad 5 0), .ref (ad 6 0), .ref (ad 7 0), .ref (ad 8 0), .ref (ad 9 0), .ref (ad 10 0), .ref (ad 11 0), .ref (ad 12 0)])), (ad 12 0, .inl (cI, 5, .inl (fun i9 => nI (cm i9))))] ∧ va_S A s.heap H locs ∧ lv_has ls 4 [(3, .int (nI u)), (2, .int (nI (apM cm q u))), (0, .ref (ad 0 0)), (1, .int (nI q))]) (fun (u : Nat) => []) (fun (u : Nat) => 5 - u) ?_ 0 ⟨by first | assumption | omega | (simp; done), by first | assumption | omega | (simp; done), hP.sub [0, 1] rfl, hD.sub [0, 1] (by decide) rfl, hS, lv_sub hl [0, 1, 2, 3] rfl⟩
  intro xx9 H locs ls hI ih_4
  obtain ⟨u, rfl⟩ : ∃ z, z = xx9 := ⟨_, rfl⟩
  obtain ⟨hu, hap, hP, hD, hS, hl⟩ := hI
  have hu : u ≤ 5 := hu
  have hap : ∀ j, j < u → q / 2 ^ j % 2 = 1 → apM cm q j &&& cm j = 0 := hap
  have hP : va_P G vwCl [(ad 0 0, .inr (9, [.ref (ad 1 0), .ref (ad 2 0), .ref (ad 4 0), .ref (ad 5 0), .ref (ad 6 0), .ref (ad 7 0), .ref (ad 8 0), .ref (ad 9 0), .ref (ad 10 0), .ref (ad 11 0), .ref (ad 12 0)])), (ad 12 0, .inl (cI, 5, .inl (fun i9 => nI (cm i9))))] _ := hP
  have hD : va_D A [(ad 0 0, .inr (9, [.ref (ad 1 0), .ref (ad 2 0), .ref (ad 4 0), .ref (ad 5 0), .ref (ad 6 0), .ref (ad 7 0), .ref (ad 8 0), .ref (ad 9 0), .ref (ad 10 0), .ref (ad 11 0), .ref (ad 12 0)])), (ad 12 0, .inl (cI, 5, .inl (fun i9 => nI (cm i9))))] := hD
  have hl : lv_has ls 4 [(3, .int (nI u)), (2, .int (nI (apM cm q u))), (0, .ref (ad 0 0)), (1, .int (nI q))] := hl
  refine lv_iload_n hx hb dX9_areApart_4 rfl (lv_at hl 0 rfl) ?_
  refine lv_iconst (v := nI 5) hx hb dX9_areApart_5 (by decide) ?_
  refine lv_icmp_ge (tgt := 48) hx hb dX9_areApart_6 (by decide) (fun c_6 => ?_) (fun c_6 => ?_)
  · skip
    have c_6 := n_geT c_6 (by omega) (by omega)
    refine lv_iconst (v := nI 1) hx hb dX9_areApart_48 (by decide) ?_
    exact endZ hx hb hr hlocks (rfl) (()) (bI_y (fun j hj => hap j (by omega))) (hP.sub [0, 1] rfl) (hD.sub [0, 1] (by decide) rfl) hS dX9_areApart_49
  · skip
    have c_6 := n_geF c_6 (by omega) (by omega)
    refine lv_iload_n hx hb dX9_areApart_9 rfl (lv_at hl 3 rfl) ?_
    refine lv_iload_n hx hb dX9_areApart_10 rfl (lv_at hl 0 rfl) ?_
    refine lv_ishr hx hb dX9_areApart_11 ?_
    refine top_i (y := nI (q / 2 ^ u)) (shr1 (by omega) (by omega)) ?_
    refine lv_iconst (v := nI 1) hx hb dX9_areApart_12 (by decide) ?_
    refine lv_iand hx hb dX9_areApart_13 ?_
    refine top_i (y := nI (q / 2 ^ u % 2)) (and1 _) ?_
    have hb7 : q / 2 ^ u % 2 < 2 := Nat.mod_lt _ (by decide)
    refine lv_if_ne (tgt := 20) hx hb dX9_areApart_14 (by decide) (fun c_14 => ?_) (fun c_14 => ?_)
    · skip
      have c_14 := z_neT c_14 (by omega)
      refine lv_iload_n hx hb dX9_areApart_20 rfl (lv_at hl 1 rfl) ?_
      refine lv_aload_n hx hb dX9_areApart_21 rfl (lv_at hl 2 rfl) ?_
      refine va_get (D := G) (ci := 9) (v := .ref (ad 12 0)) (C := RX9) (T := TX9) (N := 11) hx hb hts hin9 hown hK.1 hP 0 rfl rfl 10 (by decide) k_0 (fun _ h9 => h9) rfl dX9_areApart_22 ?_
      refine lv_iload_n hx hb dX9_areApart_25 rfl (lv_at hl 0 rfl) ?_
      refine ald hx hb hK hP 1 0 rfl rfl (j := u) (by omega) (by omega) dX9_areApart_26 ?_
      refine lv_iand hx hb dX9_areApart_27 ?_
      refine top_i (y := nI (apM cm q u &&& cm u)) (fa_and _ _) ?_
      have hb9 := and_lt32 (x := apM cm q u) (hcm u (by omega))
      refine lv_if_eq (tgt := 33) hx hb dX9_areApart_28 (by decide) (fun c_28 => ?_) (fun c_28 => ?_)
      · skip
        have c_28 := z_eqT c_28 (by omega)
        refine lv_iload_n hx hb dX9_areApart_33 rfl (lv_at hl 1 rfl) ?_
        refine lv_aload_n hx hb dX9_areApart_34 rfl (lv_at hl 2 rfl) ?_
        refine va_get (D := G) (ci := 9) (v := .ref (ad 12 0)) (C := RX9) (T := TX9) (N := 11) hx hb hts hin9 hown hK.1 hP 0 rfl rfl 10 (by decide) k_0 (fun _ h9 => h9) rfl dX9_areApart_35 ?_
        refine lv_iload_n hx hb dX9_areApart_38 rfl (lv_at hl 0 rfl) ?_
        refine ald hx hb hK hP 1 0 rfl rfl (j := u) (by omega) (by omega) dX9_areApart_39 ?_
        refine lv_ior hx hb dX9_areApart_40 ?_
        refine top_i (y := nI (apM cm q (u + 1))) (apM_y (by omega)) ?_
        refine lv_istore_n (lv' := [(2, .int (nI (apM cm q (u + 1)))), (3, .int (nI u)), (0, .ref (ad 0 0)), (1, .int (nI q))]) hx hb dX9_areApart_41 rfl hl (by decide) rfl (fun ls hl => ?_)
        have hl : lv_has ls 4 [(2, .int (nI (apM cm q (u + 1)))), (3, .int (nI u)), (0, .ref (ad 0 0)), (1, .int (nI q))] := by first | exact hl | (rw [apM_n (by omega)]; exact hl)
        refine lv_iinc (v := nI (u + 1)) (lv' := [(3, .int (nI (u + 1))), (2, .int (nI (apM cm q (u + 1)))), (0, .ref (ad 0 0)), (1, .int (nI q))]) hx hb dX9_areApart_42 hl (k := 1) rfl (nI_inc _ 1 1 (by decide)) (by decide) rfl (fun ls hl => ?_)
        refine lv_goto (tgt := 4) hx hb dX9_areApart_45 (by decide) ?_
        exact ih_4 (u + 1) _ _ _ (by first | omega | (simp only []; omega) | (show _ < _; omega)) ⟨by first | assumption | omega | (simp; done), by first | exact lt_s hap (fun _ => c_28) | exact lt_s hap (fun z => by omega), hP.sub [0, 1] rfl, hD.sub [0, 1] (by decide) rfl, hS, lv_sub hl [0, 1, 2, 3] rfl⟩
      · skip
        have c_28 := z_eqF c_28 (by omega)
        refine lv_iconst (v := nI 0) hx hb dX9_areApart_31 (by decide) ?_
        exact endZ hx hb hr hlocks (rfl) (()) (bI_n (fun z => c_28 (z u (by omega) (by omega)))) (hP.sub [0, 1] rfl) (hD.sub [0, 1] (by decide) rfl) hS dX9_areApart_32
    · skip
      have c_14 := z_neF c_14 (by omega)
      refine lv_goto (tgt := 42) hx hb dX9_areApart_17 (by decide) ?_
      have hl : lv_has ls 4 [(3, .int (nI u)), (2, .int (nI (apM cm q (u + 1)))), (0, .ref (ad 0 0)), (1, .int (nI q))] := by first | exact hl | (rw [apM_n (by omega)]; exact hl)
      refine lv_iinc (v := nI (u + 1)) (lv' := [(3, .int (nI (u + 1))), (2, .int (nI (apM cm q (u + 1)))), (0, .ref (ad 0 0)), (1, .int (nI q))]) hx hb dX9_areApart_42 hl (k := 0) rfl (nI_inc _ 1 1 (by decide)) (by decide) rfl (fun ls hl => ?_)
      refine lv_goto (tgt := 4) hx hb dX9_areApart_45 (by decide) ?_
      exact ih_4 (u + 1) _ _ _ (by first | omega | (simp only []; omega) | (show _ < _; omega)) ⟨by first | assumption | omega | (simp; done), by first | exact lt_s hap (fun _ => c_28) | exact lt_s hap (fun z => by omega), hP.sub [0, 1] rfl, hD.sub [0, 1] (by decide) rfl, hS, lv_sub hl [0, 1, 2, 3] rfl⟩

set_option maxHeartbeats 4000000 in
set_option maxRecDepth 100000 in
theorem c_X9_code {l : Launch} {G : va_G} {cI cJ cZ cS : ClassId} (ad : Nat → Nat → Nat) (kd : Nat → Nat) (tn : Nat → Nat) (rk : Nat) (sl : Nat) (pa : Nat → Nat) (on : Nat → Nat) (wh : Nat) (cm : Nat → Nat) (r : Int32) (hrk : rk < 8) (hok : ArmyOk kd tn) : CI l G (kT cI cJ cZ cS) (S := (Nat → Nat) × (Nat → Nat) × Nat × (Nat → Nat)) yX9_code wsX9_code { frames := 7, cells := 0, slots := 0, locals := 167 } [.ref (ad 0 0), .int r] [(ad 0 0, .inr (9, [.ref (ad 1 0), .ref (ad 2 0), .ref (ad 4 0), .ref (ad 5 0), .ref (ad 6 0), .ref (ad 7 0), .ref (ad 8 0), .ref (ad 9 0), .ref (ad 10 0), .ref (ad 11 0), .ref (ad 12 0)])), (ad 4 0, .inr (1, [.ref (ad 4 1), .ref (ad 4 2), .int (nI rk), .int (nI sl)])), (ad 4 1, .inl (cI, 7, .inl (fun i9 => nI (kd i9)))), (ad 4 2, .inl (cI, 175, .inl (fun i9 => nI (tn i9)))), (ad 10 0, .inr (2, [.ref (ad 10 1), .ref (ad 10 2), .long (lN wh)])), (ad 10 1, .inl (cJ, 5, .inr (.inl (fun i9 => lN (pa i9))))), (ad 10 2, .inl (cJ, 5, .inr (.inl (fun i9 => lN (on i9))))), (ad 12 0, .inl (cI, 5, .inl (fun i9 => nI (cm i9))))] (fun res uu9 => match uu9 with | (p1, o1, w1, m1) => An1 rk r (fun k9 => nI (codeN (fun o9 => comN (spP tn kd 0 o9 k9) 5) 32)) (-1) res) (fun uu9 => match uu9 with | (p1, o1, w1, m1) => [(ad 0 0, .inr (9, [.ref (ad 1 0), .ref (ad 2 0), .ref (ad 4 0), .ref (ad 5 0), .ref (ad 6 0), .ref (ad 7 0), .ref (ad 8 0), .ref (ad 9 0), .ref (ad 10 0), .ref (ad 11 0), .ref (ad 12 0)])), (ad 4 0, .inr (1, [.ref (ad 4 1), .ref (ad 4 2), .int (nI rk), .int (nI sl)])), (ad 4 1, .inl (cI, 7, .inl (fun i9 => nI (kd i9)))), (ad 4 2, .inl (cI, 175, .inl (fun i9 => nI (tn i9)))), (ad 10 0, .inr (2, [.ref (ad 10 1), .ref (ad 10 2), .long (lN w1)])), (ad 10 1, .inl (cJ, 5, .inr (.inl (fun i9 => lN (p1 i9))))), (ad 10 2, .inl (cJ, 5, .inr (.inl (fun i9 => lN (o1 i9))))), (ad 12 0, .inl (cI, 5, .inl (fun i9 => nI (m1 i9))))]) := by
  refine CI.of (cc := cX9_code) (maxL := 4) (by decide) rfl (Nat.le_of_ble_eq_true rfl) ?_
  intro p9 e9 s m below meth co9 A ls hB
  obtain ⟨hx, hb, hml, hr, hts, hown, hlocks, hmn, hK, hP, hD, hS, hA, hl⟩ := hB
  have hP : va_P G vwCl [(ad 0 0, .inr (9, [.ref (ad 1 0), .ref (ad 2 0), .ref (ad 4 0), .ref (ad 5 0), .ref (ad 6 0), .ref (ad 7 0), .ref (ad 8 0), .ref (ad 9 0), .ref (ad 10 0), .ref (ad 11 0), .ref (ad 12 0)])), (ad 4 0, .inr (1, [.ref (ad 4 1), .ref (ad 4 2), .int (nI rk), .int (nI sl)])), (ad 4 1, .inl (cI, 7, .inl (fun i9 => nI (kd i9)))), (ad 4 2, .inl (cI, 175, .inl (fun i9 => nI (tn i9)))), (ad 10 0, .inr (2, [.ref (ad 10 1), .ref (ad 10 2), .long (lN wh)])), (ad 10 1, .inl (cJ, 5, .inr (.inl (fun i9 => lN (pa i9))))), (ad 10 2, .inl (cJ, 5, .inr (.inl (fun i9 => lN (on i9))))), (ad 12 0, .inl (cI, 5, .inl (fun i9 => nI (cm i9))))] s.heap := hP
  have hD : va_D A [(ad 0 0, .inr (9, [.ref (ad 1 0), .ref (ad 2 0), .ref (ad 4 0), .ref (ad 5 0), .ref (ad 6 0), .ref (ad 7 0), .ref (ad 8 0), .ref (ad 9 0), .ref (ad 10 0), .ref (ad 11 0), .ref (ad 12 0)])), (ad 4 0, .inr (1, [.ref (ad 4 1), .ref (ad 4 2), .int (nI rk), .int (nI sl)])), (ad 4 1, .inl (cI, 7, .inl (fun i9 => nI (kd i9)))), (ad 4 2, .inl (cI, 175, .inl (fun i9 => nI (tn i9)))), (ad 10 0, .inr (2, [.ref (ad 10 1), .ref (ad 10 2), .long (lN wh)])), (ad 10 1, .inl (cJ, 5, .inr (.inl (fun i9 => lN (pa i9))))), (ad 10 2, .inl (cJ, 5, .inr (.inl (fun i9 => lN (on i9))))), (ad 12 0, .inl (cI, 5, .inl (fun i9 => nI (cm i9))))] := hD
  have hl : lv_has ls 4 [(0, .ref (ad 0 0)), (1, .int r)] := hl
  have k_0 := hts (.fieldLink RX9 26 "HearsayMarch" "army" "LHearsayMarch$Army;") (by decide +kernel)
  have k_1 := hts (.fieldLink RX9 75 "HearsayMarch" "comesOf" "[I") (by decide +kernel)
  have hin9 : ∀ w ∈ wsX90, w ∈ wsX9_code := by decide +kernel
  refine lv_aload_n hx hb dX9_code_0 rfl (lv_at hl 0 rfl) ?_
  refine va_get (D := G) (ci := 9) (v := .ref (ad 4 0)) (C := RX9) (T := TX9) (N := 11) hx hb hts hin9 hown hK.1 hP 0 rfl rfl 2 (by decide) k_0 (fun _ h9 => h9) rfl dX9_code_1 ?_
  refine lv_iload_n hx hb dX9_code_4 rfl (lv_at hl 1 rfl) ?_
  refine aft_i (wr := [(ad 0 0, .inr (9, [.ref (ad 1 0), .ref (ad 2 0), .ref (ad 4 0), .ref (ad 5 0), .ref (ad 6 0), .ref (ad 7 0), .ref (ad 8 0), .ref (ad 9 0), .ref (ad 10 0), .ref (ad 11 0), .ref (ad 12 0)])), (ad 10 0, .inr (2, [.ref (ad 10 1), .ref (ad 10 2), .long (lN wh)])), (ad 10 1, .inl (cJ, 5, .inr (.inl (fun i9 => lN (pa i9))))), (ad 10 2, .inl (cJ, 5, .inr (.inl (fun i9 => lN (on i9))))), (ad 12 0, .inl (cI, 5, .inl (fun i9 => nI (cm i9))))]) (va_runV (As := [.int r]) (rest := []) ⟨hx, hb, hml, hown, hts⟩ (c_X1_has (h := (ad 4)) (kd := kd) (tn := tn) (rk := rk) (sl := sl) (r := r) (hrk := by first | assumption | omega | exact hok.1 _ (by omega) | exact hok.2.2 _ _ (by omega) (by omega) | exact hok.2.1) _) (cwV 1 hts gX9_code_X1_has rfl rfl rfl (by decide +kernel) ⟨Nat.le_of_ble_eq_true rfl, Nat.le_of_ble_eq_true rfl⟩) (preV (cq := (RX1, TX1, 4)) (q0 := 1) (ci := 1) hK hP hD [1, 2, 3] rfl rfl rfl rfl) rfl rfl hl.1 rfl (lv_room (Nat.le_of_ble_eq_true rfl)) dX9_code_5 ⟨Nat.le_of_ble_eq_true rfl, Nat.le_of_ble_eq_true rfl⟩) hP hD hS hA [1, 2, 3] [0, 4, 5, 6, 7] rfl rfl rfl (by decide) (fun r_5 uu9 H locs hw hP hD hS => ?_)
  have hP : va_P G vwCl [(ad 0 0, .inr (9, [.ref (ad 1 0), .ref (ad 2 0), .ref (ad 4 0), .ref (ad 5 0), .ref (ad 6 0), .ref (ad 7 0), .ref (ad 8 0), .ref (ad 9 0), .ref (ad 10 0), .ref (ad 11 0), .ref (ad 12 0)])), (ad 10 0, .inr (2, [.ref (ad 10 1), .ref (ad 10 2), .long (lN wh)])), (ad 10 1, .inl (cJ, 5, .inr (.inl (fun i9 => lN (pa i9))))), (ad 10 2, .inl (cJ, 5, .inr (.inl (fun i9 => lN (on i9))))), (ad 12 0, .inl (cI, 5, .inl (fun i9 => nI (cm i9)))), (ad 4 0, .inr (1, [.ref ((ad 4) 1), .ref ((ad 4) 2), .int (nI rk), .int (nI sl)])), (ad 4 1, .inl (cI, 7, .inl (fun i9 => nI (kd i9)))), (ad 4 2, .inl (cI, 175, .inl (fun i9 => nI (tn i9))))] _ := hP
  have hD : va_D A [(ad 0 0, .inr (9, [.ref (ad 1 0), .ref (ad 2 0), .ref (ad 4 0), .ref (ad 5 0), .ref (ad 6 0), .ref (ad 7 0), .ref (ad 8 0), .ref (ad 9 0), .ref (ad 10 0), .ref (ad 11 0), .ref (ad 12 0)])), (ad 10 0, .inr (2, [.ref (ad 10 1), .ref (ad 10 2), .long (lN wh)])), (ad 10 1, .inl (cJ, 5, .inr (.inl (fun i9 => lN (pa i9))))), (ad 10 2, .inl (cJ, 5, .inr (.inl (fun i9 => lN (on i9))))), (ad 12 0, .inl (cI, 5, .inl (fun i9 => nI (cm i9)))), (ad 4 0, .inr (1, [.ref ((ad 4) 1), .ref ((ad 4) 2), .int (nI rk), .int (nI sl)])), (ad 4 1, .inl (cI, 7, .inl (fun i9 => nI (kd i9)))), (ad 4 2, .inl (cI, 175, .inl (fun i9 => nI (tn i9))))] := hD
  obtain rfl := hw
  refine top_i (y := bI (isR rk r)) rfl ?_
  refine lv_if_ne (tgt := 13) hx hb dX9_code_8 (by decide) (fun c_8 => ?_) (fun c_8 => ?_)
  · skip
    have c_8 := bI_t c_8
    obtain ⟨k, hk, rfl⟩ := c_8
    refine lv_iconst (v := nI 0) hx hb dX9_code_13 (by decide) ?_
    refine lv_istore_n (lv' := [(2, .int (nI 0)), (0, .ref (ad 0 0)), (1, .int (nI k))]) hx hb dX9_code_14 rfl hl (by decide) rfl (fun ls hl => ?_)
    refine loopW (σ := Nat × (Nat → Nat) × (Nat → Nat) × Nat × (Nat → Nat)) 15 (fun xx9 H locs ls => match xx9 with | (o, q1, q2, q3, cq) => (o ≤ 5) ∧ (∀ j, j < o → cq j = comN (spP tn kd 0 j k) 5) ∧ va_P G vwCl [(ad 0 0, .inr (9, [.ref (ad 1 0), .ref (ad 2 0), .ref (ad 4 0), .ref (ad 5 0), .ref (ad 6 0), .ref (ad 7 0), .ref (ad 8 0), .ref (ad 9 0), .ref (ad 10 0), .ref (ad 11 0), .ref (ad 12 0)])), (ad 10 0, .inr (2, [.ref (ad 10 1), .ref (ad 10 2), .long (lN q3)])), (ad 10 1, .inl (cJ, 5, .inr (.inl (fun i9 => lN (q1 i9))))), (ad 10 2, .inl (cJ, 5, .inr (.inl (fun i9 => lN (q2 i9))))), (ad 12 0, .inl (cI, 5, .inl (fun i9 => nI (cq i9)))), (ad 4 0, .inr (1, [.ref ((ad 4) 1), .ref ((ad 4) 2), .int (nI rk), .int (nI sl)])), (ad 4 1, .inl (cI, 7, .inl (fun i9 => nI (kd i9)))), (ad 4 2, .inl (cI, 175, .inl (fun i9 => nI (tn i9))))] H ∧ va_D A [(ad 0 0, .inr (9, [.ref (ad 1 0), .ref (ad 2 0), .ref (ad 4 0), .ref (ad 5 0), .ref (ad 6 0), .ref (ad 7 0), .ref (ad 8 0), .ref (ad 9 0), .ref (ad 10 0), .ref (ad 11 0), .ref (ad 12 0)])), (ad 10 0, .inr (2, [.ref (ad 10 1), .ref (ad 10 2), .long (lN q3)])), (ad 10 1, .inl (cJ, 5, .inr (.inl (fun i9 => lN (q1 i9))))), (ad 10 2, .inl (cJ, 5, .inr (.inl (fun i9 => lN (q2 i9))))), (ad 12 0, .inl (cI, 5, .inl (fun i9 => nI (cq i9)))), (ad 4 0, .inr (1, [.ref ((ad 4) 1), .ref ((ad 4) 2), .int (nI rk), .int (nI sl)])), (ad 4 1, .inl (cI, 7, .inl (fun i9 => nI (kd i9)))), (ad 4 2, .inl (cI, 175, .inl (fun i9 => nI (tn i9))))] ∧ va_S A s.heap H locs ∧ lv_has ls 4 [(2, .int (nI o)), (0, .ref (ad 0 0)), (1, .int (nI k))]) (fun xx9 => match xx9 with | (o, q1, q2, q3, cq) => []) (fun xx9 => match xx9 with | (o, q1, q2, q3, cq) => 5 - o) ?_ (0, pa, on, wh, cm) ⟨by first | assumption | omega | (simp; done), by first | assumption | omega | (simp; done), hP.sub [0, 1, 2, 3, 4, 5, 6, 7] rfl, hD.sub [0, 1, 2, 3, 4, 5, 6, 7] (by decide) rfl, hS, lv_sub hl [0, 1, 2] rfl⟩
    intro xx9 H locs ls hI ih_15
    obtain ⟨o, q1, q2, q3, cq⟩ := xx9
    obtain ⟨ho9, hcq, hP, hD, hS, hl⟩ := hI
    have ho9 : o ≤ 5 := ho9
    have hcq : ∀ j, j < o → cq j = comN (spP tn kd 0 j k) 5 := hcq
    have hP : va_P G vwCl [(ad 0 0, .inr (9, [.ref (ad 1 0), .ref (ad 2 0), .ref (ad 4 0), .ref (ad 5 0), .ref (ad 6 0), .ref (ad 7 0), .ref (ad 8 0), .ref (ad 9 0), .ref (ad 10 0), .ref (ad 11 0), .ref (ad 12 0)])), (ad 10 0, .inr (2, [.ref (ad 10 1), .ref (ad 10 2), .long (lN q3)])), (ad 10 1, .inl (cJ, 5, .inr (.inl (fun i9 => lN (q1 i9))))), (ad 10 2, .inl (cJ, 5, .inr (.inl (fun i9 => lN (q2 i9))))), (ad 12 0, .inl (cI, 5, .inl (fun i9 => nI (cq i9)))), (ad 4 0, .inr (1, [.ref ((ad 4) 1), .ref ((ad 4) 2), .int (nI rk), .int (nI sl)])), (ad 4 1, .inl (cI, 7, .inl (fun i9 => nI (kd i9)))), (ad 4 2, .inl (cI, 175, .inl (fun i9 => nI (tn i9))))] _ := hP
    have hD : va_D A [(ad 0 0, .inr (9, [.ref (ad 1 0), .ref (ad 2 0), .ref (ad 4 0), .ref (ad 5 0), .ref (ad 6 0), .ref (ad 7 0), .ref (ad 8 0), .ref (ad 9 0), .ref (ad 10 0), .ref (ad 11 0), .ref (ad 12 0)])), (ad 10 0, .inr (2, [.ref (ad 10 1), .ref (ad 10 2), .long (lN q3)])), (ad 10 1, .inl (cJ, 5, .inr (.inl (fun i9 => lN (q1 i9))))), (ad 10 2, .inl (cJ, 5, .inr (.inl (fun i9 => lN (q2 i9))))), (ad 12 0, .inl (cI, 5, .inl (fun i9 => nI (cq i9)))), (ad 4 0, .inr (1, [.ref ((ad 4) 1), .ref ((ad 4) 2), .int (nI rk), .int (nI sl)])), (ad 4 1, .inl (cI, 7, .inl (fun i9 => nI (kd i9)))), (ad 4 2, .inl (cI, 175, .inl (fun i9 => nI (tn i9))))] := hD
    have hl : lv_has ls 4 [(2, .int (nI o)), (0, .ref (ad 0 0)), (1, .int (nI k))] := hl
    refine lv_iload_n hx hb dX9_code_15 rfl (lv_at hl 0 rfl) ?_
    refine lv_iconst (v := nI 5) hx hb dX9_code_16 (by decide) ?_
    refine lv_icmp_ge (tgt := 38) hx hb dX9_code_17 (by decide) (fun c_17 => ?_) (fun c_17 => ?_)
    · skip
      have c_17 := n_geT c_17 (by omega) (by omega)
      have ho5 : o = 5 := by omega
      subst ho5
      have hcm : ∀ j, j < 5 → cq j < 32 := fun j hj => by rw [hcq j hj]; exact comN_lt _ 5
      refine lv_iconst (v := nI 0) hx hb dX9_code_38 (by decide) ?_
      refine lv_istore_n (lv' := [(2, .int (nI 0)), (0, .ref (ad 0 0)), (1, .int (nI k))]) hx hb dX9_code_39 rfl hl (by decide) rfl (fun ls hl => ?_)
      refine lv_iconst (v := nI 1) hx hb dX9_code_40 (by decide) ?_
      refine lv_istore_n (lv' := [(3, .int (nI 1)), (2, .int (nI 0)), (0, .ref (ad 0 0)), (1, .int (nI k))]) hx hb dX9_code_41 rfl hl (by decide) rfl (fun ls hl => ?_)
      have hl : lv_has ls 4 [(3, .int (nI 1)), (2, .int (nI (codeN cq 1))), (0, .ref (ad 0 0)), (1, .int (nI k))] := by rw [codeN_1]; exact hl
      refine loopW (σ := Nat) 42 (fun (n : Nat) H locs ls => (1 ≤ n) ∧ (n ≤ 32) ∧ va_P G vwCl [(ad 0 0, .inr (9, [.ref (ad 1 0), .ref (ad 2 0), .ref (ad 4 0), .ref (ad 5 0), .ref (ad 6 0), .ref (ad 7 0), .ref (ad 8 0), .ref (ad 9 0), .ref (ad 10 0), .ref (ad 11 0), .ref (ad 12 0)])), (ad 10 0, .inr (2, [.ref (ad 10 1), .ref (ad 10 2), .long (lN q3)])), (ad 10 1, .inl (cJ, 5, .inr (.inl (fun i9 => lN (q1 i9))))), (ad 10 2, .inl (cJ, 5, .inr (.inl (fun i9 => lN (q2 i9))))), (ad 12 0, .inl (cI, 5, .inl (fun i9 => nI (cq i9)))), (ad 4 0, .inr (1, [.ref ((ad 4) 1), .ref ((ad 4) 2), .int (nI rk), .int (nI sl)])), (ad 4 1, .inl (cI, 7, .inl (fun i9 => nI (kd i9)))), (ad 4 2, .inl (cI, 175, .inl (fun i9 => nI (tn i9))))] H ∧ va_D A [(ad 0 0, .inr (9, [.ref (ad 1 0), .ref (ad 2 0), .ref (ad 4 0), .ref (ad 5 0), .ref (ad 6 0), .ref (ad 7 0), .ref (ad 8 0), .ref (ad 9 0), .ref (ad 10 0), .ref (ad 11 0), .ref (ad 12 0)])), (ad 10 0, .inr (2, [.ref (ad 10 1), .ref (ad 10 2), .long (lN q3)])), (ad 10 1, .inl (cJ, 5, .inr (.inl (fun i9 => lN (q1 i9))))), (ad 10 2, .inl (cJ, 5, .inr (.inl (fun i9 => lN (q2 i9))))), (ad 12 0, .inl (cI, 5, .inl (fun i9 => nI (cq i9)))), (ad 4 0, .inr (1, [.ref ((ad 4) 1), .ref ((ad 4) 2), .int (nI rk), .int (nI sl)])), (ad 4 1, .inl (cI, 7, .inl (fun i9 => nI (kd i9)))), (ad 4 2, .inl (cI, 175, .inl (fun i9 => nI (tn i9))))] ∧ va_S A s.heap H locs ∧ lv_has ls 4 [(3, .int (nI n)), (2, .int (nI (codeN cq n))), (0, .ref (ad 0 0)), (1, .int (nI k))]) (fun (n : Nat) => []) (fun (n : Nat) => 32 - n) ?_ 1 ⟨by first | assumption | omega | (simp; done), by first | assumption | omega | (simp; done), hP.sub [0, 1, 2, 3, 4, 5, 6, 7] rfl, hD.sub [0, 1, 2, 3, 4, 5, 6, 7] (by decide) rfl, hS, lv_sub hl [0, 1, 2, 3] rfl⟩
      intro xx9 H locs ls hI ih_42
      obtain ⟨n, rfl⟩ : ∃ z, z = xx9 := ⟨_, rfl⟩
      obtain ⟨hn1, hn, hP, hD, hS, hl⟩ := hI
      have hn1 : 1 ≤ n := hn1
      have hn : n ≤ 32 := hn
      have hP : va_P G vwCl [(ad 0 0, .inr (9, [.ref (ad 1 0), .ref (ad 2 0), .ref (ad 4 0), .ref (ad 5 0), .ref (ad 6 0), .ref (ad 7 0), .ref (ad 8 0), .ref (ad 9 0), .ref (ad 10 0), .ref (ad 11 0), .ref (ad 12 0)])), (ad 10 0, .inr (2, [.ref (ad 10 1), .ref (ad 10 2), .long (lN q3)])), (ad 10 1, .inl (cJ, 5, .inr (.inl (fun i9 => lN (q1 i9))))), (ad 10 2, .inl (cJ, 5, .inr (.inl (fun i9 => lN (q2 i9))))), (ad 12 0, .inl (cI, 5, .inl (fun i9 => nI (cq i9)))), (ad 4 0, .inr (1, [.ref ((ad 4) 1), .ref ((ad 4) 2), .int (nI rk), .int (nI sl)])), (ad 4 1, .inl (cI, 7, .inl (fun i9 => nI (kd i9)))), (ad 4 2, .inl (cI, 175, .inl (fun i9 => nI (tn i9))))] _ := hP
      have hD : va_D A [(ad 0 0, .inr (9, [.ref (ad 1 0), .ref (ad 2 0), .ref (ad 4 0), .ref (ad 5 0), .ref (ad 6 0), .ref (ad 7 0), .ref (ad 8 0), .ref (ad 9 0), .ref (ad 10 0), .ref (ad 11 0), .ref (ad 12 0)])), (ad 10 0, .inr (2, [.ref (ad 10 1), .ref (ad 10 2), .long (lN q3)])), (ad 10 1, .inl (cJ, 5, .inr (.inl (fun i9 => lN (q1 i9))))), (ad 10 2, .inl (cJ, 5, .inr (.inl (fun i9 => lN (q2 i9))))), (ad 12 0, .inl (cI, 5, .inl (fun i9 => nI (cq i9)))), (ad 4 0, .inr (1, [.ref ((ad 4) 1), .ref ((ad 4) 2), .int (nI rk), .int (nI sl)])), (ad 4 1, .inl (cI, 7, .inl (fun i9 => nI (kd i9)))), (ad 4 2, .inl (cI, 175, .inl (fun i9 => nI (tn i9))))] := hD
      have hl : lv_has ls 4 [(3, .int (nI n)), (2, .int (nI (codeN cq n))), (0, .ref (ad 0 0)), (1, .int (nI k))] := hl
      refine lv_iload_n hx hb dX9_code_42 rfl (lv_at hl 0 rfl) ?_
      refine lv_bipush (v := nI 32) hx hb dX9_code_43 (by decide) ?_
      refine lv_icmp_ge (tgt := 75) hx hb dX9_code_45 (by decide) (fun c_45 => ?_) (fun c_45 => ?_)
      · skip
        have c_45 := n_geT c_45 (by omega) (by omega)
        refine lv_iload_n hx hb dX9_code_75 rfl (lv_at hl 1 rfl) ?_
        exact endI hx hb hr hlocks ((q1, q2, q3, cq)) (An1_ok (by omega) hk (by rw [show n = 32 by omega]; exact congrArg nI (codeN_congr hcq 32))) (hP.sub [0, 5, 6, 7, 1, 2, 3, 4] rfl) (hD.sub [0, 5, 6, 7, 1, 2, 3, 4] (by decide) rfl) hS dX9_code_76
      · skip
        have c_45 := n_geF c_45 (by omega) (by omega)
        have hb9 := codeN_lt (cm := cq) hn
        have hb8 := popN_lt n
        have hb7 := popN_lt (codeN cq n)
        refine lv_iload_n hx hb dX9_code_48 rfl (lv_at hl 0 rfl) ?_
        refine aft_i (wr := [(ad 0 0, .inr (9, [.ref (ad 1 0), .ref (ad 2 0), .ref (ad 4 0), .ref (ad 5 0), .ref (ad 6 0), .ref (ad 7 0), .ref (ad 8 0), .ref (ad 9 0), .ref (ad 10 0), .ref (ad 11 0), .ref (ad 12 0)])), (ad 10 0, .inr (2, [.ref (ad 10 1), .ref (ad 10 2), .long (lN q3)])), (ad 10 1, .inl (cJ, 5, .inr (.inl (fun i9 => lN (q1 i9))))), (ad 10 2, .inl (cJ, 5, .inr (.inl (fun i9 => lN (q2 i9))))), (ad 12 0, .inl (cI, 5, .inl (fun i9 => nI (cq i9)))), (ad 4 0, .inr (1, [.ref ((ad 4) 1), .ref ((ad 4) 2), .int (nI rk), .int (nI sl)])), (ad 4 1, .inl (cI, 7, .inl (fun i9 => nI (kd i9)))), (ad 4 2, .inl (cI, 175, .inl (fun i9 => nI (tn i9))))]) (va_runS (As := [.int (nI n)]) (rest := []) ⟨hx, hb, hml, hown, hts⟩ (c_J6_bitCount_0f7a4 (x0 := n) (hx0 := by first | assumption | omega | exact hok.1 _ (by omega) | exact hok.2.2 _ _ (by omega) (by omega) | exact hok.2.1) _) (va_cwS 1 hts gX9_code_J6_bitCount_0f7a4 rfl rfl rfl (by decide +kernel) ⟨Nat.le_of_ble_eq_true rfl, Nat.le_of_ble_eq_true rfl⟩) (preS hK hP hD [] rfl rfl) rfl rfl hl.1 rfl (lv_room (Nat.le_of_ble_eq_true rfl)) dX9_code_49 ⟨Nat.le_of_ble_eq_true rfl, Nat.le_of_ble_eq_true rfl⟩) hP hD hS hA [] [0, 1, 2, 3, 4, 5, 6, 7] rfl rfl rfl (by decide) (fun r_49 uu9 H locs hw hP hD hS => ?_)
        have hP : va_P G vwCl [(ad 0 0, .inr (9, [.ref (ad 1 0), .ref (ad 2 0), .ref (ad 4 0), .ref (ad 5 0), .ref (ad 6 0), .ref (ad 7 0), .ref (ad 8 0), .ref (ad 9 0), .ref (ad 10 0), .ref (ad 11 0), .ref (ad 12 0)])), (ad 10 0, .inr (2, [.ref (ad 10 1), .ref (ad 10 2), .long (lN q3)])), (ad 10 1, .inl (cJ, 5, .inr (.inl (fun i9 => lN (q1 i9))))), (ad 10 2, .inl (cJ, 5, .inr (.inl (fun i9 => lN (q2 i9))))), (ad 12 0, .inl (cI, 5, .inl (fun i9 => nI (cq i9)))), (ad 4 0, .inr (1, [.ref ((ad 4) 1), .ref ((ad 4) 2), .int (nI rk), .int (nI sl)])), (ad 4 1, .inl (cI, 7, .inl (fun i9 => nI (kd i9)))), (ad 4 2, .inl (cI, 175, .inl (fun i9 => nI (tn i9))))] _ := hP
        have hD : va_D A [(ad 0 0, .inr (9, [.ref (ad 1 0), .ref (ad 2 0), .ref (ad 4 0), .ref (ad 5 0), .ref (ad 6 0), .ref (ad 7 0), .ref (ad 8 0), .ref (ad 9 0), .ref (ad 10 0), .ref (ad 11 0), .ref (ad 12 0)])), (ad 10 0, .inr (2, [.ref (ad 10 1), .ref (ad 10 2), .long (lN q3)])), (ad 10 1, .inl (cJ, 5, .inr (.inl (fun i9 => lN (q1 i9))))), (ad 10 2, .inl (cJ, 5, .inr (.inl (fun i9 => lN (q2 i9))))), (ad 12 0, .inl (cI, 5, .inl (fun i9 => nI (cq i9)))), (ad 4 0, .inr (1, [.ref ((ad 4) 1), .ref ((ad 4) 2), .int (nI rk), .int (nI sl)])), (ad 4 1, .inl (cI, 7, .inl (fun i9 => nI (kd i9)))), (ad 4 2, .inl (cI, 175, .inl (fun i9 => nI (tn i9))))] := hD
        obtain rfl := hw
        refine top_i (y := nI (popN n)) rfl ?_
        refine lv_iload_n hx hb dX9_code_52 rfl (lv_at hl 1 rfl) ?_
        refine aft_i (wr := [(ad 0 0, .inr (9, [.ref (ad 1 0), .ref (ad 2 0), .ref (ad 4 0), .ref (ad 5 0), .ref (ad 6 0), .ref (ad 7 0), .ref (ad 8 0), .ref (ad 9 0), .ref (ad 10 0), .ref (ad 11 0), .ref (ad 12 0)])), (ad 10 0, .inr (2, [.ref (ad 10 1), .ref (ad 10 2), .long (lN q3)])), (ad 10 1, .inl (cJ, 5, .inr (.inl (fun i9 => lN (q1 i9))))), (ad 10 2, .inl (cJ, 5, .inr (.inl (fun i9 => lN (q2 i9))))), (ad 12 0, .inl (cI, 5, .inl (fun i9 => nI (cq i9)))), (ad 4 0, .inr (1, [.ref ((ad 4) 1), .ref ((ad 4) 2), .int (nI rk), .int (nI sl)])), (ad 4 1, .inl (cI, 7, .inl (fun i9 => nI (kd i9)))), (ad 4 2, .inl (cI, 175, .inl (fun i9 => nI (tn i9))))]) (va_runS (As := [.int (nI (codeN cq n))]) (rest := [.int (nI (popN n))]) ⟨hx, hb, hml, hown, hts⟩ (c_J6_bitCount_0f7a4 (x0 := codeN cq n) (hx0 := by first | assumption | omega | exact hok.1 _ (by omega) | exact hok.2.2 _ _ (by omega) (by omega) | exact hok.2.1) _) (va_cwS 1 hts gX9_code_J6_bitCount_0f7a4 rfl rfl rfl (by decide +kernel) ⟨Nat.le_of_ble_eq_true rfl, Nat.le_of_ble_eq_true rfl⟩) (preS hK hP hD [] rfl rfl) rfl rfl hl.1 rfl (lv_room (Nat.le_of_ble_eq_true rfl)) dX9_code_53 ⟨Nat.le_of_ble_eq_true rfl, Nat.le_of_ble_eq_true rfl⟩) hP hD hS hA [] [0, 1, 2, 3, 4, 5, 6, 7] rfl rfl rfl (by decide) (fun r_53 uu9 H locs hw hP hD hS => ?_)
        have hP : va_P G vwCl [(ad 0 0, .inr (9, [.ref (ad 1 0), .ref (ad 2 0), .ref (ad 4 0), .ref (ad 5 0), .ref (ad 6 0), .ref (ad 7 0), .ref (ad 8 0), .ref (ad 9 0), .ref (ad 10 0), .ref (ad 11 0), .ref (ad 12 0)])), (ad 10 0, .inr (2, [.ref (ad 10 1), .ref (ad 10 2), .long (lN q3)])), (ad 10 1, .inl (cJ, 5, .inr (.inl (fun i9 => lN (q1 i9))))), (ad 10 2, .inl (cJ, 5, .inr (.inl (fun i9 => lN (q2 i9))))), (ad 12 0, .inl (cI, 5, .inl (fun i9 => nI (cq i9)))), (ad 4 0, .inr (1, [.ref ((ad 4) 1), .ref ((ad 4) 2), .int (nI rk), .int (nI sl)])), (ad 4 1, .inl (cI, 7, .inl (fun i9 => nI (kd i9)))), (ad 4 2, .inl (cI, 175, .inl (fun i9 => nI (tn i9))))] _ := hP
        have hD : va_D A [(ad 0 0, .inr (9, [.ref (ad 1 0), .ref (ad 2 0), .ref (ad 4 0), .ref (ad 5 0), .ref (ad 6 0), .ref (ad 7 0), .ref (ad 8 0), .ref (ad 9 0), .ref (ad 10 0), .ref (ad 11 0), .ref (ad 12 0)])), (ad 10 0, .inr (2, [.ref (ad 10 1), .ref (ad 10 2), .long (lN q3)])), (ad 10 1, .inl (cJ, 5, .inr (.inl (fun i9 => lN (q1 i9))))), (ad 10 2, .inl (cJ, 5, .inr (.inl (fun i9 => lN (q2 i9))))), (ad 12 0, .inl (cI, 5, .inl (fun i9 => nI (cq i9)))), (ad 4 0, .inr (1, [.ref ((ad 4) 1), .ref ((ad 4) 2), .int (nI rk), .int (nI sl)])), (ad 4 1, .inl (cI, 7, .inl (fun i9 => nI (kd i9)))), (ad 4 2, .inl (cI, 175, .inl (fun i9 => nI (tn i9))))] := hD
        obtain rfl := hw
        refine top_i (y := nI (popN (codeN cq n))) rfl ?_
        refine lv_icmp_le (tgt := 69) hx hb dX9_code_56 (by decide) (fun c_56 => ?_) (fun c_56 => ?_)
        · skip
          have c_56 := n_leT c_56 (by omega) (by omega)
          have hl : lv_has ls 4 [(3, .int (nI n)), (2, .int (nI (codeN cq (n + 1)))), (0, .ref (ad 0 0)), (1, .int (nI k))] := by first | (rw [codeN_y c_56 c_64]; exact hl) | (rw [codeN_n (fun z => c_64 z.2)]; exact hl) | (rw [codeN_n (fun z => by omega)]; exact hl)
          refine lv_iinc (v := nI (n + 1)) (lv' := [(3, .int (nI (n + 1))), (2, .int (nI (codeN cq (n + 1)))), (0, .ref (ad 0 0)), (1, .int (nI k))]) hx hb dX9_code_69 hl (k := 0) rfl (nI_inc _ 1 1 (by decide)) (by decide) rfl (fun ls hl => ?_)
          refine lv_goto (tgt := 42) hx hb dX9_code_72 (by decide) ?_
          exact ih_42 (n + 1) _ _ _ (by first | omega | (simp only []; omega) | (show _ < _; omega)) ⟨by first | assumption | omega | (simp; done), by first | assumption | omega | (simp; done), hP.sub [0, 1, 2, 3, 4, 5, 6, 7] rfl, hD.sub [0, 1, 2, 3, 4, 5, 6, 7] (by decide) rfl, hS, lv_sub hl [0, 1, 2, 3] rfl⟩
        · skip
          have c_56 := n_leF c_56 (by omega) (by omega)
          refine lv_aload_n hx hb dX9_code_59 rfl (lv_at hl 2 rfl) ?_
          refine lv_iload_n hx hb dX9_code_60 rfl (lv_at hl 0 rfl) ?_
          refine aft_i (wr := [(ad 10 0, .inr (2, [.ref (ad 10 1), .ref (ad 10 2), .long (lN q3)])), (ad 10 1, .inl (cJ, 5, .inr (.inl (fun i9 => lN (q1 i9))))), (ad 10 2, .inl (cJ, 5, .inr (.inl (fun i9 => lN (q2 i9))))), (ad 4 0, .inr (1, [.ref ((ad 4) 1), .ref ((ad 4) 2), .int (nI rk), .int (nI sl)])), (ad 4 1, .inl (cI, 7, .inl (fun i9 => nI (kd i9)))), (ad 4 2, .inl (cI, 175, .inl (fun i9 => nI (tn i9))))]) (va_runV (As := [.int (nI n)]) (rest := []) ⟨hx, hb, hml, hown, hts⟩ (c_X9_areApart (ad := ad) (cm := cq) (q := n) (hq := by first | assumption | omega | exact hok.1 _ (by omega) | exact hok.2.2 _ _ (by omega) (by omega) | exact hok.2.1) (hcm := by first | assumption | omega | exact hok.1 _ (by omega) | exact hok.2.2 _ _ (by omega) (by omega) | exact hok.2.1) _) (cwV 1 hts gX9_code_X9_areApart rfl rfl rfl (by decide +kernel) ⟨Nat.le_of_ble_eq_true rfl, Nat.le_of_ble_eq_true rfl⟩) (preV (cq := (RX9, TX9, 11)) (q0 := 0) (ci := 9) hK hP hD [0, 4] rfl rfl rfl rfl) rfl rfl hl.1 rfl (lv_room (Nat.le_of_ble_eq_true rfl)) dX9_code_61 ⟨Nat.le_of_ble_eq_true rfl, Nat.le_of_ble_eq_true rfl⟩) hP hD hS hA [0, 4] [1, 2, 3, 5, 6, 7] rfl rfl rfl (by decide) (fun r_61 uu9 H locs hw hP hD hS => ?_)
          have hP : va_P G vwCl [(ad 10 0, .inr (2, [.ref (ad 10 1), .ref (ad 10 2), .long (lN q3)])), (ad 10 1, .inl (cJ, 5, .inr (.inl (fun i9 => lN (q1 i9))))), (ad 10 2, .inl (cJ, 5, .inr (.inl (fun i9 => lN (q2 i9))))), (ad 4 0, .inr (1, [.ref ((ad 4) 1), .ref ((ad 4) 2), .int (nI rk), .int (nI sl)])), (ad 4 1, .inl (cI, 7, .inl (fun i9 => nI (kd i9)))), (ad 4 2, .inl (cI, 175, .inl (fun i9 => nI (tn i9)))), (ad 0 0, .inr (9, [.ref (ad 1 0), .ref (ad 2 0), .ref (ad 4 0), .ref (ad 5 0), .ref (ad 6 0), .ref (ad 7 0), .ref (ad 8 0), .ref (ad 9 0), .ref (ad 10 0), .ref (ad 11 0), .ref (ad 12 0)])), (ad 12 0, .inl (cI, 5, .inl (fun i9 => nI (cq i9))))] _ := hP
          have hD : va_D A [(ad 10 0, .inr (2, [.ref (ad 10 1), .ref (ad 10 2), .long (lN q3)])), (ad 10 1, .inl (cJ, 5, .inr (.inl (fun i9 => lN (q1 i9))))), (ad 10 2, .inl (cJ, 5, .inr (.inl (fun i9 => lN (q2 i9))))), (ad 4 0, .inr (1, [.ref ((ad 4) 1), .ref ((ad 4) 2), .int (nI rk), .int (nI sl)])), (ad 4 1, .inl (cI, 7, .inl (fun i9 => nI (kd i9)))), (ad 4 2, .inl (cI, 175, .inl (fun i9 => nI (tn i9)))), (ad 0 0, .inr (9, [.ref (ad 1 0), .ref (ad 2 0), .ref (ad 4 0), .ref (ad 5 0), .ref (ad 6 0), .ref (ad 7 0), .ref (ad 8 0), .ref (ad 9 0), .ref (ad 10 0), .ref (ad 11 0), .ref (ad 12 0)])), (ad 12 0, .inl (cI, 5, .inl (fun i9 => nI (cq i9))))] := hD
          obtain rfl := hw
          refine top_i (y := bI (apt cq n)) rfl ?_
          refine lv_if_eq (tgt := 69) hx hb dX9_code_64 (by decide) (fun c_64 => ?_) (fun c_64 => ?_)
          · skip
            have c_64 := bI_f c_64
            have hl : lv_has ls 4 [(3, .int (nI n)), (2, .int (nI (codeN cq (n + 1)))), (0, .ref (ad 0 0)), (1, .int (nI k))] := by first | (rw [codeN_y c_56 c_64]; exact hl) | (rw [codeN_n (fun z => c_64 z.2)]; exact hl) | (rw [codeN_n (fun z => by omega)]; exact hl)
            refine lv_iinc (v := nI (n + 1)) (lv' := [(3, .int (nI (n + 1))), (2, .int (nI (codeN cq (n + 1)))), (0, .ref (ad 0 0)), (1, .int (nI k))]) hx hb dX9_code_69 hl (k := 0) rfl (nI_inc _ 1 1 (by decide)) (by decide) rfl (fun ls hl => ?_)
            refine lv_goto (tgt := 42) hx hb dX9_code_72 (by decide) ?_
            exact ih_42 (n + 1) _ _ _ (by first | omega | (simp only []; omega) | (show _ < _; omega)) ⟨by first | assumption | omega | (simp; done), by first | assumption | omega | (simp; done), hP.sub [6, 0, 1, 2, 7, 3, 4, 5] rfl, hD.sub [6, 0, 1, 2, 7, 3, 4, 5] (by decide) rfl, hS, lv_sub hl [0, 1, 2, 3] rfl⟩
          · skip
            have c_64 := bI_t c_64
            refine lv_iload_n hx hb dX9_code_67 rfl (lv_at hl 0 rfl) ?_
            refine lv_istore_n (lv' := [(2, .int (nI n)), (3, .int (nI n)), (0, .ref (ad 0 0)), (1, .int (nI k))]) hx hb dX9_code_68 rfl hl (by decide) rfl (fun ls hl => ?_)
            have hl : lv_has ls 4 [(2, .int (nI (codeN cq (n + 1)))), (3, .int (nI n)), (0, .ref (ad 0 0)), (1, .int (nI k))] := by first | (rw [codeN_y c_56 c_64]; exact hl) | (rw [codeN_n (fun z => c_64 z.2)]; exact hl) | (rw [codeN_n (fun z => by omega)]; exact hl)
            refine lv_iinc (v := nI (n + 1)) (lv' := [(3, .int (nI (n + 1))), (2, .int (nI (codeN cq (n + 1)))), (0, .ref (ad 0 0)), (1, .int (nI k))]) hx hb dX9_code_69 hl (k := 1) rfl (nI_inc _ 1 1 (by decide)) (by decide) rfl (fun ls hl => ?_)
            refine lv_goto (tgt := 42) hx hb dX9_code_72 (by decide) ?_
            exact ih_42 (n + 1) _ _ _ (by first | omega | (simp only []; omega) | (show _ < _; omega)) ⟨by first | assumption | omega | (simp; done), by first | assumption | omega | (simp; done), hP.sub [6, 0, 1, 2, 7, 3, 4, 5] rfl, hD.sub [6, 0, 1, 2, 7, 3, 4, 5] (by decide) rfl, hS, lv_sub hl [0, 1, 2, 3] rfl⟩
    · skip
      have c_17 := n_geF c_17 (by omega) (by omega)
      refine lv_aload_n hx hb dX9_code_20 rfl (lv_at hl 1 rfl) ?_
      refine va_get (D := G) (ci := 9) (v := .ref (ad 12 0)) (C := RX9) (T := TX9) (N := 11) hx hb hts hin9 hown hK.1 hP 0 rfl rfl 10 (by decide) k_1 (fun _ h9 => h9) rfl dX9_code_21 ?_
      refine lv_iload_n hx hb dX9_code_24 rfl (lv_at hl 0 rfl) ?_
      refine lv_aload_n hx hb dX9_code_25 rfl (lv_at hl 1 rfl) ?_
      refine lv_iload_n hx hb dX9_code_26 rfl (lv_at hl 2 rfl) ?_
      refine lv_iload_n hx hb dX9_code_27 rfl (lv_at hl 0 rfl) ?_
      refine aft_i (wr := [(ad 12 0, .inl (cI, 5, .inl (fun i9 => nI (cq i9))))]) (va_runV (As := [.int (nI k), .int (nI o)]) (rest := [.int (nI o), .ref (ad 12 0)]) ⟨hx, hb, hml, hown, hts⟩ (c_X9_comingOrders (ad := ad) (kd := kd) (tn := tn) (rk := rk) (sl := sl) (pa := q1) (on := q2) (wh := q3) (k := k) (o := o) (hok := by first | assumption | omega | exact hok.1 _ (by omega) | exact hok.2.2 _ _ (by omega) (by omega) | exact hok.2.1) (hk := by first | assumption | omega | exact hok.1 _ (by omega) | exact hok.2.2 _ _ (by omega) (by omega) | exact hok.2.1) (ho := by first | assumption | omega | exact hok.1 _ (by omega) | exact hok.2.2 _ _ (by omega) (by omega) | exact hok.2.1) _) (cwV 2 hts gX9_code_X9_comingOrders rfl rfl rfl (by decide +kernel) ⟨Nat.le_of_ble_eq_true rfl, Nat.le_of_ble_eq_true rfl⟩) (preV (cq := (RX9, TX9, 11)) (q0 := 0) (ci := 9) hK hP hD [0, 5, 6, 7, 1, 2, 3] rfl rfl rfl rfl) rfl rfl hl.1 rfl (lv_room (Nat.le_of_ble_eq_true rfl)) dX9_code_28 ⟨Nat.le_of_ble_eq_true rfl, Nat.le_of_ble_eq_true rfl⟩) hP hD hS hA [0, 5, 6, 7, 1, 2, 3] [4] rfl rfl rfl (by decide) (fun r_28 uu9 H locs hw hP hD hS => ?_)
      obtain ⟨p1_28, o1_28⟩ := uu9
      have hP : va_P G vwCl [(ad 12 0, .inl (cI, 5, .inl (fun i9 => nI (cq i9)))), (ad 0 0, .inr (9, [.ref (ad 1 0), .ref (ad 2 0), .ref (ad 4 0), .ref (ad 5 0), .ref (ad 6 0), .ref (ad 7 0), .ref (ad 8 0), .ref (ad 9 0), .ref (ad 10 0), .ref (ad 11 0), .ref (ad 12 0)])), (ad 4 0, .inr (1, [.ref (ad 4 1), .ref (ad 4 2), .int (nI rk), .int (nI sl)])), (ad 4 1, .inl (cI, 7, .inl (fun i9 => nI (kd i9)))), (ad 4 2, .inl (cI, 175, .inl (fun i9 => nI (tn i9)))), (ad 10 0, .inr (2, [.ref (ad 10 1), .ref (ad 10 2), .long (lN (10 ^ (k - 0)))])), (ad 10 1, .inl (cJ, 5, .inr (.inl (fun i9 => lN (p1_28 i9))))), (ad 10 2, .inl (cJ, 5, .inr (.inl (fun i9 => lN (o1_28 i9)))))] _ := hP
      have hD : va_D A [(ad 12 0, .inl (cI, 5, .inl (fun i9 => nI (cq i9)))), (ad 0 0, .inr (9, [.ref (ad 1 0), .ref (ad 2 0), .ref (ad 4 0), .ref (ad 5 0), .ref (ad 6 0), .ref (ad 7 0), .ref (ad 8 0), .ref (ad 9 0), .ref (ad 10 0), .ref (ad 11 0), .ref (ad 12 0)])), (ad 4 0, .inr (1, [.ref (ad 4 1), .ref (ad 4 2), .int (nI rk), .int (nI sl)])), (ad 4 1, .inl (cI, 7, .inl (fun i9 => nI (kd i9)))), (ad 4 2, .inl (cI, 175, .inl (fun i9 => nI (tn i9)))), (ad 10 0, .inr (2, [.ref (ad 10 1), .ref (ad 10 2), .long (lN (10 ^ (k - 0)))])), (ad 10 1, .inl (cJ, 5, .inr (.inl (fun i9 => lN (p1_28 i9))))), (ad 10 2, .inl (cJ, 5, .inr (.inl (fun i9 => lN (o1_28 i9)))))] := hD
      obtain rfl := hw
      refine top_i (y := nI (comN (spP tn kd 0 o k) 5)) rfl ?_
      refine ast (f' := fun i9 => nI ((va_up cq o (comN (spP tn kd 0 o k) 5)) i9)) hx hb hK hP hD hS 0 0 rfl rfl (j := o) (by omega) (by omega) (upd_nat) dX9_code_31 (fun H locs hP hD hS => ?_)
      have hP : va_P G vwCl [(ad 12 0, .inl (cI, 5, .inl (fun i9 => nI ((va_up cq o (comN (spP tn kd 0 o k) 5)) i9)))), (ad 0 0, .inr (9, [.ref (ad 1 0), .ref (ad 2 0), .ref (ad 4 0), .ref (ad 5 0), .ref (ad 6 0), .ref (ad 7 0), .ref (ad 8 0), .ref (ad 9 0), .ref (ad 10 0), .ref (ad 11 0), .ref (ad 12 0)])), (ad 4 0, .inr (1, [.ref (ad 4 1), .ref (ad 4 2), .int (nI rk), .int (nI sl)])), (ad 4 1, .inl (cI, 7, .inl (fun i9 => nI (kd i9)))), (ad 4 2, .inl (cI, 175, .inl (fun i9 => nI (tn i9)))), (ad 10 0, .inr (2, [.ref (ad 10 1), .ref (ad 10 2), .long (lN (10 ^ (k - 0)))])), (ad 10 1, .inl (cJ, 5, .inr (.inl (fun i9 => lN (p1_28 i9))))), (ad 10 2, .inl (cJ, 5, .inr (.inl (fun i9 => lN (o1_28 i9)))))] _ := hP
      have hD : va_D A [(ad 12 0, .inl (cI, 5, .inl (fun i9 => nI ((va_up cq o (comN (spP tn kd 0 o k) 5)) i9)))), (ad 0 0, .inr (9, [.ref (ad 1 0), .ref (ad 2 0), .ref (ad 4 0), .ref (ad 5 0), .ref (ad 6 0), .ref (ad 7 0), .ref (ad 8 0), .ref (ad 9 0), .ref (ad 10 0), .ref (ad 11 0), .ref (ad 12 0)])), (ad 4 0, .inr (1, [.ref (ad 4 1), .ref (ad 4 2), .int (nI rk), .int (nI sl)])), (ad 4 1, .inl (cI, 7, .inl (fun i9 => nI (kd i9)))), (ad 4 2, .inl (cI, 175, .inl (fun i9 => nI (tn i9)))), (ad 10 0, .inr (2, [.ref (ad 10 1), .ref (ad 10 2), .long (lN (10 ^ (k - 0)))])), (ad 10 1, .inl (cJ, 5, .inr (.inl (fun i9 => lN (p1_28 i9))))), (ad 10 2, .inl (cJ, 5, .inr (.inl (fun i9 => lN (o1_28 i9)))))] := hD
      refine lv_iinc (v := nI (o + 1)) (lv' := [(2, .int (nI (o + 1))), (0, .ref (ad 0 0)), (1, .int (nI k))]) hx hb dX9_code_32 hl (k := 0) rfl (nI_inc _ 1 1 (by decide)) (by decide) rfl (fun ls hl => ?_)
      refine lv_goto (tgt := 15) hx hb dX9_code_35 (by decide) ?_
      exact ih_15 (o + 1, p1_28, o1_28, (10 ^ (k - 0)), va_up cq o (comN (spP tn kd 0 o k) 5)) _ _ _ (by first | omega | (simp only []; omega) | (show _ < _; omega)) ⟨by first | assumption | omega | (simp; done), up_fn hcq, hP.sub [1, 5, 6, 7, 0, 2, 3, 4] rfl, hD.sub [1, 5, 6, 7, 0, 2, 3, 4] (by decide) rfl, hS, lv_sub hl [0, 1, 2] rfl⟩
  · skip
    have c_8 := bI_f c_8
    refine lv_iconst (v := (-1)) hx hb dX9_code_11 (by decide) ?_
    exact endI hx hb hr hlocks ((pa, on, wh, cm)) (An1_no c_8) (hP.sub [0, 5, 6, 7, 1, 2, 3, 4] rfl) (hD.sub [0, 5, 6, 7, 1, 2, 3, 4] (by decide) rfl) hS dX9_code_12

set_option maxHeartbeats 4000000 in
set_option maxRecDepth 100000 in
theorem c_X9_twoOfThree {l : Launch} {G : va_G} {cI cJ cZ cS : ClassId} (ad : Nat → Nat → Nat) (kd : Nat → Nat) (tn : Nat → Nat) (rk : Nat) (sl : Nat) (pa : Nat → Nat) (on : Nat → Nat) (wh : Nat) (r : Int32) (u : Int32) (z : Int32) (hrk : rk < 8) (hok : ArmyOk kd tn) : CL l G (kT cI cJ cZ cS) (S := (Nat → Nat) × (Nat → Nat) × Nat) yX9_twoOfThree wsX9_twoOfThree { frames := 6, cells := 0, slots := 0, locals := 143 } [.ref (ad 0 0), .int r, .int u, .int z] [(ad 0 0, .inr (9, [.ref (ad 1 0), .ref (ad 2 0), .ref (ad 4 0), .ref (ad 5 0), .ref (ad 6 0), .ref (ad 7 0), .ref (ad 8 0), .ref (ad 9 0), .ref (ad 10 0), .ref (ad 11 0), .ref (ad 12 0)])), (ad 4 0, .inr (1, [.ref (ad 4 1), .ref (ad 4 2), .int (nI rk), .int (nI sl)])), (ad 4 1, .inl (cI, 7, .inl (fun i9 => nI (kd i9)))), (ad 4 2, .inl (cI, 175, .inl (fun i9 => nI (tn i9)))), (ad 10 0, .inr (2, [.ref (ad 10 1), .ref (ad 10 2), .long (lN wh)])), (ad 10 1, .inl (cJ, 5, .inr (.inl (fun i9 => lN (pa i9))))), (ad 10 2, .inl (cJ, 5, .inr (.inl (fun i9 => lN (on i9)))))] (fun res uu9 => match uu9 with | (p1, o1, w1) => An2 rk r u (fun k9 o9 => lN (t23 (spP tn kd 0 o9 k9 o9) (10 ^ k9) z)) (-1) res) (fun uu9 => match uu9 with | (p1, o1, w1) => [(ad 0 0, .inr (9, [.ref (ad 1 0), .ref (ad 2 0), .ref (ad 4 0), .ref (ad 5 0), .ref (ad 6 0), .ref (ad 7 0), .ref (ad 8 0), .ref (ad 9 0), .ref (ad 10 0), .ref (ad 11 0), .ref (ad 12 0)])), (ad 4 0, .inr (1, [.ref (ad 4 1), .ref (ad 4 2), .int (nI rk), .int (nI sl)])), (ad 4 1, .inl (cI, 7, .inl (fun i9 => nI (kd i9)))), (ad 4 2, .inl (cI, 175, .inl (fun i9 => nI (tn i9)))), (ad 10 0, .inr (2, [.ref (ad 10 1), .ref (ad 10 2), .long (lN w1)])), (ad 10 1, .inl (cJ, 5, .inr (.inl (fun i9 => lN (p1 i9))))), (ad 10 2, .inl (cJ, 5, .inr (.inl (fun i9 => lN (o1 i9)))))]) := by
  refine CL.of (cc := cX9_twoOfThree) (maxL := 8) (by decide) rfl (Nat.le_of_ble_eq_true rfl) ?_
  intro p9 e9 s m below meth co9 A ls hB
  obtain ⟨hx, hb, hml, hr, hts, hown, hlocks, hmn, hK, hP, hD, hS, hA, hl⟩ := hB
  have hP : va_P G vwCl [(ad 0 0, .inr (9, [.ref (ad 1 0), .ref (ad 2 0), .ref (ad 4 0), .ref (ad 5 0), .ref (ad 6 0), .ref (ad 7 0), .ref (ad 8 0), .ref (ad 9 0), .ref (ad 10 0), .ref (ad 11 0), .ref (ad 12 0)])), (ad 4 0, .inr (1, [.ref (ad 4 1), .ref (ad 4 2), .int (nI rk), .int (nI sl)])), (ad 4 1, .inl (cI, 7, .inl (fun i9 => nI (kd i9)))), (ad 4 2, .inl (cI, 175, .inl (fun i9 => nI (tn i9)))), (ad 10 0, .inr (2, [.ref (ad 10 1), .ref (ad 10 2), .long (lN wh)])), (ad 10 1, .inl (cJ, 5, .inr (.inl (fun i9 => lN (pa i9))))), (ad 10 2, .inl (cJ, 5, .inr (.inl (fun i9 => lN (on i9)))))] s.heap := hP
  have hD : va_D A [(ad 0 0, .inr (9, [.ref (ad 1 0), .ref (ad 2 0), .ref (ad 4 0), .ref (ad 5 0), .ref (ad 6 0), .ref (ad 7 0), .ref (ad 8 0), .ref (ad 9 0), .ref (ad 10 0), .ref (ad 11 0), .ref (ad 12 0)])), (ad 4 0, .inr (1, [.ref (ad 4 1), .ref (ad 4 2), .int (nI rk), .int (nI sl)])), (ad 4 1, .inl (cI, 7, .inl (fun i9 => nI (kd i9)))), (ad 4 2, .inl (cI, 175, .inl (fun i9 => nI (tn i9)))), (ad 10 0, .inr (2, [.ref (ad 10 1), .ref (ad 10 2), .long (lN wh)])), (ad 10 1, .inl (cJ, 5, .inr (.inl (fun i9 => lN (pa i9))))), (ad 10 2, .inl (cJ, 5, .inr (.inl (fun i9 => lN (on i9)))))] := hD
  have hl : lv_has ls 8 [(0, .ref (ad 0 0)), (1, .int r), (2, .int u), (3, .int z)] := hl
  have k_0 := hts (.fieldLink RX9 26 "HearsayMarch" "army" "LHearsayMarch$Army;") (by decide +kernel)
  have k_1 := hts (.constantLong RX9 183 (-1)) (by decide +kernel)
  have k_2 := hts (.fieldLink RX9 64 "HearsayMarch" "chances" "LHearsayMarch$Chances;") (by decide +kernel)
  have k_3 := hts (.fieldLink RX9 189 "HearsayMarch$Chances" "parts" "[J") (by decide +kernel)
  have k_4 := hts (.fieldLink RX9 193 "HearsayMarch$Chances" "whole" "J") (by decide +kernel)
  have k_5 := hts (.constantLong RX9 212 (3)) (by decide +kernel)
  have k_6 := hts (.constantLong RX9 214 (2)) (by decide +kernel)
  have hin2 : ∀ w ∈ wsX20, w ∈ wsX9_twoOfThree := by decide +kernel
  have hin9 : ∀ w ∈ wsX90, w ∈ wsX9_twoOfThree := by decide +kernel
  refine lv_aload_n hx hb dX9_twoOfThree_0 rfl (lv_at hl 0 rfl) ?_
  refine va_get (D := G) (ci := 9) (v := .ref (ad 4 0)) (C := RX9) (T := TX9) (N := 11) hx hb hts hin9 hown hK.1 hP 0 rfl rfl 2 (by decide) k_0 (fun _ h9 => h9) rfl dX9_twoOfThree_1 ?_
  refine lv_iload_n hx hb dX9_twoOfThree_4 rfl (lv_at hl 1 rfl) ?_
  refine aft_i (wr := [(ad 0 0, .inr (9, [.ref (ad 1 0), .ref (ad 2 0), .ref (ad 4 0), .ref (ad 5 0), .ref (ad 6 0), .ref (ad 7 0), .ref (ad 8 0), .ref (ad 9 0), .ref (ad 10 0), .ref (ad 11 0), .ref (ad 12 0)])), (ad 10 0, .inr (2, [.ref (ad 10 1), .ref (ad 10 2), .long (lN wh)])), (ad 10 1, .inl (cJ, 5, .inr (.inl (fun i9 => lN (pa i9))))), (ad 10 2, .inl (cJ, 5, .inr (.inl (fun i9 => lN (on i9)))))]) (va_runV (As := [.int r]) (rest := []) ⟨hx, hb, hml, hown, hts⟩ (c_X1_has (h := (ad 4)) (kd := kd) (tn := tn) (rk := rk) (sl := sl) (r := r) (hrk := by first | assumption | omega | exact hok.1 _ (by omega) | exact hok.2.2 _ _ (by omega) (by omega) | exact hok.2.1) _) (cwV 1 hts gX9_twoOfThree_X1_has rfl rfl rfl (by decide +kernel) ⟨Nat.le_of_ble_eq_true rfl, Nat.le_of_ble_eq_true rfl⟩) (preV (cq := (RX1, TX1, 4)) (q0 := 1) (ci := 1) hK hP hD [1, 2, 3] rfl rfl rfl rfl) rfl rfl hl.1 rfl (lv_room (Nat.le_of_ble_eq_true rfl)) dX9_twoOfThree_5 ⟨Nat.le_of_ble_eq_true rfl, Nat.le_of_ble_eq_true rfl⟩) hP hD hS hA [1, 2, 3] [0, 4, 5, 6] rfl rfl rfl (by decide) (fun r_5 uu9 H locs hw hP hD hS => ?_)
  have hP : va_P G vwCl [(ad 0 0, .inr (9, [.ref (ad 1 0), .ref (ad 2 0), .ref (ad 4 0), .ref (ad 5 0), .ref (ad 6 0), .ref (ad 7 0), .ref (ad 8 0), .ref (ad 9 0), .ref (ad 10 0), .ref (ad 11 0), .ref (ad 12 0)])), (ad 10 0, .inr (2, [.ref (ad 10 1), .ref (ad 10 2), .long (lN wh)])), (ad 10 1, .inl (cJ, 5, .inr (.inl (fun i9 => lN (pa i9))))), (ad 10 2, .inl (cJ, 5, .inr (.inl (fun i9 => lN (on i9))))), (ad 4 0, .inr (1, [.ref ((ad 4) 1), .ref ((ad 4) 2), .int (nI rk), .int (nI sl)])), (ad 4 1, .inl (cI, 7, .inl (fun i9 => nI (kd i9)))), (ad 4 2, .inl (cI, 175, .inl (fun i9 => nI (tn i9))))] _ := hP
  have hD : va_D A [(ad 0 0, .inr (9, [.ref (ad 1 0), .ref (ad 2 0), .ref (ad 4 0), .ref (ad 5 0), .ref (ad 6 0), .ref (ad 7 0), .ref (ad 8 0), .ref (ad 9 0), .ref (ad 10 0), .ref (ad 11 0), .ref (ad 12 0)])), (ad 10 0, .inr (2, [.ref (ad 10 1), .ref (ad 10 2), .long (lN wh)])), (ad 10 1, .inl (cJ, 5, .inr (.inl (fun i9 => lN (pa i9))))), (ad 10 2, .inl (cJ, 5, .inr (.inl (fun i9 => lN (on i9))))), (ad 4 0, .inr (1, [.ref ((ad 4) 1), .ref ((ad 4) 2), .int (nI rk), .int (nI sl)])), (ad 4 1, .inl (cI, 7, .inl (fun i9 => nI (kd i9)))), (ad 4 2, .inl (cI, 175, .inl (fun i9 => nI (tn i9))))] := hD
  obtain rfl := hw
  refine top_i (y := bI (isR rk r)) rfl ?_
  refine lv_if_eq (tgt := 18) hx hb dX9_twoOfThree_8 (by decide) (fun c_8 => ?_) (fun c_8 => ?_)
  · skip
    have c_8 := bI_f c_8
    refine lv_ldc2 (v := (-1 : Int64)) hx hb hown k_1 dX9_twoOfThree_18 ?_
    exact endL hx hb hr hlocks ((pa, on, wh)) (An2_no (fun h => c_8 h.1)) (hP.sub [0, 4, 5, 6, 1, 2, 3] rfl) (hD.sub [0, 4, 5, 6, 1, 2, 3] (by decide) rfl) hS dX9_twoOfThree_21
  · skip
    have c_8 := bI_t c_8
    obtain ⟨k, hk, rfl⟩ := c_8
    refine lv_iload_n hx hb dX9_twoOfThree_11 rfl (lv_at hl 2 rfl) ?_
    refine aft_i (wr := [(ad 0 0, .inr (9, [.ref (ad 1 0), .ref (ad 2 0), .ref (ad 4 0), .ref (ad 5 0), .ref (ad 6 0), .ref (ad 7 0), .ref (ad 8 0), .ref (ad 9 0), .ref (ad 10 0), .ref (ad 11 0), .ref (ad 12 0)])), (ad 10 0, .inr (2, [.ref (ad 10 1), .ref (ad 10 2), .long (lN wh)])), (ad 10 1, .inl (cJ, 5, .inr (.inl (fun i9 => lN (pa i9))))), (ad 10 2, .inl (cJ, 5, .inr (.inl (fun i9 => lN (on i9))))), (ad 4 0, .inr (1, [.ref ((ad 4) 1), .ref ((ad 4) 2), .int (nI rk), .int (nI sl)])), (ad 4 1, .inl (cI, 7, .inl (fun i9 => nI (kd i9)))), (ad 4 2, .inl (cI, 175, .inl (fun i9 => nI (tn i9))))]) (va_runS (As := [.int u]) (rest := []) ⟨hx, hb, hml, hown, hts⟩ (c_X9_isOrder (r := u) _) (va_cwS 1 hts gX9_twoOfThree_X9_isOrder rfl rfl rfl (by decide +kernel) ⟨Nat.le_of_ble_eq_true rfl, Nat.le_of_ble_eq_true rfl⟩) (preS hK hP hD [] rfl rfl) rfl rfl hl.1 rfl (lv_room (Nat.le_of_ble_eq_true rfl)) dX9_twoOfThree_12 ⟨Nat.le_of_ble_eq_true rfl, Nat.le_of_ble_eq_true rfl⟩) hP hD hS hA [] [0, 1, 2, 3, 4, 5, 6] rfl rfl rfl (by decide) (fun r_12 uu9 H locs hw hP hD hS => ?_)
    have hP : va_P G vwCl [(ad 0 0, .inr (9, [.ref (ad 1 0), .ref (ad 2 0), .ref (ad 4 0), .ref (ad 5 0), .ref (ad 6 0), .ref (ad 7 0), .ref (ad 8 0), .ref (ad 9 0), .ref (ad 10 0), .ref (ad 11 0), .ref (ad 12 0)])), (ad 10 0, .inr (2, [.ref (ad 10 1), .ref (ad 10 2), .long (lN wh)])), (ad 10 1, .inl (cJ, 5, .inr (.inl (fun i9 => lN (pa i9))))), (ad 10 2, .inl (cJ, 5, .inr (.inl (fun i9 => lN (on i9))))), (ad 4 0, .inr (1, [.ref ((ad 4) 1), .ref ((ad 4) 2), .int (nI rk), .int (nI sl)])), (ad 4 1, .inl (cI, 7, .inl (fun i9 => nI (kd i9)))), (ad 4 2, .inl (cI, 175, .inl (fun i9 => nI (tn i9))))] _ := hP
    have hD : va_D A [(ad 0 0, .inr (9, [.ref (ad 1 0), .ref (ad 2 0), .ref (ad 4 0), .ref (ad 5 0), .ref (ad 6 0), .ref (ad 7 0), .ref (ad 8 0), .ref (ad 9 0), .ref (ad 10 0), .ref (ad 11 0), .ref (ad 12 0)])), (ad 10 0, .inr (2, [.ref (ad 10 1), .ref (ad 10 2), .long (lN wh)])), (ad 10 1, .inl (cJ, 5, .inr (.inl (fun i9 => lN (pa i9))))), (ad 10 2, .inl (cJ, 5, .inr (.inl (fun i9 => lN (on i9))))), (ad 4 0, .inr (1, [.ref ((ad 4) 1), .ref ((ad 4) 2), .int (nI rk), .int (nI sl)])), (ad 4 1, .inl (cI, 7, .inl (fun i9 => nI (kd i9)))), (ad 4 2, .inl (cI, 175, .inl (fun i9 => nI (tn i9))))] := hD
    obtain rfl := hw
    refine top_i (y := bI (isR 5 u)) rfl ?_
    refine lv_if_ne (tgt := 22) hx hb dX9_twoOfThree_15 (by decide) (fun c_15 => ?_) (fun c_15 => ?_)
    · skip
      have c_15 := bI_t c_15
      obtain ⟨o, ho, rfl⟩ := c_15
      refine lv_aload_n hx hb dX9_twoOfThree_22 rfl (lv_at hl 0 rfl) ?_
      refine va_get (D := G) (ci := 9) (v := .ref (ad 10 0)) (C := RX9) (T := TX9) (N := 11) hx hb hts hin9 hown hK.1 hP 0 rfl rfl 8 (by decide) k_2 (fun _ h9 => h9) rfl dX9_twoOfThree_23 ?_
      refine lv_aload_n hx hb dX9_twoOfThree_26 rfl (lv_at hl 0 rfl) ?_
      refine va_get (D := G) (ci := 9) (v := .ref (ad 4 0)) (C := RX9) (T := TX9) (N := 11) hx hb hts hin9 hown hK.1 hP 0 rfl rfl 2 (by decide) k_0 (fun _ h9 => h9) rfl dX9_twoOfThree_27 ?_
      refine lv_iconst (v := nI 0) hx hb dX9_twoOfThree_30 (by decide) ?_
      refine lv_iload_n hx hb dX9_twoOfThree_31 rfl (lv_at hl 1 rfl) ?_
      refine lv_iload_n hx hb dX9_twoOfThree_32 rfl (lv_at hl 2 rfl) ?_
      refine aft_v (wr := [(ad 0 0, .inr (9, [.ref (ad 1 0), .ref (ad 2 0), .ref (ad 4 0), .ref (ad 5 0), .ref (ad 6 0), .ref (ad 7 0), .ref (ad 8 0), .ref (ad 9 0), .ref (ad 10 0), .ref (ad 11 0), .ref (ad 12 0)]))]) (va_runV (As := [.ref (ad 4 0), .int (nI 0), .int (nI k), .int (nI o)]) (rest := []) ⟨hx, hb, hml, hown, hts⟩ (c_X2_spread (g := (ad 10)) (pa := pa) (on := on) (wh := wh) (h := (ad 4)) (kd := kd) (tn := tn) (rk := rk) (sl := sl) (f := 0) (t := k) (o := o) (hok := by first | assumption | omega | exact hok.1 _ (by omega) | exact hok.2.2 _ _ (by omega) (by omega) | exact hok.2.1) (hf := by first | assumption | omega | exact hok.1 _ (by omega) | exact hok.2.2 _ _ (by omega) (by omega) | exact hok.2.1) (ht := by first | assumption | omega | exact hok.1 _ (by omega) | exact hok.2.2 _ _ (by omega) (by omega) | exact hok.2.1) (ho := by first | assumption | omega | exact hok.1 _ (by omega) | exact hok.2.2 _ _ (by omega) (by omega) | exact hok.2.1) _) (cwV 4 hts gX9_twoOfThree_X2_spread rfl rfl rfl (by decide +kernel) ⟨Nat.le_of_ble_eq_true rfl, Nat.le_of_ble_eq_true rfl⟩) (preV (cq := (RX2, TX2, 3)) (q0 := 1) (ci := 2) hK hP hD [1, 2, 3, 4, 5, 6] rfl rfl rfl rfl) rfl rfl hl.1 rfl (lv_room (Nat.le_of_ble_eq_true rfl)) dX9_twoOfThree_33 ⟨Nat.le_of_ble_eq_true rfl, Nat.le_of_ble_eq_true rfl⟩) hP hD hS hA [1, 2, 3, 4, 5, 6] [0] rfl rfl rfl (by decide) (fun uu9 H locs hw hP hD hS => ?_)
      obtain ⟨p1_33, o1_33⟩ := uu9
      have hP : va_P G vwCl [(ad 0 0, .inr (9, [.ref (ad 1 0), .ref (ad 2 0), .ref (ad 4 0), .ref (ad 5 0), .ref (ad 6 0), .ref (ad 7 0), .ref (ad 8 0), .ref (ad 9 0), .ref (ad 10 0), .ref (ad 11 0), .ref (ad 12 0)])), (ad 10 0, .inr (2, [.ref ((ad 10) 1), .ref ((ad 10) 2), .long (lN (10 ^ (k - 0)))])), (ad 10 1, .inl (cJ, 5, .inr (.inl (fun i9 => lN (p1_33 i9))))), (ad 10 2, .inl (cJ, 5, .inr (.inl (fun i9 => lN (o1_33 i9))))), (ad 4 0, .inr (1, [.ref ((ad 4) 1), .ref ((ad 4) 2), .int (nI rk), .int (nI sl)])), (ad 4 1, .inl (cI, 7, .inl (fun i9 => nI (kd i9)))), (ad 4 2, .inl (cI, 175, .inl (fun i9 => nI (tn i9))))] _ := hP
      have hD : va_D A [(ad 0 0, .inr (9, [.ref (ad 1 0), .ref (ad 2 0), .ref (ad 4 0), .ref (ad 5 0), .ref (ad 6 0), .ref (ad 7 0), .ref (ad 8 0), .ref (ad 9 0), .ref (ad 10 0), .ref (ad 11 0), .ref (ad 12 0)])), (ad 10 0, .inr (2, [.ref ((ad 10) 1), .ref ((ad 10) 2), .long (lN (10 ^ (k - 0)))])), (ad 10 1, .inl (cJ, 5, .inr (.inl (fun i9 => lN (p1_33 i9))))), (ad 10 2, .inl (cJ, 5, .inr (.inl (fun i9 => lN (o1_33 i9))))), (ad 4 0, .inr (1, [.ref ((ad 4) 1), .ref ((ad 4) 2), .int (nI rk), .int (nI sl)])), (ad 4 1, .inl (cI, 7, .inl (fun i9 => nI (kd i9)))), (ad 4 2, .inl (cI, 175, .inl (fun i9 => nI (tn i9))))] := hD
      have hw_33 : ∀ w, w < 5 → p1_33 w = spP tn kd 0 o (k - 0) w := hw
      refine lv_aload_n hx hb dX9_twoOfThree_36 rfl (lv_at hl 0 rfl) ?_
      refine va_get (D := G) (ci := 9) (v := .ref (ad 10 0)) (C := RX9) (T := TX9) (N := 11) hx hb hts hin9 hown hK.1 hP 0 rfl rfl 8 (by decide) k_2 (fun _ h9 => h9) rfl dX9_twoOfThree_37 ?_
      refine va_get (D := G) (ci := 2) (v := .ref ((ad 10) 1)) (C := RX2) (T := TX2) (N := 3) hx hb hts hin2 hown hK.1 hP 1 rfl rfl 0 (by decide) k_3 (fun _ h9 => h9) rfl dX9_twoOfThree_40 ?_
      refine lv_iload_n hx hb dX9_twoOfThree_43 rfl (lv_at hl 2 rfl) ?_
      refine lld hx hb hK hP 2 1 rfl rfl (j := o) (by omega) (by omega) dX9_twoOfThree_44 ?_
      refine top_l (y := lN (spP tn kd 0 o k o)) (congrArg lN (hw_33 o ho)) ?_
      have hb9 := spP_b (f := 0) (n := k) hok (by omega) ho o ho
      have hb8 := spP_le (f := 0) (n := k) hok (by omega) ho o ho
      have hp9 := pow_b (n := k) (by omega)
      refine lv_lstore (lv' := [(4, .long (lN (spP tn kd 0 o k o))), (0, .ref (ad 0 0)), (1, .int (nI k)), (2, .int (nI o)), (3, .int z)]) hx hb dX9_twoOfThree_45 hl (by decide) rfl (fun ls hl => ?_)
      refine lv_aload_n hx hb dX9_twoOfThree_47 rfl (lv_at hl 1 rfl) ?_
      refine va_get (D := G) (ci := 9) (v := .ref (ad 10 0)) (C := RX9) (T := TX9) (N := 11) hx hb hts hin9 hown hK.1 hP 0 rfl rfl 8 (by decide) k_2 (fun _ h9 => h9) rfl dX9_twoOfThree_48 ?_
      refine va_get (D := G) (ci := 2) (v := .long (lN (10 ^ (k - 0)))) (C := RX2) (T := TX2) (N := 3) hx hb hts hin2 hown hK.1 hP 1 rfl rfl 2 (by decide) k_4 (fun _ h9 => h9) rfl dX9_twoOfThree_51 ?_
      refine top_l (y := lN (10 ^ k)) (rfl) ?_
      refine lv_lstore (lv' := [(6, .long (lN (10 ^ k))), (4, .long (lN (spP tn kd 0 o k o))), (0, .ref (ad 0 0)), (1, .int (nI k)), (2, .int (nI o)), (3, .int z)]) hx hb dX9_twoOfThree_54 hl (by decide) rfl (fun ls hl => ?_)
      refine lv_lload hx hb dX9_twoOfThree_56 (lv_at hl 1 rfl) ?_
      refine lv_lload hx hb dX9_twoOfThree_58 (lv_at hl 1 rfl) ?_
      refine lv_lmul hx hb dX9_twoOfThree_60 ?_
      refine top_l (y := lN ((spP tn kd 0 o k o) * (spP tn kd 0 o k o))) (lN_mul _ _) ?_
      refine lv_ldc2 (v := (3 : Int64)) hx hb hown k_5 dX9_twoOfThree_61 ?_
      refine top_l (y := lN 3) (by decide) ?_
      refine lv_lload hx hb dX9_twoOfThree_64 (lv_at hl 0 rfl) ?_
      refine lv_lmul hx hb dX9_twoOfThree_66 ?_
      refine top_l (y := lN (3 * (10 ^ k))) (lN_mul _ _) ?_
      refine lv_ldc2 (v := (2 : Int64)) hx hb hown k_6 dX9_twoOfThree_67 ?_
      refine top_l (y := lN 2) (by decide) ?_
      refine lv_lload hx hb dX9_twoOfThree_70 (lv_at hl 1 rfl) ?_
      refine lv_lmul hx hb dX9_twoOfThree_72 ?_
      refine top_l (y := lN (2 * (spP tn kd 0 o k o))) (lN_mul _ _) ?_
      refine lv_lsub hx hb dX9_twoOfThree_73 ?_
      refine top_l (y := lN (3 * 10 ^ k - 2 * spP tn kd 0 o k o)) (lN_sub (by omega)) ?_
      refine lv_lmul hx hb dX9_twoOfThree_74 ?_
      refine top_l (y := lN (((spP tn kd 0 o k o) * (spP tn kd 0 o k o)) * (3 * 10 ^ k - 2 * spP tn kd 0 o k o))) (lN_mul _ _) ?_
      refine lv_lload hx hb dX9_twoOfThree_75 (lv_at hl 0 rfl) ?_
      refine lv_lload hx hb dX9_twoOfThree_77 (lv_at hl 0 rfl) ?_
      refine lv_lmul hx hb dX9_twoOfThree_79 ?_
      refine top_l (y := lN ((10 ^ k) * (10 ^ k))) (lN_mul _ _) ?_
      refine lv_lload hx hb dX9_twoOfThree_80 (lv_at hl 0 rfl) ?_
      refine lv_lmul hx hb dX9_twoOfThree_82 ?_
      refine top_l (y := lN (((10 ^ k) * (10 ^ k)) * (10 ^ k))) (lN_mul _ _) ?_
      have hm9 := t23_b hb9 hp9.2
      have hm8 := t23_c hp9.1 hp9.2
      refine lv_iload_n hx hb dX9_twoOfThree_83 rfl (lv_at hl 5 rfl) ?_
      refine aft_l (wr := [(ad 0 0, .inr (9, [.ref (ad 1 0), .ref (ad 2 0), .ref (ad 4 0), .ref (ad 5 0), .ref (ad 6 0), .ref (ad 7 0), .ref (ad 8 0), .ref (ad 9 0), .ref (ad 10 0), .ref (ad 11 0), .ref (ad 12 0)])), (ad 10 0, .inr (2, [.ref ((ad 10) 1), .ref ((ad 10) 2), .long (lN (10 ^ (k - 0)))])), (ad 10 1, .inl (cJ, 5, .inr (.inl (fun i9 => lN (p1_33 i9))))), (ad 10 2, .inl (cJ, 5, .inr (.inl (fun i9 => lN (o1_33 i9))))), (ad 4 0, .inr (1, [.ref ((ad 4) 1), .ref ((ad 4) 2), .int (nI rk), .int (nI sl)])), (ad 4 1, .inl (cI, 7, .inl (fun i9 => nI (kd i9)))), (ad 4 2, .inl (cI, 175, .inl (fun i9 => nI (tn i9))))]) (va_runS (As := [.long (lN (((spP tn kd 0 o k o) * (spP tn kd 0 o k o)) * (3 * 10 ^ k - 2 * spP tn kd 0 o k o))), .long (lN (((10 ^ k) * (10 ^ k)) * (10 ^ k))), .int z]) (rest := []) ⟨hx, hb, hml, hown, hts⟩ (c_X9_inLeastTerms (x := ((spP tn kd 0 o k o) * (spP tn kd 0 o k o)) * (3 * 10 ^ k - 2 * spP tn kd 0 o k o)) (y := ((10 ^ k) * (10 ^ k)) * (10 ^ k)) (z := z) (hx9 := hm9) (hy9 := hm8.2) (hy0 := hm8.1) _) (va_cwS 3 hts gX9_twoOfThree_X9_inLeastTerms rfl rfl rfl (by decide +kernel) ⟨Nat.le_of_ble_eq_true rfl, Nat.le_of_ble_eq_true rfl⟩) (preS hK hP hD [] rfl rfl) rfl rfl hl.1 rfl (lv_room (Nat.le_of_ble_eq_true rfl)) dX9_twoOfThree_84 ⟨Nat.le_of_ble_eq_true rfl, Nat.le_of_ble_eq_true rfl⟩) hP hD hS hA [] [0, 1, 2, 3, 4, 5, 6] rfl rfl rfl (by decide) (fun r_84 uu9 H locs hw hP hD hS => ?_)
      have hP : va_P G vwCl [(ad 0 0, .inr (9, [.ref (ad 1 0), .ref (ad 2 0), .ref (ad 4 0), .ref (ad 5 0), .ref (ad 6 0), .ref (ad 7 0), .ref (ad 8 0), .ref (ad 9 0), .ref (ad 10 0), .ref (ad 11 0), .ref (ad 12 0)])), (ad 10 0, .inr (2, [.ref ((ad 10) 1), .ref ((ad 10) 2), .long (lN (10 ^ (k - 0)))])), (ad 10 1, .inl (cJ, 5, .inr (.inl (fun i9 => lN (p1_33 i9))))), (ad 10 2, .inl (cJ, 5, .inr (.inl (fun i9 => lN (o1_33 i9))))), (ad 4 0, .inr (1, [.ref ((ad 4) 1), .ref ((ad 4) 2), .int (nI rk), .int (nI sl)])), (ad 4 1, .inl (cI, 7, .inl (fun i9 => nI (kd i9)))), (ad 4 2, .inl (cI, 175, .inl (fun i9 => nI (tn i9))))] _ := hP
      have hD : va_D A [(ad 0 0, .inr (9, [.ref (ad 1 0), .ref (ad 2 0), .ref (ad 4 0), .ref (ad 5 0), .ref (ad 6 0), .ref (ad 7 0), .ref (ad 8 0), .ref (ad 9 0), .ref (ad 10 0), .ref (ad 11 0), .ref (ad 12 0)])), (ad 10 0, .inr (2, [.ref ((ad 10) 1), .ref ((ad 10) 2), .long (lN (10 ^ (k - 0)))])), (ad 10 1, .inl (cJ, 5, .inr (.inl (fun i9 => lN (p1_33 i9))))), (ad 10 2, .inl (cJ, 5, .inr (.inl (fun i9 => lN (o1_33 i9))))), (ad 4 0, .inr (1, [.ref ((ad 4) 1), .ref ((ad 4) 2), .int (nI rk), .int (nI sl)])), (ad 4 1, .inl (cI, 7, .inl (fun i9 => nI (kd i9)))), (ad 4 2, .inl (cI, 175, .inl (fun i9 => nI (tn i9))))] := hD
      obtain rfl := hw
      refine top_l (y := lN (ltT (((spP tn kd 0 o k o) * (spP tn kd 0 o k o)) * (3 * 10 ^ k - 2 * spP tn kd 0 o k o)) (((10 ^ k) * (10 ^ k)) * (10 ^ k)) z)) rfl ?_
      exact endL hx hb hr hlocks ((p1_33, o1_33, 10 ^ k)) (An2_ok (by omega) hk ho rfl) (hP.sub [0, 4, 5, 6, 1, 2, 3] rfl) (hD.sub [0, 4, 5, 6, 1, 2, 3] (by decide) rfl) hS dX9_twoOfThree_87
    · skip
      have c_15 := bI_f c_15
      refine lv_ldc2 (v := (-1 : Int64)) hx hb hown k_1 dX9_twoOfThree_18 ?_
      exact endL hx hb hr hlocks ((pa, on, wh)) (An2_no (fun h => c_15 h.2)) (hP.sub [0, 4, 5, 6, 1, 2, 3] rfl) (hD.sub [0, 4, 5, 6, 1, 2, 3] (by decide) rfl) hS dX9_twoOfThree_21

set_option maxHeartbeats 4000000 in
set_option maxRecDepth 100000 in
theorem c_X9_help {l : Launch} {G : va_G} {cI cJ cZ cS : ClassId} (ad : Nat → Nat → Nat) (kd : Nat → Nat) (tn : Nat → Nat) (rk : Nat) (sl : Nat) (pa : Nat → Nat) (on : Nat → Nat) (wh : Nat) (u : Int32) (hrk : rk < 8) (hok : ArmyOk kd tn) : CI l G (kT cI cJ cZ cS) (S := (Nat → Nat) × (Nat → Nat) × Nat) yX9_help wsX9_help { frames := 6, cells := 0, slots := 0, locals := 143 } [.ref (ad 0 0), .int u] [(ad 0 0, .inr (9, [.ref (ad 1 0), .ref (ad 2 0), .ref (ad 4 0), .ref (ad 5 0), .ref (ad 6 0), .ref (ad 7 0), .ref (ad 8 0), .ref (ad 9 0), .ref (ad 10 0), .ref (ad 11 0), .ref (ad 12 0)])), (ad 4 0, .inr (1, [.ref (ad 4 1), .ref (ad 4 2), .int (nI rk), .int (nI sl)])), (ad 4 1, .inl (cI, 7, .inl (fun i9 => nI (kd i9)))), (ad 4 2, .inl (cI, 175, .inl (fun i9 => nI (tn i9)))), (ad 10 0, .inr (2, [.ref (ad 10 1), .ref (ad 10 2), .long (lN wh)])), (ad 10 1, .inl (cJ, 5, .inr (.inl (fun i9 => lN (pa i9))))), (ad 10 2, .inl (cJ, 5, .inr (.inl (fun i9 => lN (on i9)))))] (fun res uu9 => match uu9 with | (p1, o1, w1) => An1 5 u (fun o9 => (hlpS (hlpP tn kd rk o9) (rk - 1)).1) (-1) res) (fun uu9 => match uu9 with | (p1, o1, w1) => [(ad 0 0, .inr (9, [.ref (ad 1 0), .ref (ad 2 0), .ref (ad 4 0), .ref (ad 5 0), .ref (ad 6 0), .ref (ad 7 0), .ref (ad 8 0), .ref (ad 9 0), .ref (ad 10 0), .ref (ad 11 0), .ref (ad 12 0)])), (ad 4 0, .inr (1, [.ref (ad 4 1), .ref (ad 4 2), .int (nI rk), .int (nI sl)])), (ad 4 1, .inl (cI, 7, .inl (fun i9 => nI (kd i9)))), (ad 4 2, .inl (cI, 175, .inl (fun i9 => nI (tn i9)))), (ad 10 0, .inr (2, [.ref (ad 10 1), .ref (ad 10 2), .long (lN w1)])), (ad 10 1, .inl (cJ, 5, .inr (.inl (fun i9 => lN (p1 i9))))), (ad 10 2, .inl (cJ, 5, .inr (.inl (fun i9 => lN (o1 i9)))))]) := by
  refine CI.of (cc := cX9_help) (maxL := 11) (by decide) rfl (Nat.le_of_ble_eq_true rfl) ?_
  intro p9 e9 s m below meth co9 A ls hB
  obtain ⟨hx, hb, hml, hr, hts, hown, hlocks, hmn, hK, hP, hD, hS, hA, hl⟩ := hB
  have hP : va_P G vwCl [(ad 0 0, .inr (9, [.ref (ad 1 0), .ref (ad 2 0), .ref (ad 4 0), .ref (ad 5 0), .ref (ad 6 0), .ref (ad 7 0), .ref (ad 8 0), .ref (ad 9 0), .ref (ad 10 0), .ref (ad 11 0), .ref (ad 12 0)])), (ad 4 0, .inr (1, [.ref (ad 4 1), .ref (ad 4 2), .int (nI rk), .int (nI sl)])), (ad 4 1, .inl (cI, 7, .inl (fun i9 => nI (kd i9)))), (ad 4 2, .inl (cI, 175, .inl (fun i9 => nI (tn i9)))), (ad 10 0, .inr (2, [.ref (ad 10 1), .ref (ad 10 2), .long (lN wh)])), (ad 10 1, .inl (cJ, 5, .inr (.inl (fun i9 => lN (pa i9))))), (ad 10 2, .inl (cJ, 5, .inr (.inl (fun i9 => lN (on i9)))))] s.heap := hP
  have hD : va_D A [(ad 0 0, .inr (9, [.ref (ad 1 0), .ref (ad 2 0), .ref (ad 4 0), .ref (ad 5 0), .ref (ad 6 0), .ref (ad 7 0), .ref (ad 8 0), .ref (ad 9 0), .ref (ad 10 0), .ref (ad 11 0), .ref (ad 12 0)])), (ad 4 0, .inr (1, [.ref (ad 4 1), .ref (ad 4 2), .int (nI rk), .int (nI sl)])), (ad 4 1, .inl (cI, 7, .inl (fun i9 => nI (kd i9)))), (ad 4 2, .inl (cI, 175, .inl (fun i9 => nI (tn i9)))), (ad 10 0, .inr (2, [.ref (ad 10 1), .ref (ad 10 2), .long (lN wh)])), (ad 10 1, .inl (cJ, 5, .inr (.inl (fun i9 => lN (pa i9))))), (ad 10 2, .inl (cJ, 5, .inr (.inl (fun i9 => lN (on i9)))))] := hD
  have hl : lv_has ls 11 [(0, .ref (ad 0 0)), (1, .int u)] := hl
  have k_0 := hts (.constantLong RX9 183 (-1)) (by decide +kernel)
  have k_1 := hts (.fieldLink RX9 26 "HearsayMarch" "army" "LHearsayMarch$Army;") (by decide +kernel)
  have k_2 := hts (.fieldLink RX9 110 "HearsayMarch$Army" "ranks" "I") (by decide +kernel)
  have k_3 := hts (.fieldLink RX9 64 "HearsayMarch" "chances" "LHearsayMarch$Chances;") (by decide +kernel)
  have k_4 := hts (.fieldLink RX9 189 "HearsayMarch$Chances" "parts" "[J") (by decide +kernel)
  have k_5 := hts (.constantLong RX9 216 (10)) (by decide +kernel)
  have hin1 : ∀ w ∈ wsX10, w ∈ wsX9_help := by decide +kernel
  have hin2 : ∀ w ∈ wsX20, w ∈ wsX9_help := by decide +kernel
  have hin9 : ∀ w ∈ wsX90, w ∈ wsX9_help := by decide +kernel
  refine lv_iload_n hx hb dX9_help_0 rfl (lv_at hl 1 rfl) ?_
  refine aft_i (wr := [(ad 0 0, .inr (9, [.ref (ad 1 0), .ref (ad 2 0), .ref (ad 4 0), .ref (ad 5 0), .ref (ad 6 0), .ref (ad 7 0), .ref (ad 8 0), .ref (ad 9 0), .ref (ad 10 0), .ref (ad 11 0), .ref (ad 12 0)])), (ad 4 0, .inr (1, [.ref (ad 4 1), .ref (ad 4 2), .int (nI rk), .int (nI sl)])), (ad 4 1, .inl (cI, 7, .inl (fun i9 => nI (kd i9)))), (ad 4 2, .inl (cI, 175, .inl (fun i9 => nI (tn i9)))), (ad 10 0, .inr (2, [.ref (ad 10 1), .ref (ad 10 2), .long (lN wh)])), (ad 10 1, .inl (cJ, 5, .inr (.inl (fun i9 => lN (pa i9))))), (ad 10 2, .inl (cJ, 5, .inr (.inl (fun i9 => lN (on i9)))))]) (va_runS (As := [.int u]) (rest := []) ⟨hx, hb, hml, hown, hts⟩ (c_X9_isOrder (r := u) _) (va_cwS 1 hts gX9_help_X9_isOrder rfl rfl rfl (by decide +kernel) ⟨Nat.le_of_ble_eq_true rfl, Nat.le_of_ble_eq_true rfl⟩) (preS hK hP hD [] rfl rfl) rfl rfl hl.1 rfl (lv_room (Nat.le_of_ble_eq_true rfl)) dX9_help_1 ⟨Nat.le_of_ble_eq_true rfl, Nat.le_of_ble_eq_true rfl⟩) hP hD hS hA [] [0, 1, 2, 3, 4, 5, 6] rfl rfl rfl (by decide) (fun r_1 uu9 H locs hw hP hD hS => ?_)
  have hP : va_P G vwCl [(ad 0 0, .inr (9, [.ref (ad 1 0), .ref (ad 2 0), .ref (ad 4 0), .ref (ad 5 0), .ref (ad 6 0), .ref (ad 7 0), .ref (ad 8 0), .ref (ad 9 0), .ref (ad 10 0), .ref (ad 11 0), .ref (ad 12 0)])), (ad 4 0, .inr (1, [.ref (ad 4 1), .ref (ad 4 2), .int (nI rk), .int (nI sl)])), (ad 4 1, .inl (cI, 7, .inl (fun i9 => nI (kd i9)))), (ad 4 2, .inl (cI, 175, .inl (fun i9 => nI (tn i9)))), (ad 10 0, .inr (2, [.ref (ad 10 1), .ref (ad 10 2), .long (lN wh)])), (ad 10 1, .inl (cJ, 5, .inr (.inl (fun i9 => lN (pa i9))))), (ad 10 2, .inl (cJ, 5, .inr (.inl (fun i9 => lN (on i9)))))] _ := hP
  have hD : va_D A [(ad 0 0, .inr (9, [.ref (ad 1 0), .ref (ad 2 0), .ref (ad 4 0), .ref (ad 5 0), .ref (ad 6 0), .ref (ad 7 0), .ref (ad 8 0), .ref (ad 9 0), .ref (ad 10 0), .ref (ad 11 0), .ref (ad 12 0)])), (ad 4 0, .inr (1, [.ref (ad 4 1), .ref (ad 4 2), .int (nI rk), .int (nI sl)])), (ad 4 1, .inl (cI, 7, .inl (fun i9 => nI (kd i9)))), (ad 4 2, .inl (cI, 175, .inl (fun i9 => nI (tn i9)))), (ad 10 0, .inr (2, [.ref (ad 10 1), .ref (ad 10 2), .long (lN wh)])), (ad 10 1, .inl (cJ, 5, .inr (.inl (fun i9 => lN (pa i9))))), (ad 10 2, .inl (cJ, 5, .inr (.inl (fun i9 => lN (on i9)))))] := hD
  obtain rfl := hw
  refine top_i (y := bI (isR 5 u)) rfl ?_
  refine lv_if_ne (tgt := 9) hx hb dX9_help_4 (by decide) (fun c_4 => ?_) (fun c_4 => ?_)
  · skip
    have c_4 := bI_t c_4
    obtain ⟨o, ho, rfl⟩ := c_4
    refine lv_bipush (v := (-9)) hx hb dX9_help_9 (by decide) ?_
    refine lv_istore_n (lv' := [(2, .int (-9)), (0, .ref (ad 0 0)), (1, .int (nI o))]) hx hb dX9_help_11 rfl hl (by decide) rfl (fun ls hl => ?_)
    refine lv_ldc2 (v := (-1 : Int64)) hx hb hown k_0 dX9_help_12 ?_
    refine lv_lstore_n (lv' := [(3, .long (-1 : Int64)), (2, .int (-9)), (0, .ref (ad 0 0)), (1, .int (nI o))]) hx hb dX9_help_15 rfl hl (by decide) rfl (fun ls hl => ?_)
    refine lv_aload_n hx hb dX9_help_16 rfl (lv_at hl 2 rfl) ?_
    refine va_get (D := G) (ci := 9) (v := .ref (ad 4 0)) (C := RX9) (T := TX9) (N := 11) hx hb hts hin9 hown hK.1 hP 0 rfl rfl 2 (by decide) k_1 (fun _ h9 => h9) rfl dX9_help_17 ?_
    refine va_get (D := G) (ci := 1) (v := .int (nI rk)) (C := RX1) (T := TX1) (N := 4) hx hb hts hin1 hown hK.1 hP 1 rfl rfl 2 (by decide) k_2 (fun _ h9 => h9) rfl dX9_help_20 ?_
    refine lv_iconst (v := nI 1) hx hb dX9_help_23 (by decide) ?_
    refine lv_isub hx hb dX9_help_24 ?_
    refine top_i (y := nI rk + Int32.ofInt (-1)) (m1_sub rk) ?_
    refine lv_istore (lv' := [(5, .int (nI rk + Int32.ofInt (-1))), (3, .long (-1 : Int64)), (2, .int (-9)), (0, .ref (ad 0 0)), (1, .int (nI o))]) hx hb dX9_help_25 hl (by decide) rfl (fun ls hl => ?_)
    refine lv_lconst (v := lN 1) hx hb dX9_help_27 (by decide) ?_
    refine lv_lstore (lv' := [(6, .long (lN 1)), (5, .int (nI rk + Int32.ofInt (-1))), (3, .long (-1 : Int64)), (2, .int (-9)), (0, .ref (ad 0 0)), (1, .int (nI o))]) hx hb dX9_help_28 hl (by decide) rfl (fun ls hl => ?_)
    refine lv_iconst (v := nI 1) hx hb dX9_help_30 (by decide) ?_
    refine lv_istore (lv' := [(8, .int (nI 1)), (6, .long (lN 1)), (5, .int (nI rk + Int32.ofInt (-1))), (3, .long (-1 : Int64)), (2, .int (-9)), (0, .ref (ad 0 0)), (1, .int (nI o))]) hx hb dX9_help_31 hl (by decide) rfl (fun ls hl => ?_)
    have hl : lv_has ls 11 [(8, .int (nI 1)), (6, .long (lN 1)), (5, .int (nI rk + Int32.ofInt (-1))), (3, .long (-1 : Int64)), (2, .int ((hlpS (hlpP tn kd rk o) 0).1)), (0, .ref (ad 0 0)), (1, .int (nI o))] := hl
    have hl : lv_has ls 11 [(8, .int (nI 1)), (6, .long (lN (10 ^ 0))), (5, .int (nI rk + Int32.ofInt (-1))), (3, .long (-1 : Int64)), (2, .int ((hlpS (hlpP tn kd rk o) 0).1)), (0, .ref (ad 0 0)), (1, .int (nI o))] := hl
    have hl : lv_has ls 11 [(8, .int (nI (0 + 1))), (6, .long (lN (10 ^ 0))), (5, .int (nI rk + Int32.ofInt (-1))), (3, .long (-1 : Int64)), (2, .int ((hlpS (hlpP tn kd rk o) 0).1)), (0, .ref (ad 0 0)), (1, .int (nI o))] := hl
    refine loopW (σ := Nat × Int64 × (Nat → Nat) × (Nat → Nat) × Nat) 33 (fun xx9 H locs ls => match xx9 with | (i, bq, q1, q2, q3) => (i ≤ rk - 1) ∧ (BqR (hlpS (hlpP tn kd rk o) i).2 bq) ∧ va_P G vwCl [(ad 0 0, .inr (9, [.ref (ad 1 0), .ref (ad 2 0), .ref (ad 4 0), .ref (ad 5 0), .ref (ad 6 0), .ref (ad 7 0), .ref (ad 8 0), .ref (ad 9 0), .ref (ad 10 0), .ref (ad 11 0), .ref (ad 12 0)])), (ad 4 0, .inr (1, [.ref (ad 4 1), .ref (ad 4 2), .int (nI rk), .int (nI sl)])), (ad 4 1, .inl (cI, 7, .inl (fun i9 => nI (kd i9)))), (ad 4 2, .inl (cI, 175, .inl (fun i9 => nI (tn i9)))), (ad 10 0, .inr (2, [.ref (ad 10 1), .ref (ad 10 2), .long (lN q3)])), (ad 10 1, .inl (cJ, 5, .inr (.inl (fun i9 => lN (q1 i9))))), (ad 10 2, .inl (cJ, 5, .inr (.inl (fun i9 => lN (q2 i9)))))] H ∧ va_D A [(ad 0 0, .inr (9, [.ref (ad 1 0), .ref (ad 2 0), .ref (ad 4 0), .ref (ad 5 0), .ref (ad 6 0), .ref (ad 7 0), .ref (ad 8 0), .ref (ad 9 0), .ref (ad 10 0), .ref (ad 11 0), .ref (ad 12 0)])), (ad 4 0, .inr (1, [.ref (ad 4 1), .ref (ad 4 2), .int (nI rk), .int (nI sl)])), (ad 4 1, .inl (cI, 7, .inl (fun i9 => nI (kd i9)))), (ad 4 2, .inl (cI, 175, .inl (fun i9 => nI (tn i9)))), (ad 10 0, .inr (2, [.ref (ad 10 1), .ref (ad 10 2), .long (lN q3)])), (ad 10 1, .inl (cJ, 5, .inr (.inl (fun i9 => lN (q1 i9))))), (ad 10 2, .inl (cJ, 5, .inr (.inl (fun i9 => lN (q2 i9)))))] ∧ va_S A s.heap H locs ∧ lv_has ls 11 [(8, .int (nI (i + 1))), (6, .long (lN (10 ^ i))), (5, .int (nI rk + Int32.ofInt (-1))), (3, .long bq), (2, .int ((hlpS (hlpP tn kd rk o) i).1)), (0, .ref (ad 0 0)), (1, .int (nI o))]) (fun xx9 => match xx9 with | (i, bq, q1, q2, q3) => []) (fun xx9 => match xx9 with | (i, bq, q1, q2, q3) => rk - i) ?_ (0, (-1 : Int64), pa, on, wh) ⟨by first | assumption | omega | (simp; done), Or.inl ⟨rfl, rfl⟩, hP.sub [0, 1, 2, 3, 4, 5, 6] rfl, hD.sub [0, 1, 2, 3, 4, 5, 6] (by decide) rfl, hS, lv_sub hl [0, 1, 2, 3, 4, 5, 6] rfl⟩
    intro xx9 H locs ls hI ih_33
    obtain ⟨i, bq, q1, q2, q3⟩ := xx9
    obtain ⟨hi, hbq, hP, hD, hS, hl⟩ := hI
    have hi : i ≤ rk - 1 := hi
    have hbq : BqR (hlpS (hlpP tn kd rk o) i).2 bq := hbq
    have hP : va_P G vwCl [(ad 0 0, .inr (9, [.ref (ad 1 0), .ref (ad 2 0), .ref (ad 4 0), .ref (ad 5 0), .ref (ad 6 0), .ref (ad 7 0), .ref (ad 8 0), .ref (ad 9 0), .ref (ad 10 0), .ref (ad 11 0), .ref (ad 12 0)])), (ad 4 0, .inr (1, [.ref (ad 4 1), .ref (ad 4 2), .int (nI rk), .int (nI sl)])), (ad 4 1, .inl (cI, 7, .inl (fun i9 => nI (kd i9)))), (ad 4 2, .inl (cI, 175, .inl (fun i9 => nI (tn i9)))), (ad 10 0, .inr (2, [.ref (ad 10 1), .ref (ad 10 2), .long (lN q3)])), (ad 10 1, .inl (cJ, 5, .inr (.inl (fun i9 => lN (q1 i9))))), (ad 10 2, .inl (cJ, 5, .inr (.inl (fun i9 => lN (q2 i9)))))] _ := hP
    have hD : va_D A [(ad 0 0, .inr (9, [.ref (ad 1 0), .ref (ad 2 0), .ref (ad 4 0), .ref (ad 5 0), .ref (ad 6 0), .ref (ad 7 0), .ref (ad 8 0), .ref (ad 9 0), .ref (ad 10 0), .ref (ad 11 0), .ref (ad 12 0)])), (ad 4 0, .inr (1, [.ref (ad 4 1), .ref (ad 4 2), .int (nI rk), .int (nI sl)])), (ad 4 1, .inl (cI, 7, .inl (fun i9 => nI (kd i9)))), (ad 4 2, .inl (cI, 175, .inl (fun i9 => nI (tn i9)))), (ad 10 0, .inr (2, [.ref (ad 10 1), .ref (ad 10 2), .long (lN q3)])), (ad 10 1, .inl (cJ, 5, .inr (.inl (fun i9 => lN (q1 i9))))), (ad 10 2, .inl (cJ, 5, .inr (.inl (fun i9 => lN (q2 i9)))))] := hD
    have hl : lv_has ls 11 [(8, .int (nI (i + 1))), (6, .long (lN (10 ^ i))), (5, .int (nI rk + Int32.ofInt (-1))), (3, .long bq), (2, .int ((hlpS (hlpP tn kd rk o) i).1)), (0, .ref (ad 0 0)), (1, .int (nI o))] := hl
    refine lv_iload hx hb dX9_help_33 (lv_at hl 0 rfl) ?_
    refine lv_iload hx hb dX9_help_35 (lv_at hl 2 rfl) ?_
    refine lv_icmp_gt (tgt := 97) hx hb dX9_help_37 (by decide) (fun c_37 => ?_) (fun c_37 => ?_)
    · skip
      have c_37 := m1_gtT c_37 (by omega) (by omega)
      refine lv_iload_n hx hb dX9_help_97 rfl (lv_at hl 4 rfl) ?_
      exact endI hx hb hr hlocks ((q1, q2, q3)) (An1_ok (by omega) ho (by rw [show i = rk - 1 by omega])) (hP.sub [0, 1, 2, 3, 4, 5, 6] rfl) (hD.sub [0, 1, 2, 3, 4, 5, 6] (by decide) rfl) hS dX9_help_98
    · skip
      have c_37 := m1_gtF c_37 (by omega) (by omega)
      refine lv_aload_n hx hb dX9_help_40 rfl (lv_at hl 5 rfl) ?_
      refine va_get (D := G) (ci := 9) (v := .ref (ad 10 0)) (C := RX9) (T := TX9) (N := 11) hx hb hts hin9 hown hK.1 hP 0 rfl rfl 8 (by decide) k_3 (fun _ h9 => h9) rfl dX9_help_41 ?_
      refine lv_aload_n hx hb dX9_help_44 rfl (lv_at hl 5 rfl) ?_
      refine va_get (D := G) (ci := 9) (v := .ref (ad 4 0)) (C := RX9) (T := TX9) (N := 11) hx hb hts hin9 hown hK.1 hP 0 rfl rfl 2 (by decide) k_1 (fun _ h9 => h9) rfl dX9_help_45 ?_
      refine lv_iload hx hb dX9_help_48 (lv_at hl 0 rfl) ?_
      refine lv_iload hx hb dX9_help_50 (lv_at hl 2 rfl) ?_
      refine top_i (y := nI (rk - 1)) (nI_dec (by omega)) ?_
      refine lv_iload_n hx hb dX9_help_52 rfl (lv_at hl 6 rfl) ?_
      refine aft_v (wr := [(ad 0 0, .inr (9, [.ref (ad 1 0), .ref (ad 2 0), .ref (ad 4 0), .ref (ad 5 0), .ref (ad 6 0), .ref (ad 7 0), .ref (ad 8 0), .ref (ad 9 0), .ref (ad 10 0), .ref (ad 11 0), .ref (ad 12 0)]))]) (va_runV (As := [.ref (ad 4 0), .int (nI (i + 1)), .int (nI (rk - 1)), .int (nI o)]) (rest := []) ⟨hx, hb, hml, hown, hts⟩ (c_X2_spread (g := (ad 10)) (pa := q1) (on := q2) (wh := q3) (h := (ad 4)) (kd := kd) (tn := tn) (rk := rk) (sl := sl) (f := i + 1) (t := rk - 1) (o := o) (hok := by first | assumption | omega | exact hok.1 _ (by omega) | exact hok.2.2 _ _ (by omega) (by omega) | exact hok.2.1) (hf := by first | assumption | omega | exact hok.1 _ (by omega) | exact hok.2.2 _ _ (by omega) (by omega) | exact hok.2.1) (ht := by first | assumption | omega | exact hok.1 _ (by omega) | exact hok.2.2 _ _ (by omega) (by omega) | exact hok.2.1) (ho := by first | assumption | omega | exact hok.1 _ (by omega) | exact hok.2.2 _ _ (by omega) (by omega) | exact hok.2.1) _) (cwV 4 hts gX9_help_X2_spread rfl rfl rfl (by decide +kernel) ⟨Nat.le_of_ble_eq_true rfl, Nat.le_of_ble_eq_true rfl⟩) (preV (cq := (RX2, TX2, 3)) (q0 := 4) (ci := 2) hK hP hD [4, 5, 6, 1, 2, 3] rfl rfl rfl rfl) rfl rfl hl.1 rfl (lv_room (Nat.le_of_ble_eq_true rfl)) dX9_help_53 ⟨Nat.le_of_ble_eq_true rfl, Nat.le_of_ble_eq_true rfl⟩) hP hD hS hA [4, 5, 6, 1, 2, 3] [0] rfl rfl rfl (by decide) (fun uu9 H locs hw hP hD hS => ?_)
      obtain ⟨p1_53, o1_53⟩ := uu9
      have hP : va_P G vwCl [(ad 0 0, .inr (9, [.ref (ad 1 0), .ref (ad 2 0), .ref (ad 4 0), .ref (ad 5 0), .ref (ad 6 0), .ref (ad 7 0), .ref (ad 8 0), .ref (ad 9 0), .ref (ad 10 0), .ref (ad 11 0), .ref (ad 12 0)])), (ad 10 0, .inr (2, [.ref ((ad 10) 1), .ref ((ad 10) 2), .long (lN (10 ^ ((rk - 1) - (i + 1))))])), (ad 10 1, .inl (cJ, 5, .inr (.inl (fun i9 => lN (p1_53 i9))))), (ad 10 2, .inl (cJ, 5, .inr (.inl (fun i9 => lN (o1_53 i9))))), (ad 4 0, .inr (1, [.ref ((ad 4) 1), .ref ((ad 4) 2), .int (nI rk), .int (nI sl)])), (ad 4 1, .inl (cI, 7, .inl (fun i9 => nI (kd i9)))), (ad 4 2, .inl (cI, 175, .inl (fun i9 => nI (tn i9))))] _ := hP
      have hD : va_D A [(ad 0 0, .inr (9, [.ref (ad 1 0), .ref (ad 2 0), .ref (ad 4 0), .ref (ad 5 0), .ref (ad 6 0), .ref (ad 7 0), .ref (ad 8 0), .ref (ad 9 0), .ref (ad 10 0), .ref (ad 11 0), .ref (ad 12 0)])), (ad 10 0, .inr (2, [.ref ((ad 10) 1), .ref ((ad 10) 2), .long (lN (10 ^ ((rk - 1) - (i + 1))))])), (ad 10 1, .inl (cJ, 5, .inr (.inl (fun i9 => lN (p1_53 i9))))), (ad 10 2, .inl (cJ, 5, .inr (.inl (fun i9 => lN (o1_53 i9))))), (ad 4 0, .inr (1, [.ref ((ad 4) 1), .ref ((ad 4) 2), .int (nI rk), .int (nI sl)])), (ad 4 1, .inl (cI, 7, .inl (fun i9 => nI (kd i9)))), (ad 4 2, .inl (cI, 175, .inl (fun i9 => nI (tn i9))))] := hD
      have hw_53 : ∀ w, w < 5 → p1_53 w = spP tn kd (i + 1) o ((rk - 1) - (i + 1)) w := hw
      refine lv_aload_n hx hb dX9_help_56 rfl (lv_at hl 5 rfl) ?_
      refine va_get (D := G) (ci := 9) (v := .ref (ad 10 0)) (C := RX9) (T := TX9) (N := 11) hx hb hts hin9 hown hK.1 hP 0 rfl rfl 8 (by decide) k_3 (fun _ h9 => h9) rfl dX9_help_57 ?_
      refine va_get (D := G) (ci := 2) (v := .ref ((ad 10) 1)) (C := RX2) (T := TX2) (N := 3) hx hb hts hin2 hown hK.1 hP 1 rfl rfl 0 (by decide) k_4 (fun _ h9 => h9) rfl dX9_help_60 ?_
      refine lv_iload_n hx hb dX9_help_63 rfl (lv_at hl 6 rfl) ?_
      refine lld hx hb hK hP 2 1 rfl rfl (j := o) (by omega) (by omega) dX9_help_64 ?_
      refine lv_lload hx hb dX9_help_65 (lv_at hl 1 rfl) ?_
      refine lv_lmul hx hb dX9_help_67 ?_
      refine top_l (y := lN ((p1_53 o) * (10 ^ i))) (lN_mul _ _) ?_
      refine top_l (y := lN (hlpP tn kd rk o (i + 1))) (by rw [hw_53 o ho]; rfl) ?_
      have hb9 := hlpP_b (tn := tn) (kd := kd) (rk := rk) hok ho (r := i + 1) (by omega)
      refine lv_lstore (lv' := [(9, .long (lN (hlpP tn kd rk o (i + 1)))), (8, .int (nI (i + 1))), (6, .long (lN (10 ^ i))), (5, .int (nI rk + Int32.ofInt (-1))), (3, .long bq), (2, .int ((hlpS (hlpP tn kd rk o) i).1)), (0, .ref (ad 0 0)), (1, .int (nI o))]) hx hb dX9_help_68 hl (by decide) rfl (fun ls hl => ?_)
      refine lv_lload hx hb dX9_help_70 (lv_at hl 0 rfl) ?_
      refine lv_lload_n hx hb dX9_help_72 rfl (lv_at hl 4 rfl) ?_
      refine W.lcmp hx hb dX9_help_73 ?_
      refine lv_if_le (tgt := 83) hx hb dX9_help_74 (by decide) (fun c_74 => ?_) (fun c_74 => ?_)
      · skip
        have c_74 := lc_leT c_74
        have hl : lv_has ls 11 [(9, .long (lN (hlpP tn kd rk o (i + 1)))), (8, .int (nI (i + 1))), (6, .long (lN (10 ^ i))), (5, .int (nI rk + Int32.ofInt (-1))), (3, .long bq), (2, .int ((hlpS (hlpP tn kd rk o) (i + 1)).1)), (0, .ref (ad 0 0)), (1, .int (nI o))] := by first | (rw [hlpS_y hbq hb9 c_74]; exact hl) | (rw [hlpS_n hbq hb9 c_74]; exact hl)
        refine lv_lload hx hb dX9_help_83 (lv_at hl 2 rfl) ?_
        refine lv_ldc2 (v := (10 : Int64)) hx hb hown k_5 dX9_help_85 ?_
        refine top_l (y := lN 10) (by decide) ?_
        refine lv_lmul hx hb dX9_help_88 ?_
        refine top_l (y := lN ((10 ^ i) * 10)) (lN_mul _ _) ?_
        refine top_l (y := lN (10 ^ (i + 1))) (by rw [Nat.pow_succ]) ?_
        refine lv_lstore (lv' := [(6, .long (lN (10 ^ (i + 1)))), (9, .long (lN (hlpP tn kd rk o (i + 1)))), (8, .int (nI (i + 1))), (5, .int (nI rk + Int32.ofInt (-1))), (3, .long bq), (2, .int ((hlpS (hlpP tn kd rk o) (i + 1)).1)), (0, .ref (ad 0 0)), (1, .int (nI o))]) hx hb dX9_help_89 hl (by decide) rfl (fun ls hl => ?_)
        refine lv_iinc (v := nI (i + 1 + 1)) (lv' := [(8, .int (nI (i + 1 + 1))), (6, .long (lN (10 ^ (i + 1)))), (9, .long (lN (hlpP tn kd rk o (i + 1)))), (5, .int (nI rk + Int32.ofInt (-1))), (3, .long bq), (2, .int ((hlpS (hlpP tn kd rk o) (i + 1)).1)), (0, .ref (ad 0 0)), (1, .int (nI o))]) hx hb dX9_help_91 hl (k := 2) rfl (nI_inc _ 1 1 (by decide)) (by decide) rfl (fun ls hl => ?_)
        refine lv_goto (tgt := 33) hx hb dX9_help_94 (by decide) ?_
        exact ih_33 ((i + 1), bq, p1_53, o1_53, (10 ^ ((rk - 1) - (i + 1)))) _ _ _ (by first | omega | (simp only []; omega) | (show _ < _; omega)) ⟨by omega, by first | exact BqR_y hbq hb9 c_74 | exact BqR_n hbq hb9 c_74, hP.sub [0, 4, 5, 6, 1, 2, 3] rfl, hD.sub [0, 4, 5, 6, 1, 2, 3] (by decide) rfl, hS, lv_sub hl [0, 1, 3, 4, 5, 6, 7] rfl⟩
      · skip
        have c_74 := lc_leF c_74
        refine lv_iload hx hb dX9_help_77 (lv_at hl 1 rfl) ?_
        refine lv_istore_n (lv' := [(2, .int (nI (i + 1))), (9, .long (lN (hlpP tn kd rk o (i + 1)))), (8, .int (nI (i + 1))), (6, .long (lN (10 ^ i))), (5, .int (nI rk + Int32.ofInt (-1))), (3, .long bq), (0, .ref (ad 0 0)), (1, .int (nI o))]) hx hb dX9_help_79 rfl hl (by decide) rfl (fun ls hl => ?_)
        refine lv_lload hx hb dX9_help_80 (lv_at hl 1 rfl) ?_
        refine lv_lstore_n (lv' := [(3, .long (lN (hlpP tn kd rk o (i + 1)))), (2, .int (nI (i + 1))), (9, .long (lN (hlpP tn kd rk o (i + 1)))), (8, .int (nI (i + 1))), (6, .long (lN (10 ^ i))), (5, .int (nI rk + Int32.ofInt (-1))), (0, .ref (ad 0 0)), (1, .int (nI o))]) hx hb dX9_help_82 rfl hl (by decide) rfl (fun ls hl => ?_)
        have hl : lv_has ls 11 [(3, .long (lN (hlpP tn kd rk o (i + 1)))), (2, .int ((hlpS (hlpP tn kd rk o) (i + 1)).1)), (9, .long (lN (hlpP tn kd rk o (i + 1)))), (8, .int (nI (i + 1))), (6, .long (lN (10 ^ i))), (5, .int (nI rk + Int32.ofInt (-1))), (0, .ref (ad 0 0)), (1, .int (nI o))] := by first | (rw [hlpS_y hbq hb9 c_74]; exact hl) | (rw [hlpS_n hbq hb9 c_74]; exact hl)
        refine lv_lload hx hb dX9_help_83 (lv_at hl 4 rfl) ?_
        refine lv_ldc2 (v := (10 : Int64)) hx hb hown k_5 dX9_help_85 ?_
        refine top_l (y := lN 10) (by decide) ?_
        refine lv_lmul hx hb dX9_help_88 ?_
        refine top_l (y := lN ((10 ^ i) * 10)) (lN_mul _ _) ?_
        refine top_l (y := lN (10 ^ (i + 1))) (by rw [Nat.pow_succ]) ?_
        refine lv_lstore (lv' := [(6, .long (lN (10 ^ (i + 1)))), (3, .long (lN (hlpP tn kd rk o (i + 1)))), (2, .int ((hlpS (hlpP tn kd rk o) (i + 1)).1)), (9, .long (lN (hlpP tn kd rk o (i + 1)))), (8, .int (nI (i + 1))), (5, .int (nI rk + Int32.ofInt (-1))), (0, .ref (ad 0 0)), (1, .int (nI o))]) hx hb dX9_help_89 hl (by decide) rfl (fun ls hl => ?_)
        refine lv_iinc (v := nI (i + 1 + 1)) (lv' := [(8, .int (nI (i + 1 + 1))), (6, .long (lN (10 ^ (i + 1)))), (3, .long (lN (hlpP tn kd rk o (i + 1)))), (2, .int ((hlpS (hlpP tn kd rk o) (i + 1)).1)), (9, .long (lN (hlpP tn kd rk o (i + 1)))), (5, .int (nI rk + Int32.ofInt (-1))), (0, .ref (ad 0 0)), (1, .int (nI o))]) hx hb dX9_help_91 hl (k := 4) rfl (nI_inc _ 1 1 (by decide)) (by decide) rfl (fun ls hl => ?_)
        refine lv_goto (tgt := 33) hx hb dX9_help_94 (by decide) ?_
        exact ih_33 ((i + 1), lN (hlpP tn kd rk o (i + 1)), p1_53, o1_53, (10 ^ ((rk - 1) - (i + 1)))) _ _ _ (by first | omega | (simp only []; omega) | (show _ < _; omega)) ⟨by omega, by first | exact BqR_y hbq hb9 c_74 | exact BqR_n hbq hb9 c_74, hP.sub [0, 4, 5, 6, 1, 2, 3] rfl, hD.sub [0, 4, 5, 6, 1, 2, 3] (by decide) rfl, hS, lv_sub hl [0, 1, 5, 2, 3, 6, 7] rfl⟩
  · skip
    have c_4 := bI_f c_4
    refine lv_iconst (v := (-1)) hx hb dX9_help_7 (by decide) ?_
    exact endI hx hb hr hlocks ((pa, on, wh)) (An1_no c_4) (hP.sub [0, 1, 2, 3, 4, 5, 6] rfl) (hD.sub [0, 1, 2, 3, 4, 5, 6] (by decide) rfl) hS dX9_help_8

set_option maxHeartbeats 4000000 in
set_option maxRecDepth 100000 in
theorem c_X9_trace {l : Launch} {G : va_G} {cI cJ cZ cS : ClassId} (ad : Nat → Nat → Nat) (kd : Nat → Nat) (tn : Nat → Nat) (rk : Nat) (sl : Nat) (tr : Nat → Nat) (tq : Nat → Nat) (td : Nat → Nat) (tc : Nat) (r : Int32) (u : Int32) (d : Nat) (hrk : rk < 8) (hd : d < 2) (htc : tc < 7) : CI l G (kT cI cJ cZ cS) (S := (Nat → Nat) × (Nat → Nat) × (Nat → Nat) × Nat) yX9_trace wsX9_trace { frames := 1, cells := 0, slots := 0, locals := 23 } [.ref (ad 0 0), .int r, .int u, .int (nI d)] [(ad 0 0, .inr (9, [.ref (ad 1 0), .ref (ad 2 0), .ref (ad 4 0), .ref (ad 5 0), .ref (ad 6 0), .ref (ad 7 0), .ref (ad 8 0), .ref (ad 9 0), .ref (ad 10 0), .ref (ad 11 0), .ref (ad 12 0)])), (ad 4 0, .inr (1, [.ref (ad 4 1), .ref (ad 4 2), .int (nI rk), .int (nI sl)])), (ad 4 1, .inl (cI, 7, .inl (fun i9 => nI (kd i9)))), (ad 4 2, .inl (cI, 175, .inl (fun i9 => nI (tn i9)))), (ad 9 0, .inr (8, [.ref (ad 9 1), .ref (ad 9 2), .ref (ad 9 3), .int (nI tc)])), (ad 9 1, .inl (cI, 6, .inl (fun i9 => nI (tr i9)))), (ad 9 2, .inl (cI, 6, .inl (fun i9 => nI (tq i9)))), (ad 9 3, .inl (cZ, 6, .inl (fun i9 => nI (td i9))))] (fun res uu9 => match uu9 with | (tr1, tq1, td1, tc1) => TcP rk r u d tr tq td tc tr1 tq1 td1 tc1 res) (fun uu9 => match uu9 with | (tr1, tq1, td1, tc1) => [(ad 0 0, .inr (9, [.ref (ad 1 0), .ref (ad 2 0), .ref (ad 4 0), .ref (ad 5 0), .ref (ad 6 0), .ref (ad 7 0), .ref (ad 8 0), .ref (ad 9 0), .ref (ad 10 0), .ref (ad 11 0), .ref (ad 12 0)])), (ad 4 0, .inr (1, [.ref (ad 4 1), .ref (ad 4 2), .int (nI rk), .int (nI sl)])), (ad 4 1, .inl (cI, 7, .inl (fun i9 => nI (kd i9)))), (ad 4 2, .inl (cI, 175, .inl (fun i9 => nI (tn i9)))), (ad 9 0, .inr (8, [.ref (ad 9 1), .ref (ad 9 2), .ref (ad 9 3), .int (nI tc1)])), (ad 9 1, .inl (cI, 6, .inl (fun i9 => nI (tr1 i9)))), (ad 9 2, .inl (cI, 6, .inl (fun i9 => nI (tq1 i9)))), (ad 9 3, .inl (cZ, 6, .inl (fun i9 => nI (td1 i9))))]) := by
  refine CI.of (cc := cX9_trace) (maxL := 4) (by decide) rfl (Nat.le_of_ble_eq_true rfl) ?_
  intro p9 e9 s m below meth co9 A ls hB
  obtain ⟨hx, hb, hml, hr, hts, hown, hlocks, hmn, hK, hP, hD, hS, hA, hl⟩ := hB
  have hP : va_P G vwCl [(ad 0 0, .inr (9, [.ref (ad 1 0), .ref (ad 2 0), .ref (ad 4 0), .ref (ad 5 0), .ref (ad 6 0), .ref (ad 7 0), .ref (ad 8 0), .ref (ad 9 0), .ref (ad 10 0), .ref (ad 11 0), .ref (ad 12 0)])), (ad 4 0, .inr (1, [.ref (ad 4 1), .ref (ad 4 2), .int (nI rk), .int (nI sl)])), (ad 4 1, .inl (cI, 7, .inl (fun i9 => nI (kd i9)))), (ad 4 2, .inl (cI, 175, .inl (fun i9 => nI (tn i9)))), (ad 9 0, .inr (8, [.ref (ad 9 1), .ref (ad 9 2), .ref (ad 9 3), .int (nI tc)])), (ad 9 1, .inl (cI, 6, .inl (fun i9 => nI (tr i9)))), (ad 9 2, .inl (cI, 6, .inl (fun i9 => nI (tq i9)))), (ad 9 3, .inl (cZ, 6, .inl (fun i9 => nI (td i9))))] s.heap := hP
  have hD : va_D A [(ad 0 0, .inr (9, [.ref (ad 1 0), .ref (ad 2 0), .ref (ad 4 0), .ref (ad 5 0), .ref (ad 6 0), .ref (ad 7 0), .ref (ad 8 0), .ref (ad 9 0), .ref (ad 10 0), .ref (ad 11 0), .ref (ad 12 0)])), (ad 4 0, .inr (1, [.ref (ad 4 1), .ref (ad 4 2), .int (nI rk), .int (nI sl)])), (ad 4 1, .inl (cI, 7, .inl (fun i9 => nI (kd i9)))), (ad 4 2, .inl (cI, 175, .inl (fun i9 => nI (tn i9)))), (ad 9 0, .inr (8, [.ref (ad 9 1), .ref (ad 9 2), .ref (ad 9 3), .int (nI tc)])), (ad 9 1, .inl (cI, 6, .inl (fun i9 => nI (tr i9)))), (ad 9 2, .inl (cI, 6, .inl (fun i9 => nI (tq i9)))), (ad 9 3, .inl (cZ, 6, .inl (fun i9 => nI (td i9))))] := hD
  have hl : lv_has ls 4 [(0, .ref (ad 0 0)), (1, .int r), (2, .int u), (3, .int (nI d))] := hl
  have k_0 := hts (.fieldLink RX9 26 "HearsayMarch" "army" "LHearsayMarch$Army;") (by decide +kernel)
  have k_1 := hts (.fieldLink RX9 57 "HearsayMarch" "traces" "LHearsayMarch$Traces;") (by decide +kernel)
  have k_2 := hts (.fieldLink RX9 129 "HearsayMarch$Traces" "count" "I") (by decide +kernel)
  have hin8 : ∀ w ∈ wsX80, w ∈ wsX9_trace := by decide +kernel
  have hin9 : ∀ w ∈ wsX90, w ∈ wsX9_trace := by decide +kernel
  refine lv_aload_n hx hb dX9_trace_0 rfl (lv_at hl 0 rfl) ?_
  refine va_get (D := G) (ci := 9) (v := .ref (ad 4 0)) (C := RX9) (T := TX9) (N := 11) hx hb hts hin9 hown hK.1 hP 0 rfl rfl 2 (by decide) k_0 (fun _ h9 => h9) rfl dX9_trace_1 ?_
  refine lv_iload_n hx hb dX9_trace_4 rfl (lv_at hl 1 rfl) ?_
  refine aft_i (wr := [(ad 0 0, .inr (9, [.ref (ad 1 0), .ref (ad 2 0), .ref (ad 4 0), .ref (ad 5 0), .ref (ad 6 0), .ref (ad 7 0), .ref (ad 8 0), .ref (ad 9 0), .ref (ad 10 0), .ref (ad 11 0), .ref (ad 12 0)])), (ad 9 0, .inr (8, [.ref (ad 9 1), .ref (ad 9 2), .ref (ad 9 3), .int (nI tc)])), (ad 9 1, .inl (cI, 6, .inl (fun i9 => nI (tr i9)))), (ad 9 2, .inl (cI, 6, .inl (fun i9 => nI (tq i9)))), (ad 9 3, .inl (cZ, 6, .inl (fun i9 => nI (td i9))))]) (va_runV (As := [.int r]) (rest := []) ⟨hx, hb, hml, hown, hts⟩ (c_X1_has (h := (ad 4)) (kd := kd) (tn := tn) (rk := rk) (sl := sl) (r := r) (hrk := by first | assumption | omega | exact hok.1 _ (by omega) | exact hok.2.2 _ _ (by omega) (by omega) | exact hok.2.1) _) (cwV 1 hts gX9_trace_X1_has rfl rfl rfl (by decide +kernel) ⟨Nat.le_of_ble_eq_true rfl, Nat.le_of_ble_eq_true rfl⟩) (preV (cq := (RX1, TX1, 4)) (q0 := 1) (ci := 1) hK hP hD [1, 2, 3] rfl rfl rfl rfl) rfl rfl hl.1 rfl (lv_room (Nat.le_of_ble_eq_true rfl)) dX9_trace_5 ⟨Nat.le_of_ble_eq_true rfl, Nat.le_of_ble_eq_true rfl⟩) hP hD hS hA [1, 2, 3] [0, 4, 5, 6, 7] rfl rfl rfl (by decide) (fun r_5 uu9 H locs hw hP hD hS => ?_)
  have hP : va_P G vwCl [(ad 0 0, .inr (9, [.ref (ad 1 0), .ref (ad 2 0), .ref (ad 4 0), .ref (ad 5 0), .ref (ad 6 0), .ref (ad 7 0), .ref (ad 8 0), .ref (ad 9 0), .ref (ad 10 0), .ref (ad 11 0), .ref (ad 12 0)])), (ad 9 0, .inr (8, [.ref (ad 9 1), .ref (ad 9 2), .ref (ad 9 3), .int (nI tc)])), (ad 9 1, .inl (cI, 6, .inl (fun i9 => nI (tr i9)))), (ad 9 2, .inl (cI, 6, .inl (fun i9 => nI (tq i9)))), (ad 9 3, .inl (cZ, 6, .inl (fun i9 => nI (td i9)))), (ad 4 0, .inr (1, [.ref ((ad 4) 1), .ref ((ad 4) 2), .int (nI rk), .int (nI sl)])), (ad 4 1, .inl (cI, 7, .inl (fun i9 => nI (kd i9)))), (ad 4 2, .inl (cI, 175, .inl (fun i9 => nI (tn i9))))] _ := hP
  have hD : va_D A [(ad 0 0, .inr (9, [.ref (ad 1 0), .ref (ad 2 0), .ref (ad 4 0), .ref (ad 5 0), .ref (ad 6 0), .ref (ad 7 0), .ref (ad 8 0), .ref (ad 9 0), .ref (ad 10 0), .ref (ad 11 0), .ref (ad 12 0)])), (ad 9 0, .inr (8, [.ref (ad 9 1), .ref (ad 9 2), .ref (ad 9 3), .int (nI tc)])), (ad 9 1, .inl (cI, 6, .inl (fun i9 => nI (tr i9)))), (ad 9 2, .inl (cI, 6, .inl (fun i9 => nI (tq i9)))), (ad 9 3, .inl (cZ, 6, .inl (fun i9 => nI (td i9)))), (ad 4 0, .inr (1, [.ref ((ad 4) 1), .ref ((ad 4) 2), .int (nI rk), .int (nI sl)])), (ad 4 1, .inl (cI, 7, .inl (fun i9 => nI (kd i9)))), (ad 4 2, .inl (cI, 175, .inl (fun i9 => nI (tn i9))))] := hD
  obtain rfl := hw
  refine top_i (y := bI (isR rk r)) rfl ?_
  refine lv_if_eq (tgt := 18) hx hb dX9_trace_8 (by decide) (fun c_8 => ?_) (fun c_8 => ?_)
  · skip
    have c_8 := bI_f c_8
    refine lv_iconst (v := (-1)) hx hb dX9_trace_18 (by decide) ?_
    exact endI hx hb hr hlocks ((tr, tq, td, tc)) (TcP_no (fun h => c_8 h.1)) (hP.sub [0, 5, 6, 7, 1, 2, 3, 4] rfl) (hD.sub [0, 5, 6, 7, 1, 2, 3, 4] (by decide) rfl) hS dX9_trace_19
  · skip
    have c_8 := bI_t c_8
    obtain ⟨k, hk, rfl⟩ := c_8
    refine lv_iload_n hx hb dX9_trace_11 rfl (lv_at hl 2 rfl) ?_
    refine aft_i (wr := [(ad 0 0, .inr (9, [.ref (ad 1 0), .ref (ad 2 0), .ref (ad 4 0), .ref (ad 5 0), .ref (ad 6 0), .ref (ad 7 0), .ref (ad 8 0), .ref (ad 9 0), .ref (ad 10 0), .ref (ad 11 0), .ref (ad 12 0)])), (ad 9 0, .inr (8, [.ref (ad 9 1), .ref (ad 9 2), .ref (ad 9 3), .int (nI tc)])), (ad 9 1, .inl (cI, 6, .inl (fun i9 => nI (tr i9)))), (ad 9 2, .inl (cI, 6, .inl (fun i9 => nI (tq i9)))), (ad 9 3, .inl (cZ, 6, .inl (fun i9 => nI (td i9)))), (ad 4 0, .inr (1, [.ref ((ad 4) 1), .ref ((ad 4) 2), .int (nI rk), .int (nI sl)])), (ad 4 1, .inl (cI, 7, .inl (fun i9 => nI (kd i9)))), (ad 4 2, .inl (cI, 175, .inl (fun i9 => nI (tn i9))))]) (va_runS (As := [.int u]) (rest := []) ⟨hx, hb, hml, hown, hts⟩ (c_X9_isOrder (r := u) _) (va_cwS 1 hts gX9_trace_X9_isOrder rfl rfl rfl (by decide +kernel) ⟨Nat.le_of_ble_eq_true rfl, Nat.le_of_ble_eq_true rfl⟩) (preS hK hP hD [] rfl rfl) rfl rfl hl.1 rfl (lv_room (Nat.le_of_ble_eq_true rfl)) dX9_trace_12 ⟨Nat.le_of_ble_eq_true rfl, Nat.le_of_ble_eq_true rfl⟩) hP hD hS hA [] [0, 1, 2, 3, 4, 5, 6, 7] rfl rfl rfl (by decide) (fun r_12 uu9 H locs hw hP hD hS => ?_)
    have hP : va_P G vwCl [(ad 0 0, .inr (9, [.ref (ad 1 0), .ref (ad 2 0), .ref (ad 4 0), .ref (ad 5 0), .ref (ad 6 0), .ref (ad 7 0), .ref (ad 8 0), .ref (ad 9 0), .ref (ad 10 0), .ref (ad 11 0), .ref (ad 12 0)])), (ad 9 0, .inr (8, [.ref (ad 9 1), .ref (ad 9 2), .ref (ad 9 3), .int (nI tc)])), (ad 9 1, .inl (cI, 6, .inl (fun i9 => nI (tr i9)))), (ad 9 2, .inl (cI, 6, .inl (fun i9 => nI (tq i9)))), (ad 9 3, .inl (cZ, 6, .inl (fun i9 => nI (td i9)))), (ad 4 0, .inr (1, [.ref ((ad 4) 1), .ref ((ad 4) 2), .int (nI rk), .int (nI sl)])), (ad 4 1, .inl (cI, 7, .inl (fun i9 => nI (kd i9)))), (ad 4 2, .inl (cI, 175, .inl (fun i9 => nI (tn i9))))] _ := hP
    have hD : va_D A [(ad 0 0, .inr (9, [.ref (ad 1 0), .ref (ad 2 0), .ref (ad 4 0), .ref (ad 5 0), .ref (ad 6 0), .ref (ad 7 0), .ref (ad 8 0), .ref (ad 9 0), .ref (ad 10 0), .ref (ad 11 0), .ref (ad 12 0)])), (ad 9 0, .inr (8, [.ref (ad 9 1), .ref (ad 9 2), .ref (ad 9 3), .int (nI tc)])), (ad 9 1, .inl (cI, 6, .inl (fun i9 => nI (tr i9)))), (ad 9 2, .inl (cI, 6, .inl (fun i9 => nI (tq i9)))), (ad 9 3, .inl (cZ, 6, .inl (fun i9 => nI (td i9)))), (ad 4 0, .inr (1, [.ref ((ad 4) 1), .ref ((ad 4) 2), .int (nI rk), .int (nI sl)])), (ad 4 1, .inl (cI, 7, .inl (fun i9 => nI (kd i9)))), (ad 4 2, .inl (cI, 175, .inl (fun i9 => nI (tn i9))))] := hD
    obtain rfl := hw
    refine top_i (y := bI (isR 5 u)) rfl ?_
    refine lv_if_ne (tgt := 20) hx hb dX9_trace_15 (by decide) (fun c_15 => ?_) (fun c_15 => ?_)
    · skip
      have c_15 := bI_t c_15
      obtain ⟨o, ho, rfl⟩ := c_15
      refine lv_aload_n hx hb dX9_trace_20 rfl (lv_at hl 0 rfl) ?_
      refine va_get (D := G) (ci := 9) (v := .ref (ad 9 0)) (C := RX9) (T := TX9) (N := 11) hx hb hts hin9 hown hK.1 hP 0 rfl rfl 7 (by decide) k_1 (fun _ h9 => h9) rfl dX9_trace_21 ?_
      refine va_get (D := G) (ci := 8) (v := .int (nI tc)) (C := RX8) (T := TX8) (N := 4) hx hb hts hin8 hown hK.1 hP 1 rfl rfl 3 (by decide) k_2 (fun _ h9 => h9) rfl dX9_trace_24 ?_
      refine lv_bipush (v := nI 6) hx hb dX9_trace_27 (by decide) ?_
      refine lv_icmp_lt (tgt := 35) hx hb dX9_trace_29 (by decide) (fun c_29 => ?_) (fun c_29 => ?_)
      · skip
        have c_29 := n_ltT c_29 (by omega) (by omega)
        refine lv_aload_n hx hb dX9_trace_35 rfl (lv_at hl 0 rfl) ?_
        refine va_get (D := G) (ci := 9) (v := .ref (ad 9 0)) (C := RX9) (T := TX9) (N := 11) hx hb hts hin9 hown hK.1 hP 0 rfl rfl 7 (by decide) k_1 (fun _ h9 => h9) rfl dX9_trace_36 ?_
        refine lv_iload_n hx hb dX9_trace_39 rfl (lv_at hl 1 rfl) ?_
        refine lv_iload_n hx hb dX9_trace_40 rfl (lv_at hl 2 rfl) ?_
        refine lv_iload_n hx hb dX9_trace_41 rfl (lv_at hl 3 rfl) ?_
        refine aft_v (wr := [(ad 0 0, .inr (9, [.ref (ad 1 0), .ref (ad 2 0), .ref (ad 4 0), .ref (ad 5 0), .ref (ad 6 0), .ref (ad 7 0), .ref (ad 8 0), .ref (ad 9 0), .ref (ad 10 0), .ref (ad 11 0), .ref (ad 12 0)])), (ad 4 0, .inr (1, [.ref ((ad 4) 1), .ref ((ad 4) 2), .int (nI rk), .int (nI sl)])), (ad 4 1, .inl (cI, 7, .inl (fun i9 => nI (kd i9)))), (ad 4 2, .inl (cI, 175, .inl (fun i9 => nI (tn i9))))]) (va_runV (As := [.int (nI k), .int (nI o), .int (nI d)]) (rest := []) ⟨hx, hb, hml, hown, hts⟩ (c_X8_add (h := (ad 9)) (tr := tr) (tq := tq) (td := td) (tc := tc) (k := k) (o := o) (d := d) (htc := by first | assumption | omega | exact hok.1 _ (by omega) | exact hok.2.2 _ _ (by omega) (by omega) | exact hok.2.1) (hd := by first | assumption | omega | exact hok.1 _ (by omega) | exact hok.2.2 _ _ (by omega) (by omega) | exact hok.2.1) _) (cwV 3 hts gX9_trace_X8_add rfl rfl rfl (by decide +kernel) ⟨Nat.le_of_ble_eq_true rfl, Nat.le_of_ble_eq_true rfl⟩) (preV (cq := (RX8, TX8, 4)) (q0 := 1) (ci := 8) hK hP hD [1, 2, 3, 4] rfl rfl rfl rfl) rfl rfl hl.1 rfl (lv_room (Nat.le_of_ble_eq_true rfl)) dX9_trace_42 ⟨Nat.le_of_ble_eq_true rfl, Nat.le_of_ble_eq_true rfl⟩) hP hD hS hA [1, 2, 3, 4] [0, 5, 6, 7] rfl rfl rfl (by decide) (fun uu9 H locs hw hP hD hS => ?_)
        have hP : va_P G vwCl [(ad 0 0, .inr (9, [.ref (ad 1 0), .ref (ad 2 0), .ref (ad 4 0), .ref (ad 5 0), .ref (ad 6 0), .ref (ad 7 0), .ref (ad 8 0), .ref (ad 9 0), .ref (ad 10 0), .ref (ad 11 0), .ref (ad 12 0)])), (ad 4 0, .inr (1, [.ref ((ad 4) 1), .ref ((ad 4) 2), .int (nI rk), .int (nI sl)])), (ad 4 1, .inl (cI, 7, .inl (fun i9 => nI (kd i9)))), (ad 4 2, .inl (cI, 175, .inl (fun i9 => nI (tn i9)))), (ad 9 0, .inr (8, [.ref ((ad 9) 1), .ref ((ad 9) 2), .ref ((ad 9) 3), .int (nI (tc + 1))])), (ad 9 1, .inl (cI, 6, .inl (fun i9 => nI ((va_up tr tc k) i9)))), (ad 9 2, .inl (cI, 6, .inl (fun i9 => nI ((va_up tq tc o) i9)))), (ad 9 3, .inl (cZ, 6, .inl (fun i9 => nI ((va_up td tc d) i9))))] _ := hP
        have hD : va_D A [(ad 0 0, .inr (9, [.ref (ad 1 0), .ref (ad 2 0), .ref (ad 4 0), .ref (ad 5 0), .ref (ad 6 0), .ref (ad 7 0), .ref (ad 8 0), .ref (ad 9 0), .ref (ad 10 0), .ref (ad 11 0), .ref (ad 12 0)])), (ad 4 0, .inr (1, [.ref ((ad 4) 1), .ref ((ad 4) 2), .int (nI rk), .int (nI sl)])), (ad 4 1, .inl (cI, 7, .inl (fun i9 => nI (kd i9)))), (ad 4 2, .inl (cI, 175, .inl (fun i9 => nI (tn i9)))), (ad 9 0, .inr (8, [.ref ((ad 9) 1), .ref ((ad 9) 2), .ref ((ad 9) 3), .int (nI (tc + 1))])), (ad 9 1, .inl (cI, 6, .inl (fun i9 => nI ((va_up tr tc k) i9)))), (ad 9 2, .inl (cI, 6, .inl (fun i9 => nI ((va_up tq tc o) i9)))), (ad 9 3, .inl (cZ, 6, .inl (fun i9 => nI ((va_up td tc d) i9))))] := hD
        refine lv_aload_n hx hb dX9_trace_45 rfl (lv_at hl 0 rfl) ?_
        refine va_get (D := G) (ci := 9) (v := .ref (ad 9 0)) (C := RX9) (T := TX9) (N := 11) hx hb hts hin9 hown hK.1 hP 0 rfl rfl 7 (by decide) k_1 (fun _ h9 => h9) rfl dX9_trace_46 ?_
        refine va_get (D := G) (ci := 8) (v := .int (nI (tc + 1))) (C := RX8) (T := TX8) (N := 4) hx hb hts hin8 hown hK.1 hP 4 rfl rfl 3 (by decide) k_2 (fun _ h9 => h9) rfl dX9_trace_49 ?_
        exact endI hx hb hr hlocks ((va_up tr tc k, va_up tq tc o, va_up td tc d, tc + 1)) (TcP_ok (by omega) hk ho (by omega)) (hP.sub [0, 1, 2, 3, 4, 5, 6, 7] rfl) (hD.sub [0, 1, 2, 3, 4, 5, 6, 7] (by decide) rfl) hS dX9_trace_52
      · skip
        have c_29 := n_ltF c_29 (by omega) (by omega)
        refine lv_bipush (v := (-4)) hx hb dX9_trace_32 (by decide) ?_
        exact endI hx hb hr hlocks ((tr, tq, td, tc)) (TcP_full (by omega) hk ho (by omega)) (hP.sub [0, 5, 6, 7, 1, 2, 3, 4] rfl) (hD.sub [0, 5, 6, 7, 1, 2, 3, 4] (by decide) rfl) hS dX9_trace_34
    · skip
      have c_15 := bI_f c_15
      refine lv_iconst (v := (-1)) hx hb dX9_trace_18 (by decide) ?_
      exact endI hx hb hr hlocks ((tr, tq, td, tc)) (TcP_no (fun h => c_15 h.2)) (hP.sub [0, 5, 6, 7, 1, 2, 3, 4] rfl) (hD.sub [0, 5, 6, 7, 1, 2, 3, 4] (by decide) rfl) hS dX9_trace_19

set_option maxHeartbeats 4000000 in
set_option maxRecDepth 100000 in
theorem c_X9_untrace {l : Launch} {G : va_G} {cI cJ cZ cS : ClassId} (ad : Nat → Nat → Nat) (tr : Nat → Nat) (tq : Nat → Nat) (td : Nat → Nat) (tc : Nat) : CI l G (kT cI cJ cZ cS) (S := Unit) yX9_untrace wsX9_untrace { frames := 1, cells := 0, slots := 0, locals := 20 } [.ref (ad 0 0)] [(ad 0 0, .inr (9, [.ref (ad 1 0), .ref (ad 2 0), .ref (ad 4 0), .ref (ad 5 0), .ref (ad 6 0), .ref (ad 7 0), .ref (ad 8 0), .ref (ad 9 0), .ref (ad 10 0), .ref (ad 11 0), .ref (ad 12 0)])), (ad 9 0, .inr (8, [.ref (ad 9 1), .ref (ad 9 2), .ref (ad 9 3), .int (nI tc)])), (ad 9 1, .inl (cI, 6, .inl (fun i9 => nI (tr i9)))), (ad 9 2, .inl (cI, 6, .inl (fun i9 => nI (tq i9)))), (ad 9 3, .inl (cZ, 6, .inl (fun i9 => nI (td i9))))] (fun res _ => res = nI tc) (fun _ => [(ad 0 0, .inr (9, [.ref (ad 1 0), .ref (ad 2 0), .ref (ad 4 0), .ref (ad 5 0), .ref (ad 6 0), .ref (ad 7 0), .ref (ad 8 0), .ref (ad 9 0), .ref (ad 10 0), .ref (ad 11 0), .ref (ad 12 0)])), (ad 9 0, .inr (8, [.ref (ad 9 1), .ref (ad 9 2), .ref (ad 9 3), .int (nI 0)])), (ad 9 1, .inl (cI, 6, .inl (fun i9 => nI (tr i9)))), (ad 9 2, .inl (cI, 6, .inl (fun i9 => nI (tq i9)))), (ad 9 3, .inl (cZ, 6, .inl (fun i9 => nI (td i9))))]) := by
  refine CI.of (cc := cX9_untrace) (maxL := 2) (by decide) rfl (Nat.le_of_ble_eq_true rfl) ?_
  intro p9 e9 s m below meth co9 A ls hB
  obtain ⟨hx, hb, hml, hr, hts, hown, hlocks, hmn, hK, hP, hD, hS, hA, hl⟩ := hB
  have hP : va_P G vwCl [(ad 0 0, .inr (9, [.ref (ad 1 0), .ref (ad 2 0), .ref (ad 4 0), .ref (ad 5 0), .ref (ad 6 0), .ref (ad 7 0), .ref (ad 8 0), .ref (ad 9 0), .ref (ad 10 0), .ref (ad 11 0), .ref (ad 12 0)])), (ad 9 0, .inr (8, [.ref (ad 9 1), .ref (ad 9 2), .ref (ad 9 3), .int (nI tc)])), (ad 9 1, .inl (cI, 6, .inl (fun i9 => nI (tr i9)))), (ad 9 2, .inl (cI, 6, .inl (fun i9 => nI (tq i9)))), (ad 9 3, .inl (cZ, 6, .inl (fun i9 => nI (td i9))))] s.heap := hP
  have hD : va_D A [(ad 0 0, .inr (9, [.ref (ad 1 0), .ref (ad 2 0), .ref (ad 4 0), .ref (ad 5 0), .ref (ad 6 0), .ref (ad 7 0), .ref (ad 8 0), .ref (ad 9 0), .ref (ad 10 0), .ref (ad 11 0), .ref (ad 12 0)])), (ad 9 0, .inr (8, [.ref (ad 9 1), .ref (ad 9 2), .ref (ad 9 3), .int (nI tc)])), (ad 9 1, .inl (cI, 6, .inl (fun i9 => nI (tr i9)))), (ad 9 2, .inl (cI, 6, .inl (fun i9 => nI (tq i9)))), (ad 9 3, .inl (cZ, 6, .inl (fun i9 => nI (td i9))))] := hD
  have hl : lv_has ls 2 [(0, .ref (ad 0 0))] := hl
  have k_0 := hts (.fieldLink RX9 57 "HearsayMarch" "traces" "LHearsayMarch$Traces;") (by decide +kernel)
  have k_1 := hts (.fieldLink RX9 129 "HearsayMarch$Traces" "count" "I") (by decide +kernel)
  have hin8 : ∀ w ∈ wsX80, w ∈ wsX9_untrace := by decide +kernel
  have hin9 : ∀ w ∈ wsX90, w ∈ wsX9_untrace := by decide +kernel
  refine lv_aload_n hx hb dX9_untrace_0 rfl (lv_at hl 0 rfl) ?_
  refine va_get (D := G) (ci := 9) (v := .ref (ad 9 0)) (C := RX9) (T := TX9) (N := 11) hx hb hts hin9 hown hK.1 hP 0 rfl rfl 7 (by decide) k_0 (fun _ h9 => h9) rfl dX9_untrace_1 ?_
  refine va_get (D := G) (ci := 8) (v := .int (nI tc)) (C := RX8) (T := TX8) (N := 4) hx hb hts hin8 hown hK.1 hP 1 rfl rfl 3 (by decide) k_1 (fun _ h9 => h9) rfl dX9_untrace_4 ?_
  refine lv_istore_n (lv' := [(1, .int (nI tc)), (0, .ref (ad 0 0))]) hx hb dX9_untrace_7 rfl hl (by decide) rfl (fun ls hl => ?_)
  refine lv_aload_n hx hb dX9_untrace_8 rfl (lv_at hl 1 rfl) ?_
  refine va_get (D := G) (ci := 9) (v := .ref (ad 9 0)) (C := RX9) (T := TX9) (N := 11) hx hb hts hin9 hown hK.1 hP 0 rfl rfl 7 (by decide) k_0 (fun _ h9 => h9) rfl dX9_untrace_9 ?_
  refine aft_v (wr := [(ad 0 0, .inr (9, [.ref (ad 1 0), .ref (ad 2 0), .ref (ad 4 0), .ref (ad 5 0), .ref (ad 6 0), .ref (ad 7 0), .ref (ad 8 0), .ref (ad 9 0), .ref (ad 10 0), .ref (ad 11 0), .ref (ad 12 0)]))]) (va_runV (As := []) (rest := []) ⟨hx, hb, hml, hown, hts⟩ (c_X8_clear (h := (ad 9)) (tr := tr) (tq := tq) (td := td) (tc := tc) _) (cwV 0 hts gX9_untrace_X8_clear rfl rfl rfl (by decide +kernel) ⟨Nat.le_of_ble_eq_true rfl, Nat.le_of_ble_eq_true rfl⟩) (preV (cq := (RX8, TX8, 4)) (q0 := 1) (ci := 8) hK hP hD [1, 2, 3, 4] rfl rfl rfl rfl) rfl rfl hl.1 rfl (lv_room (Nat.le_of_ble_eq_true rfl)) dX9_untrace_12 ⟨Nat.le_of_ble_eq_true rfl, Nat.le_of_ble_eq_true rfl⟩) hP hD hS hA [1, 2, 3, 4] [0] rfl rfl rfl (by decide) (fun uu9 H locs hw hP hD hS => ?_)
  have hP : va_P G vwCl [(ad 0 0, .inr (9, [.ref (ad 1 0), .ref (ad 2 0), .ref (ad 4 0), .ref (ad 5 0), .ref (ad 6 0), .ref (ad 7 0), .ref (ad 8 0), .ref (ad 9 0), .ref (ad 10 0), .ref (ad 11 0), .ref (ad 12 0)])), (ad 9 0, .inr (8, [.ref ((ad 9) 1), .ref ((ad 9) 2), .ref ((ad 9) 3), .int (nI 0)])), (ad 9 1, .inl (cI, 6, .inl (fun i9 => nI (tr i9)))), (ad 9 2, .inl (cI, 6, .inl (fun i9 => nI (tq i9)))), (ad 9 3, .inl (cZ, 6, .inl (fun i9 => nI (td i9))))] _ := hP
  have hD : va_D A [(ad 0 0, .inr (9, [.ref (ad 1 0), .ref (ad 2 0), .ref (ad 4 0), .ref (ad 5 0), .ref (ad 6 0), .ref (ad 7 0), .ref (ad 8 0), .ref (ad 9 0), .ref (ad 10 0), .ref (ad 11 0), .ref (ad 12 0)])), (ad 9 0, .inr (8, [.ref ((ad 9) 1), .ref ((ad 9) 2), .ref ((ad 9) 3), .int (nI 0)])), (ad 9 1, .inl (cI, 6, .inl (fun i9 => nI (tr i9)))), (ad 9 2, .inl (cI, 6, .inl (fun i9 => nI (tq i9)))), (ad 9 3, .inl (cZ, 6, .inl (fun i9 => nI (td i9))))] := hD
  refine lv_iload_n hx hb dX9_untrace_15 rfl (lv_at hl 0 rfl) ?_
  exact endI hx hb hr hlocks (()) (rfl) (hP.sub [0, 1, 2, 3, 4] rfl) (hD.sub [0, 1, 2, 3, 4] (by decide) rfl) hS dX9_untrace_16

set_option maxHeartbeats 4000000 in
set_option maxRecDepth 100000 in
theorem c_X9_fits {l : Launch} {G : va_G} {cI cJ cZ cS : ClassId} (ad : Nat → Nat → Nat) (kd : Nat → Nat) (tn : Nat → Nat) (rk : Nat) (sl : Nat) (tr : Nat → Nat) (tq : Nat → Nat) (td : Nat → Nat) (tc : Nat) (en : Nat → Nat) (eo : Nat → Nat) (hok : ArmyOk kd tn) (hrk : rk < 8) (htr : TrOk tr tq td tc) (htc : tc < 7) : CI l G (kT cI cJ cZ cS) (S := (Nat → Nat) × (Nat → Nat)) yX9_fits wsX9_fits { frames := 7, cells := 0, slots := 0, locals := 168 } [.ref (ad 0 0)] [(ad 0 0, .inr (9, [.ref (ad 1 0), .ref (ad 2 0), .ref (ad 4 0), .ref (ad 5 0), .ref (ad 6 0), .ref (ad 7 0), .ref (ad 8 0), .ref (ad 9 0), .ref (ad 10 0), .ref (ad 11 0), .ref (ad 12 0)])), (ad 4 0, .inr (1, [.ref (ad 4 1), .ref (ad 4 2), .int (nI rk), .int (nI sl)])), (ad 4 1, .inl (cI, 7, .inl (fun i9 => nI (kd i9)))), (ad 4 2, .inl (cI, 175, .inl (fun i9 => nI (tn i9)))), (ad 9 0, .inr (8, [.ref (ad 9 1), .ref (ad 9 2), .ref (ad 9 3), .int (nI tc)])), (ad 9 1, .inl (cI, 6, .inl (fun i9 => nI (tr i9)))), (ad 9 2, .inl (cI, 6, .inl (fun i9 => nI (tq i9)))), (ad 9 3, .inl (cZ, 6, .inl (fun i9 => nI (td i9)))), (ad 11 0, .inr (4, [.ref (ad 11 1), .ref (ad 11 2)])), (ad 11 1, .inl (cI, 5, .inl (fun i9 => nI (en i9)))), (ad 11 2, .inl (cI, 5, .inl (fun i9 => nI (eo i9))))] (fun res uu9 => match uu9 with | (e1, o1) => res = nI (sumN (cntN tn kd tr tq td tc rk) 5)) (fun uu9 => match uu9 with | (e1, o1) => [(ad 0 0, .inr (9, [.ref (ad 1 0), .ref (ad 2 0), .ref (ad 4 0), .ref (ad 5 0), .ref (ad 6 0), .ref (ad 7 0), .ref (ad 8 0), .ref (ad 9 0), .ref (ad 10 0), .ref (ad 11 0), .ref (ad 12 0)])), (ad 4 0, .inr (1, [.ref (ad 4 1), .ref (ad 4 2), .int (nI rk), .int (nI sl)])), (ad 4 1, .inl (cI, 7, .inl (fun i9 => nI (kd i9)))), (ad 4 2, .inl (cI, 175, .inl (fun i9 => nI (tn i9)))), (ad 9 0, .inr (8, [.ref (ad 9 1), .ref (ad 9 2), .ref (ad 9 3), .int (nI tc)])), (ad 9 1, .inl (cI, 6, .inl (fun i9 => nI (tr i9)))), (ad 9 2, .inl (cI, 6, .inl (fun i9 => nI (tq i9)))), (ad 9 3, .inl (cZ, 6, .inl (fun i9 => nI (td i9)))), (ad 11 0, .inr (4, [.ref (ad 11 1), .ref (ad 11 2)])), (ad 11 1, .inl (cI, 5, .inl (fun i9 => nI (e1 i9)))), (ad 11 2, .inl (cI, 5, .inl (fun i9 => nI (o1 i9))))]) := by
  refine CI.of (cc := cX9_fits) (maxL := 3) (by decide) rfl (Nat.le_of_ble_eq_true rfl) ?_
  intro p9 e9 s m below meth co9 A ls hB
  obtain ⟨hx, hb, hml, hr, hts, hown, hlocks, hmn, hK, hP, hD, hS, hA, hl⟩ := hB
  have hP : va_P G vwCl [(ad 0 0, .inr (9, [.ref (ad 1 0), .ref (ad 2 0), .ref (ad 4 0), .ref (ad 5 0), .ref (ad 6 0), .ref (ad 7 0), .ref (ad 8 0), .ref (ad 9 0), .ref (ad 10 0), .ref (ad 11 0), .ref (ad 12 0)])), (ad 4 0, .inr (1, [.ref (ad 4 1), .ref (ad 4 2), .int (nI rk), .int (nI sl)])), (ad 4 1, .inl (cI, 7, .inl (fun i9 => nI (kd i9)))), (ad 4 2, .inl (cI, 175, .inl (fun i9 => nI (tn i9)))), (ad 9 0, .inr (8, [.ref (ad 9 1), .ref (ad 9 2), .ref (ad 9 3), .int (nI tc)])), (ad 9 1, .inl (cI, 6, .inl (fun i9 => nI (tr i9)))), (ad 9 2, .inl (cI, 6, .inl (fun i9 => nI (tq i9)))), (ad 9 3, .inl (cZ, 6, .inl (fun i9 => nI (td i9)))), (ad 11 0, .inr (4, [.ref (ad 11 1), .ref (ad 11 2)])), (ad 11 1, .inl (cI, 5, .inl (fun i9 => nI (en i9)))), (ad 11 2, .inl (cI, 5, .inl (fun i9 => nI (eo i9))))] s.heap := hP
  have hD : va_D A [(ad 0 0, .inr (9, [.ref (ad 1 0), .ref (ad 2 0), .ref (ad 4 0), .ref (ad 5 0), .ref (ad 6 0), .ref (ad 7 0), .ref (ad 8 0), .ref (ad 9 0), .ref (ad 10 0), .ref (ad 11 0), .ref (ad 12 0)])), (ad 4 0, .inr (1, [.ref (ad 4 1), .ref (ad 4 2), .int (nI rk), .int (nI sl)])), (ad 4 1, .inl (cI, 7, .inl (fun i9 => nI (kd i9)))), (ad 4 2, .inl (cI, 175, .inl (fun i9 => nI (tn i9)))), (ad 9 0, .inr (8, [.ref (ad 9 1), .ref (ad 9 2), .ref (ad 9 3), .int (nI tc)])), (ad 9 1, .inl (cI, 6, .inl (fun i9 => nI (tr i9)))), (ad 9 2, .inl (cI, 6, .inl (fun i9 => nI (tq i9)))), (ad 9 3, .inl (cZ, 6, .inl (fun i9 => nI (td i9)))), (ad 11 0, .inr (4, [.ref (ad 11 1), .ref (ad 11 2)])), (ad 11 1, .inl (cI, 5, .inl (fun i9 => nI (en i9)))), (ad 11 2, .inl (cI, 5, .inl (fun i9 => nI (eo i9))))] := hD
  have hl : lv_has ls 3 [(0, .ref (ad 0 0))] := hl
  have k_0 := hts (.fieldLink RX9 71 "HearsayMarch" "rows" "LHearsayMarch$Rows;") (by decide +kernel)
  have k_1 := hts (.fieldLink RX9 26 "HearsayMarch" "army" "LHearsayMarch$Army;") (by decide +kernel)
  have k_2 := hts (.fieldLink RX9 57 "HearsayMarch" "traces" "LHearsayMarch$Traces;") (by decide +kernel)
  have hin9 : ∀ w ∈ wsX90, w ∈ wsX9_fits := by decide +kernel
  refine lv_iconst (v := nI 0) hx hb dX9_fits_0 (by decide) ?_
  refine lv_istore_n (lv' := [(1, .int (nI 0)), (0, .ref (ad 0 0))]) hx hb dX9_fits_1 rfl hl (by decide) rfl (fun ls hl => ?_)
  refine lv_iconst (v := nI 0) hx hb dX9_fits_2 (by decide) ?_
  refine lv_istore_n (lv' := [(2, .int (nI 0)), (1, .int (nI 0)), (0, .ref (ad 0 0))]) hx hb dX9_fits_3 rfl hl (by decide) rfl (fun ls hl => ?_)
  refine loopW (σ := Nat × (Nat → Nat) × (Nat → Nat)) 4 (fun xx9 H locs ls => match xx9 with | (o, q1, q2) => (o ≤ 5) ∧ va_P G vwCl [(ad 0 0, .inr (9, [.ref (ad 1 0), .ref (ad 2 0), .ref (ad 4 0), .ref (ad 5 0), .ref (ad 6 0), .ref (ad 7 0), .ref (ad 8 0), .ref (ad 9 0), .ref (ad 10 0), .ref (ad 11 0), .ref (ad 12 0)])), (ad 4 0, .inr (1, [.ref (ad 4 1), .ref (ad 4 2), .int (nI rk), .int (nI sl)])), (ad 4 1, .inl (cI, 7, .inl (fun i9 => nI (kd i9)))), (ad 4 2, .inl (cI, 175, .inl (fun i9 => nI (tn i9)))), (ad 9 0, .inr (8, [.ref (ad 9 1), .ref (ad 9 2), .ref (ad 9 3), .int (nI tc)])), (ad 9 1, .inl (cI, 6, .inl (fun i9 => nI (tr i9)))), (ad 9 2, .inl (cI, 6, .inl (fun i9 => nI (tq i9)))), (ad 9 3, .inl (cZ, 6, .inl (fun i9 => nI (td i9)))), (ad 11 0, .inr (4, [.ref (ad 11 1), .ref (ad 11 2)])), (ad 11 1, .inl (cI, 5, .inl (fun i9 => nI (q1 i9)))), (ad 11 2, .inl (cI, 5, .inl (fun i9 => nI (q2 i9))))] H ∧ va_D A [(ad 0 0, .inr (9, [.ref (ad 1 0), .ref (ad 2 0), .ref (ad 4 0), .ref (ad 5 0), .ref (ad 6 0), .ref (ad 7 0), .ref (ad 8 0), .ref (ad 9 0), .ref (ad 10 0), .ref (ad 11 0), .ref (ad 12 0)])), (ad 4 0, .inr (1, [.ref (ad 4 1), .ref (ad 4 2), .int (nI rk), .int (nI sl)])), (ad 4 1, .inl (cI, 7, .inl (fun i9 => nI (kd i9)))), (ad 4 2, .inl (cI, 175, .inl (fun i9 => nI (tn i9)))), (ad 9 0, .inr (8, [.ref (ad 9 1), .ref (ad 9 2), .ref (ad 9 3), .int (nI tc)])), (ad 9 1, .inl (cI, 6, .inl (fun i9 => nI (tr i9)))), (ad 9 2, .inl (cI, 6, .inl (fun i9 => nI (tq i9)))), (ad 9 3, .inl (cZ, 6, .inl (fun i9 => nI (td i9)))), (ad 11 0, .inr (4, [.ref (ad 11 1), .ref (ad 11 2)])), (ad 11 1, .inl (cI, 5, .inl (fun i9 => nI (q1 i9)))), (ad 11 2, .inl (cI, 5, .inl (fun i9 => nI (q2 i9))))] ∧ va_S A s.heap H locs ∧ lv_has ls 3 [(2, .int (nI o)), (1, .int (nI (sumN (cntN tn kd tr tq td tc rk) o))), (0, .ref (ad 0 0))]) (fun xx9 => match xx9 with | (o, q1, q2) => []) (fun xx9 => match xx9 with | (o, q1, q2) => 5 - o) ?_ (0, en, eo) ⟨by first | assumption | omega | (simp; done), hP.sub [0, 1, 2, 3, 4, 5, 6, 7, 8, 9, 10] rfl, hD.sub [0, 1, 2, 3, 4, 5, 6, 7, 8, 9, 10] (by decide) rfl, hS, lv_sub hl [0, 1, 2] rfl⟩
  intro xx9 H locs ls hI ih_4
  obtain ⟨o, q1, q2⟩ := xx9
  obtain ⟨ho9, hP, hD, hS, hl⟩ := hI
  have ho9 : o ≤ 5 := ho9
  have hP : va_P G vwCl [(ad 0 0, .inr (9, [.ref (ad 1 0), .ref (ad 2 0), .ref (ad 4 0), .ref (ad 5 0), .ref (ad 6 0), .ref (ad 7 0), .ref (ad 8 0), .ref (ad 9 0), .ref (ad 10 0), .ref (ad 11 0), .ref (ad 12 0)])), (ad 4 0, .inr (1, [.ref (ad 4 1), .ref (ad 4 2), .int (nI rk), .int (nI sl)])), (ad 4 1, .inl (cI, 7, .inl (fun i9 => nI (kd i9)))), (ad 4 2, .inl (cI, 175, .inl (fun i9 => nI (tn i9)))), (ad 9 0, .inr (8, [.ref (ad 9 1), .ref (ad 9 2), .ref (ad 9 3), .int (nI tc)])), (ad 9 1, .inl (cI, 6, .inl (fun i9 => nI (tr i9)))), (ad 9 2, .inl (cI, 6, .inl (fun i9 => nI (tq i9)))), (ad 9 3, .inl (cZ, 6, .inl (fun i9 => nI (td i9)))), (ad 11 0, .inr (4, [.ref (ad 11 1), .ref (ad 11 2)])), (ad 11 1, .inl (cI, 5, .inl (fun i9 => nI (q1 i9)))), (ad 11 2, .inl (cI, 5, .inl (fun i9 => nI (q2 i9))))] _ := hP
  have hD : va_D A [(ad 0 0, .inr (9, [.ref (ad 1 0), .ref (ad 2 0), .ref (ad 4 0), .ref (ad 5 0), .ref (ad 6 0), .ref (ad 7 0), .ref (ad 8 0), .ref (ad 9 0), .ref (ad 10 0), .ref (ad 11 0), .ref (ad 12 0)])), (ad 4 0, .inr (1, [.ref (ad 4 1), .ref (ad 4 2), .int (nI rk), .int (nI sl)])), (ad 4 1, .inl (cI, 7, .inl (fun i9 => nI (kd i9)))), (ad 4 2, .inl (cI, 175, .inl (fun i9 => nI (tn i9)))), (ad 9 0, .inr (8, [.ref (ad 9 1), .ref (ad 9 2), .ref (ad 9 3), .int (nI tc)])), (ad 9 1, .inl (cI, 6, .inl (fun i9 => nI (tr i9)))), (ad 9 2, .inl (cI, 6, .inl (fun i9 => nI (tq i9)))), (ad 9 3, .inl (cZ, 6, .inl (fun i9 => nI (td i9)))), (ad 11 0, .inr (4, [.ref (ad 11 1), .ref (ad 11 2)])), (ad 11 1, .inl (cI, 5, .inl (fun i9 => nI (q1 i9)))), (ad 11 2, .inl (cI, 5, .inl (fun i9 => nI (q2 i9))))] := hD
  have hl : lv_has ls 3 [(2, .int (nI o)), (1, .int (nI (sumN (cntN tn kd tr tq td tc rk) o))), (0, .ref (ad 0 0))] := hl
  refine lv_iload_n hx hb dX9_fits_4 rfl (lv_at hl 0 rfl) ?_
  refine lv_iconst (v := nI 5) hx hb dX9_fits_5 (by decide) ?_
  refine lv_icmp_ge (tgt := 34) hx hb dX9_fits_6 (by decide) (fun c_6 => ?_) (fun c_6 => ?_)
  · skip
    have c_6 := n_geT c_6 (by omega) (by omega)
    refine lv_iload_n hx hb dX9_fits_34 rfl (lv_at hl 1 rfl) ?_
    exact endI hx hb hr hlocks ((q1, q2)) (by rw [show o = 5 by omega]) (hP.sub [0, 1, 2, 3, 4, 5, 6, 7, 8, 9, 10] rfl) (hD.sub [0, 1, 2, 3, 4, 5, 6, 7, 8, 9, 10] (by decide) rfl) hS dX9_fits_35
  · skip
    have c_6 := n_geF c_6 (by omega) (by omega)
    refine lv_iload_n hx hb dX9_fits_9 rfl (lv_at hl 1 rfl) ?_
    refine lv_aload_n hx hb dX9_fits_10 rfl (lv_at hl 2 rfl) ?_
    refine va_get (D := G) (ci := 9) (v := .ref (ad 11 0)) (C := RX9) (T := TX9) (N := 11) hx hb hts hin9 hown hK.1 hP 0 rfl rfl 9 (by decide) k_0 (fun _ h9 => h9) rfl dX9_fits_11 ?_
    refine lv_aload_n hx hb dX9_fits_14 rfl (lv_at hl 2 rfl) ?_
    refine va_get (D := G) (ci := 9) (v := .ref (ad 4 0)) (C := RX9) (T := TX9) (N := 11) hx hb hts hin9 hown hK.1 hP 0 rfl rfl 2 (by decide) k_1 (fun _ h9 => h9) rfl dX9_fits_15 ?_
    refine lv_aload_n hx hb dX9_fits_18 rfl (lv_at hl 2 rfl) ?_
    refine va_get (D := G) (ci := 9) (v := .ref (ad 9 0)) (C := RX9) (T := TX9) (N := 11) hx hb hts hin9 hown hK.1 hP 0 rfl rfl 7 (by decide) k_2 (fun _ h9 => h9) rfl dX9_fits_19 ?_
    refine lv_iload_n hx hb dX9_fits_22 rfl (lv_at hl 0 rfl) ?_
    refine aft_i (wr := [(ad 0 0, .inr (9, [.ref (ad 1 0), .ref (ad 2 0), .ref (ad 4 0), .ref (ad 5 0), .ref (ad 6 0), .ref (ad 7 0), .ref (ad 8 0), .ref (ad 9 0), .ref (ad 10 0), .ref (ad 11 0), .ref (ad 12 0)]))]) (va_runV (As := [.ref (ad 4 0), .ref (ad 9 0), .int (nI o)]) (rest := [.int (nI (sumN (cntN tn kd tr tq td tc rk) o))]) ⟨hx, hb, hml, hown, hts⟩ (c_X4_countFrom (g := (ad 11)) (en := q1) (on := q2) (h := (ad 4)) (kd := kd) (tn := tn) (rk := rk) (sl := sl) (b := (ad 9)) (tr := tr) (tq := tq) (td := td) (tc := tc) (o := o) (hok := by first | assumption | omega | exact hok.1 _ (by omega) | exact hok.2.2 _ _ (by omega) (by omega) | exact hok.2.1) (htr := by first | assumption | omega | exact hok.1 _ (by omega) | exact hok.2.2 _ _ (by omega) (by omega) | exact hok.2.1) (hrk := by first | assumption | omega | exact hok.1 _ (by omega) | exact hok.2.2 _ _ (by omega) (by omega) | exact hok.2.1) (htc := by first | assumption | omega | exact hok.1 _ (by omega) | exact hok.2.2 _ _ (by omega) (by omega) | exact hok.2.1) (ho := by first | assumption | omega | exact hok.1 _ (by omega) | exact hok.2.2 _ _ (by omega) (by omega) | exact hok.2.1) _) (cwV 3 hts gX9_fits_X4_countFrom rfl rfl rfl (by decide +kernel) ⟨Nat.le_of_ble_eq_true rfl, Nat.le_of_ble_eq_true rfl⟩) (preV (cq := (RX4, TX4, 2)) (q0 := 8) (ci := 4) hK hP hD [8, 9, 10, 1, 2, 3, 4, 5, 6, 7] rfl rfl rfl rfl) rfl rfl hl.1 rfl (lv_room (Nat.le_of_ble_eq_true rfl)) dX9_fits_23 ⟨Nat.le_of_ble_eq_true rfl, Nat.le_of_ble_eq_true rfl⟩) hP hD hS hA [8, 9, 10, 1, 2, 3, 4, 5, 6, 7] [0] rfl rfl rfl (by decide) (fun r_23 uu9 H locs hw hP hD hS => ?_)
    obtain ⟨e1_23, o1_23⟩ := uu9
    have hP : va_P G vwCl [(ad 0 0, .inr (9, [.ref (ad 1 0), .ref (ad 2 0), .ref (ad 4 0), .ref (ad 5 0), .ref (ad 6 0), .ref (ad 7 0), .ref (ad 8 0), .ref (ad 9 0), .ref (ad 10 0), .ref (ad 11 0), .ref (ad 12 0)])), (ad 11 0, .inr (4, [.ref ((ad 11) 1), .ref ((ad 11) 2)])), (ad 11 1, .inl (cI, 5, .inl (fun i9 => nI (e1_23 i9)))), (ad 11 2, .inl (cI, 5, .inl (fun i9 => nI (o1_23 i9)))), (ad 4 0, .inr (1, [.ref ((ad 4) 1), .ref ((ad 4) 2), .int (nI rk), .int (nI sl)])), (ad 4 1, .inl (cI, 7, .inl (fun i9 => nI (kd i9)))), (ad 4 2, .inl (cI, 175, .inl (fun i9 => nI (tn i9)))), (ad 9 0, .inr (8, [.ref ((ad 9) 1), .ref ((ad 9) 2), .ref ((ad 9) 3), .int (nI tc)])), (ad 9 1, .inl (cI, 6, .inl (fun i9 => nI (tr i9)))), (ad 9 2, .inl (cI, 6, .inl (fun i9 => nI (tq i9)))), (ad 9 3, .inl (cZ, 6, .inl (fun i9 => nI (td i9))))] _ := hP
    have hD : va_D A [(ad 0 0, .inr (9, [.ref (ad 1 0), .ref (ad 2 0), .ref (ad 4 0), .ref (ad 5 0), .ref (ad 6 0), .ref (ad 7 0), .ref (ad 8 0), .ref (ad 9 0), .ref (ad 10 0), .ref (ad 11 0), .ref (ad 12 0)])), (ad 11 0, .inr (4, [.ref ((ad 11) 1), .ref ((ad 11) 2)])), (ad 11 1, .inl (cI, 5, .inl (fun i9 => nI (e1_23 i9)))), (ad 11 2, .inl (cI, 5, .inl (fun i9 => nI (o1_23 i9)))), (ad 4 0, .inr (1, [.ref ((ad 4) 1), .ref ((ad 4) 2), .int (nI rk), .int (nI sl)])), (ad 4 1, .inl (cI, 7, .inl (fun i9 => nI (kd i9)))), (ad 4 2, .inl (cI, 175, .inl (fun i9 => nI (tn i9)))), (ad 9 0, .inr (8, [.ref ((ad 9) 1), .ref ((ad 9) 2), .ref ((ad 9) 3), .int (nI tc)])), (ad 9 1, .inl (cI, 6, .inl (fun i9 => nI (tr i9)))), (ad 9 2, .inl (cI, 6, .inl (fun i9 => nI (tq i9)))), (ad 9 3, .inl (cZ, 6, .inl (fun i9 => nI (td i9))))] := hD
    obtain rfl := hw
    refine top_i (y := nI (cntN tn kd tr tq td tc rk o)) rfl ?_
    refine lv_iadd hx hb dX9_fits_26 ?_
    refine top_i (y := nI (sumN (cntN tn kd tr tq td tc rk) o + (cntN tn kd tr tq td tc rk o))) (nI_add _ _) ?_
    refine lv_istore_n (lv' := [(1, .int (nI (sumN (cntN tn kd tr tq td tc rk) o + (cntN tn kd tr tq td tc rk o)))), (2, .int (nI o)), (0, .ref (ad 0 0))]) hx hb dX9_fits_27 rfl hl (by decide) rfl (fun ls hl => ?_)
    refine lv_iinc (v := nI (o + 1)) (lv' := [(2, .int (nI (o + 1))), (1, .int (nI (sumN (cntN tn kd tr tq td tc rk) o + (cntN tn kd tr tq td tc rk o)))), (0, .ref (ad 0 0))]) hx hb dX9_fits_28 hl (k := 1) rfl (nI_inc _ 1 1 (by decide)) (by decide) rfl (fun ls hl => ?_)
    refine lv_goto (tgt := 4) hx hb dX9_fits_31 (by decide) ?_
    exact ih_4 (o + 1, e1_23, o1_23) _ _ _ (by first | omega | (simp only []; omega) | (show _ < _; omega)) ⟨by first | assumption | omega | (simp; done), hP.sub [0, 4, 5, 6, 7, 8, 9, 10, 1, 2, 3] rfl, hD.sub [0, 4, 5, 6, 7, 8, 9, 10, 1, 2, 3] (by decide) rfl, hS, lv_sub hl [0, 1, 2] rfl⟩

set_option maxHeartbeats 4000000 in
set_option maxRecDepth 100000 in
theorem c_X9_told {l : Launch} {G : va_G} {cI cJ cZ cS : ClassId} (ad : Nat → Nat → Nat) (kd : Nat → Nat) (tn : Nat → Nat) (rk : Nat) (sl : Nat) (tr : Nat → Nat) (tq : Nat → Nat) (td : Nat → Nat) (tc : Nat) (en : Nat → Nat) (eo : Nat → Nat) (hok : ArmyOk kd tn) (hrk : rk < 8) (htr : TrOk tr tq td tc) (htc : tc < 7) : CI l G (kT cI cJ cZ cS) (S := (Nat → Nat) × (Nat → Nat)) yX9_told wsX9_told { frames := 7, cells := 0, slots := 0, locals := 168 } [.ref (ad 0 0)] [(ad 0 0, .inr (9, [.ref (ad 1 0), .ref (ad 2 0), .ref (ad 4 0), .ref (ad 5 0), .ref (ad 6 0), .ref (ad 7 0), .ref (ad 8 0), .ref (ad 9 0), .ref (ad 10 0), .ref (ad 11 0), .ref (ad 12 0)])), (ad 4 0, .inr (1, [.ref (ad 4 1), .ref (ad 4 2), .int (nI rk), .int (nI sl)])), (ad 4 1, .inl (cI, 7, .inl (fun i9 => nI (kd i9)))), (ad 4 2, .inl (cI, 175, .inl (fun i9 => nI (tn i9)))), (ad 9 0, .inr (8, [.ref (ad 9 1), .ref (ad 9 2), .ref (ad 9 3), .int (nI tc)])), (ad 9 1, .inl (cI, 6, .inl (fun i9 => nI (tr i9)))), (ad 9 2, .inl (cI, 6, .inl (fun i9 => nI (tq i9)))), (ad 9 3, .inl (cZ, 6, .inl (fun i9 => nI (td i9)))), (ad 11 0, .inr (4, [.ref (ad 11 1), .ref (ad 11 2)])), (ad 11 1, .inl (cI, 5, .inl (fun i9 => nI (en i9)))), (ad 11 2, .inl (cI, 5, .inl (fun i9 => nI (eo i9))))] (fun res uu9 => match uu9 with | (e1, o1) => res = nI (comN (cntN tn kd tr tq td tc rk) 5)) (fun uu9 => match uu9 with | (e1, o1) => [(ad 0 0, .inr (9, [.ref (ad 1 0), .ref (ad 2 0), .ref (ad 4 0), .ref (ad 5 0), .ref (ad 6 0), .ref (ad 7 0), .ref (ad 8 0), .ref (ad 9 0), .ref (ad 10 0), .ref (ad 11 0), .ref (ad 12 0)])), (ad 4 0, .inr (1, [.ref (ad 4 1), .ref (ad 4 2), .int (nI rk), .int (nI sl)])), (ad 4 1, .inl (cI, 7, .inl (fun i9 => nI (kd i9)))), (ad 4 2, .inl (cI, 175, .inl (fun i9 => nI (tn i9)))), (ad 9 0, .inr (8, [.ref (ad 9 1), .ref (ad 9 2), .ref (ad 9 3), .int (nI tc)])), (ad 9 1, .inl (cI, 6, .inl (fun i9 => nI (tr i9)))), (ad 9 2, .inl (cI, 6, .inl (fun i9 => nI (tq i9)))), (ad 9 3, .inl (cZ, 6, .inl (fun i9 => nI (td i9)))), (ad 11 0, .inr (4, [.ref (ad 11 1), .ref (ad 11 2)])), (ad 11 1, .inl (cI, 5, .inl (fun i9 => nI (e1 i9)))), (ad 11 2, .inl (cI, 5, .inl (fun i9 => nI (o1 i9))))]) := by
  refine CI.of (cc := cX9_told) (maxL := 3) (by decide) rfl (Nat.le_of_ble_eq_true rfl) ?_
  intro p9 e9 s m below meth co9 A ls hB
  obtain ⟨hx, hb, hml, hr, hts, hown, hlocks, hmn, hK, hP, hD, hS, hA, hl⟩ := hB
  have hP : va_P G vwCl [(ad 0 0, .inr (9, [.ref (ad 1 0), .ref (ad 2 0), .ref (ad 4 0), .ref (ad 5 0), .ref (ad 6 0), .ref (ad 7 0), .ref (ad 8 0), .ref (ad 9 0), .ref (ad 10 0), .ref (ad 11 0), .ref (ad 12 0)])), (ad 4 0, .inr (1, [.ref (ad 4 1), .ref (ad 4 2), .int (nI rk), .int (nI sl)])), (ad 4 1, .inl (cI, 7, .inl (fun i9 => nI (kd i9)))), (ad 4 2, .inl (cI, 175, .inl (fun i9 => nI (tn i9)))), (ad 9 0, .inr (8, [.ref (ad 9 1), .ref (ad 9 2), .ref (ad 9 3), .int (nI tc)])), (ad 9 1, .inl (cI, 6, .inl (fun i9 => nI (tr i9)))), (ad 9 2, .inl (cI, 6, .inl (fun i9 => nI (tq i9)))), (ad 9 3, .inl (cZ, 6, .inl (fun i9 => nI (td i9)))), (ad 11 0, .inr (4, [.ref (ad 11 1), .ref (ad 11 2)])), (ad 11 1, .inl (cI, 5, .inl (fun i9 => nI (en i9)))), (ad 11 2, .inl (cI, 5, .inl (fun i9 => nI (eo i9))))] s.heap := hP
  have hD : va_D A [(ad 0 0, .inr (9, [.ref (ad 1 0), .ref (ad 2 0), .ref (ad 4 0), .ref (ad 5 0), .ref (ad 6 0), .ref (ad 7 0), .ref (ad 8 0), .ref (ad 9 0), .ref (ad 10 0), .ref (ad 11 0), .ref (ad 12 0)])), (ad 4 0, .inr (1, [.ref (ad 4 1), .ref (ad 4 2), .int (nI rk), .int (nI sl)])), (ad 4 1, .inl (cI, 7, .inl (fun i9 => nI (kd i9)))), (ad 4 2, .inl (cI, 175, .inl (fun i9 => nI (tn i9)))), (ad 9 0, .inr (8, [.ref (ad 9 1), .ref (ad 9 2), .ref (ad 9 3), .int (nI tc)])), (ad 9 1, .inl (cI, 6, .inl (fun i9 => nI (tr i9)))), (ad 9 2, .inl (cI, 6, .inl (fun i9 => nI (tq i9)))), (ad 9 3, .inl (cZ, 6, .inl (fun i9 => nI (td i9)))), (ad 11 0, .inr (4, [.ref (ad 11 1), .ref (ad 11 2)])), (ad 11 1, .inl (cI, 5, .inl (fun i9 => nI (en i9)))), (ad 11 2, .inl (cI, 5, .inl (fun i9 => nI (eo i9))))] := hD
  have hl : lv_has ls 3 [(0, .ref (ad 0 0))] := hl
  have k_0 := hts (.fieldLink RX9 71 "HearsayMarch" "rows" "LHearsayMarch$Rows;") (by decide +kernel)
  have k_1 := hts (.fieldLink RX9 26 "HearsayMarch" "army" "LHearsayMarch$Army;") (by decide +kernel)
  have k_2 := hts (.fieldLink RX9 57 "HearsayMarch" "traces" "LHearsayMarch$Traces;") (by decide +kernel)
  have hin9 : ∀ w ∈ wsX90, w ∈ wsX9_told := by decide +kernel
  refine lv_iconst (v := nI 0) hx hb dX9_told_0 (by decide) ?_
  refine lv_istore_n (lv' := [(1, .int (nI 0)), (0, .ref (ad 0 0))]) hx hb dX9_told_1 rfl hl (by decide) rfl (fun ls hl => ?_)
  refine lv_iconst (v := nI 0) hx hb dX9_told_2 (by decide) ?_
  refine lv_istore_n (lv' := [(2, .int (nI 0)), (1, .int (nI 0)), (0, .ref (ad 0 0))]) hx hb dX9_told_3 rfl hl (by decide) rfl (fun ls hl => ?_)
  refine loopW (σ := Nat × (Nat → Nat) × (Nat → Nat)) 4 (fun xx9 H locs ls => match xx9 with | (o, q1, q2) => (o ≤ 5) ∧ va_P G vwCl [(ad 0 0, .inr (9, [.ref (ad 1 0), .ref (ad 2 0), .ref (ad 4 0), .ref (ad 5 0), .ref (ad 6 0), .ref (ad 7 0), .ref (ad 8 0), .ref (ad 9 0), .ref (ad 10 0), .ref (ad 11 0), .ref (ad 12 0)])), (ad 4 0, .inr (1, [.ref (ad 4 1), .ref (ad 4 2), .int (nI rk), .int (nI sl)])), (ad 4 1, .inl (cI, 7, .inl (fun i9 => nI (kd i9)))), (ad 4 2, .inl (cI, 175, .inl (fun i9 => nI (tn i9)))), (ad 9 0, .inr (8, [.ref (ad 9 1), .ref (ad 9 2), .ref (ad 9 3), .int (nI tc)])), (ad 9 1, .inl (cI, 6, .inl (fun i9 => nI (tr i9)))), (ad 9 2, .inl (cI, 6, .inl (fun i9 => nI (tq i9)))), (ad 9 3, .inl (cZ, 6, .inl (fun i9 => nI (td i9)))), (ad 11 0, .inr (4, [.ref (ad 11 1), .ref (ad 11 2)])), (ad 11 1, .inl (cI, 5, .inl (fun i9 => nI (q1 i9)))), (ad 11 2, .inl (cI, 5, .inl (fun i9 => nI (q2 i9))))] H ∧ va_D A [(ad 0 0, .inr (9, [.ref (ad 1 0), .ref (ad 2 0), .ref (ad 4 0), .ref (ad 5 0), .ref (ad 6 0), .ref (ad 7 0), .ref (ad 8 0), .ref (ad 9 0), .ref (ad 10 0), .ref (ad 11 0), .ref (ad 12 0)])), (ad 4 0, .inr (1, [.ref (ad 4 1), .ref (ad 4 2), .int (nI rk), .int (nI sl)])), (ad 4 1, .inl (cI, 7, .inl (fun i9 => nI (kd i9)))), (ad 4 2, .inl (cI, 175, .inl (fun i9 => nI (tn i9)))), (ad 9 0, .inr (8, [.ref (ad 9 1), .ref (ad 9 2), .ref (ad 9 3), .int (nI tc)])), (ad 9 1, .inl (cI, 6, .inl (fun i9 => nI (tr i9)))), (ad 9 2, .inl (cI, 6, .inl (fun i9 => nI (tq i9)))), (ad 9 3, .inl (cZ, 6, .inl (fun i9 => nI (td i9)))), (ad 11 0, .inr (4, [.ref (ad 11 1), .ref (ad 11 2)])), (ad 11 1, .inl (cI, 5, .inl (fun i9 => nI (q1 i9)))), (ad 11 2, .inl (cI, 5, .inl (fun i9 => nI (q2 i9))))] ∧ va_S A s.heap H locs ∧ lv_has ls 3 [(2, .int (nI o)), (1, .int (nI (comN (cntN tn kd tr tq td tc rk) o))), (0, .ref (ad 0 0))]) (fun xx9 => match xx9 with | (o, q1, q2) => []) (fun xx9 => match xx9 with | (o, q1, q2) => 5 - o) ?_ (0, en, eo) ⟨by first | assumption | omega | (simp; done), hP.sub [0, 1, 2, 3, 4, 5, 6, 7, 8, 9, 10] rfl, hD.sub [0, 1, 2, 3, 4, 5, 6, 7, 8, 9, 10] (by decide) rfl, hS, lv_sub hl [0, 1, 2] rfl⟩
  intro xx9 H locs ls hI ih_4
  obtain ⟨o, q1, q2⟩ := xx9
  obtain ⟨ho9, hP, hD, hS, hl⟩ := hI
  have ho9 : o ≤ 5 := ho9
  have hP : va_P G vwCl [(ad 0 0, .inr (9, [.ref (ad 1 0), .ref (ad 2 0), .ref (ad 4 0), .ref (ad 5 0), .ref (ad 6 0), .ref (ad 7 0), .ref (ad 8 0), .ref (ad 9 0), .ref (ad 10 0), .ref (ad 11 0), .ref (ad 12 0)])), (ad 4 0, .inr (1, [.ref (ad 4 1), .ref (ad 4 2), .int (nI rk), .int (nI sl)])), (ad 4 1, .inl (cI, 7, .inl (fun i9 => nI (kd i9)))), (ad 4 2, .inl (cI, 175, .inl (fun i9 => nI (tn i9)))), (ad 9 0, .inr (8, [.ref (ad 9 1), .ref (ad 9 2), .ref (ad 9 3), .int (nI tc)])), (ad 9 1, .inl (cI, 6, .inl (fun i9 => nI (tr i9)))), (ad 9 2, .inl (cI, 6, .inl (fun i9 => nI (tq i9)))), (ad 9 3, .inl (cZ, 6, .inl (fun i9 => nI (td i9)))), (ad 11 0, .inr (4, [.ref (ad 11 1), .ref (ad 11 2)])), (ad 11 1, .inl (cI, 5, .inl (fun i9 => nI (q1 i9)))), (ad 11 2, .inl (cI, 5, .inl (fun i9 => nI (q2 i9))))] _ := hP
  have hD : va_D A [(ad 0 0, .inr (9, [.ref (ad 1 0), .ref (ad 2 0), .ref (ad 4 0), .ref (ad 5 0), .ref (ad 6 0), .ref (ad 7 0), .ref (ad 8 0), .ref (ad 9 0), .ref (ad 10 0), .ref (ad 11 0), .ref (ad 12 0)])), (ad 4 0, .inr (1, [.ref (ad 4 1), .ref (ad 4 2), .int (nI rk), .int (nI sl)])), (ad 4 1, .inl (cI, 7, .inl (fun i9 => nI (kd i9)))), (ad 4 2, .inl (cI, 175, .inl (fun i9 => nI (tn i9)))), (ad 9 0, .inr (8, [.ref (ad 9 1), .ref (ad 9 2), .ref (ad 9 3), .int (nI tc)])), (ad 9 1, .inl (cI, 6, .inl (fun i9 => nI (tr i9)))), (ad 9 2, .inl (cI, 6, .inl (fun i9 => nI (tq i9)))), (ad 9 3, .inl (cZ, 6, .inl (fun i9 => nI (td i9)))), (ad 11 0, .inr (4, [.ref (ad 11 1), .ref (ad 11 2)])), (ad 11 1, .inl (cI, 5, .inl (fun i9 => nI (q1 i9)))), (ad 11 2, .inl (cI, 5, .inl (fun i9 => nI (q2 i9))))] := hD
  have hl : lv_has ls 3 [(2, .int (nI o)), (1, .int (nI (comN (cntN tn kd tr tq td tc rk) o))), (0, .ref (ad 0 0))] := hl
  refine lv_iload_n hx hb dX9_told_4 rfl (lv_at hl 0 rfl) ?_
  refine lv_iconst (v := nI 5) hx hb dX9_told_5 (by decide) ?_
  refine lv_icmp_ge (tgt := 40) hx hb dX9_told_6 (by decide) (fun c_6 => ?_) (fun c_6 => ?_)
  · skip
    have c_6 := n_geT c_6 (by omega) (by omega)
    refine lv_iload_n hx hb dX9_told_40 rfl (lv_at hl 1 rfl) ?_
    exact endI hx hb hr hlocks ((q1, q2)) (by rw [show o = 5 by omega]) (hP.sub [0, 1, 2, 3, 4, 5, 6, 7, 8, 9, 10] rfl) (hD.sub [0, 1, 2, 3, 4, 5, 6, 7, 8, 9, 10] (by decide) rfl) hS dX9_told_41
  · skip
    have c_6 := n_geF c_6 (by omega) (by omega)
    refine lv_aload_n hx hb dX9_told_9 rfl (lv_at hl 2 rfl) ?_
    refine va_get (D := G) (ci := 9) (v := .ref (ad 11 0)) (C := RX9) (T := TX9) (N := 11) hx hb hts hin9 hown hK.1 hP 0 rfl rfl 9 (by decide) k_0 (fun _ h9 => h9) rfl dX9_told_10 ?_
    refine lv_aload_n hx hb dX9_told_13 rfl (lv_at hl 2 rfl) ?_
    refine va_get (D := G) (ci := 9) (v := .ref (ad 4 0)) (C := RX9) (T := TX9) (N := 11) hx hb hts hin9 hown hK.1 hP 0 rfl rfl 2 (by decide) k_1 (fun _ h9 => h9) rfl dX9_told_14 ?_
    refine lv_aload_n hx hb dX9_told_17 rfl (lv_at hl 2 rfl) ?_
    refine va_get (D := G) (ci := 9) (v := .ref (ad 9 0)) (C := RX9) (T := TX9) (N := 11) hx hb hts hin9 hown hK.1 hP 0 rfl rfl 7 (by decide) k_2 (fun _ h9 => h9) rfl dX9_told_18 ?_
    refine lv_iload_n hx hb dX9_told_21 rfl (lv_at hl 0 rfl) ?_
    refine aft_i (wr := [(ad 0 0, .inr (9, [.ref (ad 1 0), .ref (ad 2 0), .ref (ad 4 0), .ref (ad 5 0), .ref (ad 6 0), .ref (ad 7 0), .ref (ad 8 0), .ref (ad 9 0), .ref (ad 10 0), .ref (ad 11 0), .ref (ad 12 0)]))]) (va_runV (As := [.ref (ad 4 0), .ref (ad 9 0), .int (nI o)]) (rest := []) ⟨hx, hb, hml, hown, hts⟩ (c_X4_countFrom (g := (ad 11)) (en := q1) (on := q2) (h := (ad 4)) (kd := kd) (tn := tn) (rk := rk) (sl := sl) (b := (ad 9)) (tr := tr) (tq := tq) (td := td) (tc := tc) (o := o) (hok := by first | assumption | omega | exact hok.1 _ (by omega) | exact hok.2.2 _ _ (by omega) (by omega) | exact hok.2.1) (htr := by first | assumption | omega | exact hok.1 _ (by omega) | exact hok.2.2 _ _ (by omega) (by omega) | exact hok.2.1) (hrk := by first | assumption | omega | exact hok.1 _ (by omega) | exact hok.2.2 _ _ (by omega) (by omega) | exact hok.2.1) (htc := by first | assumption | omega | exact hok.1 _ (by omega) | exact hok.2.2 _ _ (by omega) (by omega) | exact hok.2.1) (ho := by first | assumption | omega | exact hok.1 _ (by omega) | exact hok.2.2 _ _ (by omega) (by omega) | exact hok.2.1) _) (cwV 3 hts gX9_told_X4_countFrom rfl rfl rfl (by decide +kernel) ⟨Nat.le_of_ble_eq_true rfl, Nat.le_of_ble_eq_true rfl⟩) (preV (cq := (RX4, TX4, 2)) (q0 := 8) (ci := 4) hK hP hD [8, 9, 10, 1, 2, 3, 4, 5, 6, 7] rfl rfl rfl rfl) rfl rfl hl.1 rfl (lv_room (Nat.le_of_ble_eq_true rfl)) dX9_told_22 ⟨Nat.le_of_ble_eq_true rfl, Nat.le_of_ble_eq_true rfl⟩) hP hD hS hA [8, 9, 10, 1, 2, 3, 4, 5, 6, 7] [0] rfl rfl rfl (by decide) (fun r_22 uu9 H locs hw hP hD hS => ?_)
    obtain ⟨e1_22, o1_22⟩ := uu9
    have hP : va_P G vwCl [(ad 0 0, .inr (9, [.ref (ad 1 0), .ref (ad 2 0), .ref (ad 4 0), .ref (ad 5 0), .ref (ad 6 0), .ref (ad 7 0), .ref (ad 8 0), .ref (ad 9 0), .ref (ad 10 0), .ref (ad 11 0), .ref (ad 12 0)])), (ad 11 0, .inr (4, [.ref ((ad 11) 1), .ref ((ad 11) 2)])), (ad 11 1, .inl (cI, 5, .inl (fun i9 => nI (e1_22 i9)))), (ad 11 2, .inl (cI, 5, .inl (fun i9 => nI (o1_22 i9)))), (ad 4 0, .inr (1, [.ref ((ad 4) 1), .ref ((ad 4) 2), .int (nI rk), .int (nI sl)])), (ad 4 1, .inl (cI, 7, .inl (fun i9 => nI (kd i9)))), (ad 4 2, .inl (cI, 175, .inl (fun i9 => nI (tn i9)))), (ad 9 0, .inr (8, [.ref ((ad 9) 1), .ref ((ad 9) 2), .ref ((ad 9) 3), .int (nI tc)])), (ad 9 1, .inl (cI, 6, .inl (fun i9 => nI (tr i9)))), (ad 9 2, .inl (cI, 6, .inl (fun i9 => nI (tq i9)))), (ad 9 3, .inl (cZ, 6, .inl (fun i9 => nI (td i9))))] _ := hP
    have hD : va_D A [(ad 0 0, .inr (9, [.ref (ad 1 0), .ref (ad 2 0), .ref (ad 4 0), .ref (ad 5 0), .ref (ad 6 0), .ref (ad 7 0), .ref (ad 8 0), .ref (ad 9 0), .ref (ad 10 0), .ref (ad 11 0), .ref (ad 12 0)])), (ad 11 0, .inr (4, [.ref ((ad 11) 1), .ref ((ad 11) 2)])), (ad 11 1, .inl (cI, 5, .inl (fun i9 => nI (e1_22 i9)))), (ad 11 2, .inl (cI, 5, .inl (fun i9 => nI (o1_22 i9)))), (ad 4 0, .inr (1, [.ref ((ad 4) 1), .ref ((ad 4) 2), .int (nI rk), .int (nI sl)])), (ad 4 1, .inl (cI, 7, .inl (fun i9 => nI (kd i9)))), (ad 4 2, .inl (cI, 175, .inl (fun i9 => nI (tn i9)))), (ad 9 0, .inr (8, [.ref ((ad 9) 1), .ref ((ad 9) 2), .ref ((ad 9) 3), .int (nI tc)])), (ad 9 1, .inl (cI, 6, .inl (fun i9 => nI (tr i9)))), (ad 9 2, .inl (cI, 6, .inl (fun i9 => nI (tq i9)))), (ad 9 3, .inl (cZ, 6, .inl (fun i9 => nI (td i9))))] := hD
    obtain rfl := hw
    refine top_i (y := nI (cntN tn kd tr tq td tc rk o)) rfl ?_
    have hb9 := cntN_b tn kd tr tq td tc (rk := rk) o (by omega)
    refine lv_if_le (tgt := 34) hx hb dX9_told_25 (by decide) (fun c_25 => ?_) (fun c_25 => ?_)
    · skip
      have c_25 := z_leT c_25 (by omega)
      have hl : lv_has ls 3 [(2, .int (nI o)), (1, .int (nI (comN (cntN tn kd tr tq td tc rk) (o + 1)))), (0, .ref (ad 0 0))] := by first | exact hl | (rw [comN_n (by omega)]; exact hl)
      refine lv_iinc (v := nI (o + 1)) (lv' := [(2, .int (nI (o + 1))), (1, .int (nI (comN (cntN tn kd tr tq td tc rk) (o + 1)))), (0, .ref (ad 0 0))]) hx hb dX9_told_34 hl (k := 0) rfl (nI_inc _ 1 1 (by decide)) (by decide) rfl (fun ls hl => ?_)
      refine lv_goto (tgt := 4) hx hb dX9_told_37 (by decide) ?_
      exact ih_4 (o + 1, e1_22, o1_22) _ _ _ (by first | omega | (simp only []; omega) | (show _ < _; omega)) ⟨by first | assumption | omega | (simp; done), hP.sub [0, 4, 5, 6, 7, 8, 9, 10, 1, 2, 3] rfl, hD.sub [0, 4, 5, 6, 7, 8, 9, 10, 1, 2, 3] (by decide) rfl, hS, lv_sub hl [0, 1, 2] rfl⟩
    · skip
      have c_25 := z_leF c_25 (by omega)
      refine lv_iload_n hx hb dX9_told_28 rfl (lv_at hl 1 rfl) ?_
      refine lv_iconst (v := nI 1) hx hb dX9_told_29 (by decide) ?_
      refine lv_iload_n hx hb dX9_told_30 rfl (lv_at hl 0 rfl) ?_
      refine lv_ishl hx hb dX9_told_31 ?_
      refine lv_ior hx hb dX9_told_32 ?_
      refine top_i (y := nI (comN (cntN tn kd tr tq td tc rk) (o + 1))) (comN_y (by omega) c_25) ?_
      refine lv_istore_n (lv' := [(1, .int (nI (comN (cntN tn kd tr tq td tc rk) (o + 1)))), (2, .int (nI o)), (0, .ref (ad 0 0))]) hx hb dX9_told_33 rfl hl (by decide) rfl (fun ls hl => ?_)
      have hl : lv_has ls 3 [(1, .int (nI (comN (cntN tn kd tr tq td tc rk) (o + 1)))), (2, .int (nI o)), (0, .ref (ad 0 0))] := by first | exact hl | (rw [comN_n (by omega)]; exact hl)
      refine lv_iinc (v := nI (o + 1)) (lv' := [(2, .int (nI (o + 1))), (1, .int (nI (comN (cntN tn kd tr tq td tc rk) (o + 1)))), (0, .ref (ad 0 0))]) hx hb dX9_told_34 hl (k := 1) rfl (nI_inc _ 1 1 (by decide)) (by decide) rfl (fun ls hl => ?_)
      refine lv_goto (tgt := 4) hx hb dX9_told_37 (by decide) ?_
      exact ih_4 (o + 1, e1_22, o1_22) _ _ _ (by first | omega | (simp only []; omega) | (show _ < _; omega)) ⟨by first | assumption | omega | (simp; done), hP.sub [0, 4, 5, 6, 7, 8, 9, 10, 1, 2, 3] rfl, hD.sub [0, 4, 5, 6, 7, 8, 9, 10, 1, 2, 3] (by decide) rfl, hS, lv_sub hl [0, 1, 2] rfl⟩
