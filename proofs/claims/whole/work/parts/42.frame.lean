/-! a contract beside cells that it does not touch -/
theorem va_A_mem {ws : va_W} {sz q : Nat} : va_A ws sz q ↔ (∃ p ∈ ws, p.1 = q) ∨ sz ≤ q := by
  constructor
  · rintro (⟨k, e, h⟩ | h)
    · exact Or.inl ⟨_, List.mem_of_getElem? h, rfl⟩
    · exact Or.inr h
  · rintro (⟨p, hp, rfl⟩ | h)
    · obtain ⟨k, hk⟩ := List.getElem?_of_mem hp
      exact Or.inl ⟨k, p.2, hk⟩
    · exact Or.inr h
theorem fr_core {G : va_G} {W wc wr w1 : va_W} {s t : State} {sz : Nat} (hsz : s.heap.size = sz) (hp : W.Perm (wc ++ wr)) (qP : va_P G vwCl W s.heap) (qD : va_D (fun _ => True) W) (hP1 : va_P G vwCl w1 t.heap) (hD1 : va_D (va_A wc sz) w1) (hF : va_F (va_A wc sz) s t) :
    va_P G vwCl (w1 ++ wr) t.heap ∧ va_D (va_A W sz) (w1 ++ wr) ∧ va_F (va_A W sz) s t ∧ ∀ q, va_A wc sz q → va_A W sz q := by
  have hP' := va_P_mem.mp (va_P_perm hp qP)
  have hD' := va_D_iff.mp (va_D_perm hp qD)
  have hD1' := va_D_iff.mp hD1
  have hsub : ∀ q, va_A wc sz q → va_A W sz q := fun q h => by
    rw [va_A_mem] at h ⊢
    rcases h with ⟨p, h1, h2⟩ | h
    · exact Or.inl ⟨p, hp.mem_iff.mpr (List.mem_append_left _ h1), h2⟩
    · exact Or.inr h
  have hlt : ∀ p ∈ wr, p.1 < sz := fun p h => by
    rw [← hsz]; exact (hP' p (List.mem_append_right _ h)).lt
  have hnd := hD'.1
  rw [List.map_append, List.nodup_append] at hnd
  have hno : ∀ p ∈ wr, ¬ va_A wc sz p.1 := fun p h z => by
    rw [va_A_mem] at z
    rcases z with ⟨q, h1, h2⟩ | z
    · exact hnd.2.2 _ (List.mem_map_of_mem h1) _ (List.mem_map_of_mem h) h2
    · have := hlt p h; omega
  refine ⟨va_P_mem.mpr (fun q hq => ?_), va_D_iff.mpr ⟨?_, fun q hq => ?_⟩, ⟨hF.1, fun q h1 h2 => hF.2 q h1 (fun z => h2 (hsub q z))⟩, hsub⟩
  · rcases List.mem_append.mp hq with h | h
    · exact va_P_mem.mp hP1 q h
    · exact (hP' q (List.mem_append_right _ h)).kept (hF.2 q.1 (by rw [hsz]; exact hlt q h) (hno q h))
  · rw [List.map_append, List.nodup_append]
    refine ⟨hD1'.1, hnd.2.1, fun a h1 b h2 e => ?_⟩
    obtain ⟨p, hp1, rfl⟩ := List.mem_map.mp h1
    obtain ⟨q, hq1, rfl⟩ := List.mem_map.mp h2
    exact hno q hq1 (by rw [← e]; exact hD1'.2 p hp1)
  · rcases List.mem_append.mp hq with h | h
    · exact hsub _ (hD1'.2 q h)
    · exact va_A_mem.mpr (Or.inl ⟨q, hp.mem_iff.mpr (List.mem_append_right _ h), rfl⟩)
theorem fr_pre {G : va_G} {T : List (ClassId × FieldType)} {W wc wr : va_W} {av : List Value} {sz : Nat} (hp : W.Perm (wc ++ wr)) (a : Array Value) (s : State) (h : PW G T av W sz a s) : PW G T av wc sz a s := by
  obtain ⟨q0, q1, qP, qK, qD⟩ := h
  have hP' := va_P_mem.mp (va_P_perm hp qP)
  have hD' := va_D_iff.mp (va_D_perm hp qD)
  have hnd := hD'.1
  rw [List.map_append, List.nodup_append] at hnd
  exact ⟨q0, q1, va_P_mem.mpr (fun q hq => hP' q (List.mem_append_left _ hq)), qK, va_D_iff.mpr ⟨hnd.1, fun _ _ => trivial⟩⟩
theorem CI.fr {l : Launch} {G : va_G} {T : List (ClassId × FieldType)} {S S' : Type} {y : MethodName} {ws : List Cond} {rm : Room} {av : List Value} {wc W : va_W} {post : Int32 → S → Prop} {w1 : S → va_W} {post' : Int32 → S' → Prop} {W1 : S' → va_W} (h : CI l G T y ws rm av wc post w1) (wr : va_W) (hp : W.Perm (wc ++ wr)) (k : ∀ r u, post r u → ∃ u', post' r u' ∧ (w1 u ++ wr).Perm (W1 u')) : CI l G T y ws rm av W post' W1 := by
  intro sz
  refine MetFree.mono (h sz) (fr_pre hp) (fun _ _ _ _ _ z => z) ?_
  rintro a s o t ⟨q0, q1, qP, qK, qD⟩ ⟨⟨⟨r, u, e, hpost, hP1, hD1⟩, hF⟩, L, hL, hLf⟩
  obtain ⟨f1, f2, f3, f4⟩ := fr_core q1 hp qP qD hP1 hD1 hF
  obtain ⟨u', k1, k2⟩ := k r u hpost
  exact ⟨⟨⟨r, u', e, k1, va_P_perm k2 f1, va_D_perm k2 f2⟩, f3⟩, L, hL, fun q hq => f4 _ (hLf q hq)⟩
theorem CL.fr {l : Launch} {G : va_G} {T : List (ClassId × FieldType)} {S S' : Type} {y : MethodName} {ws : List Cond} {rm : Room} {av : List Value} {wc W : va_W} {post : Int64 → S → Prop} {w1 : S → va_W} {post' : Int64 → S' → Prop} {W1 : S' → va_W} (h : CL l G T y ws rm av wc post w1) (wr : va_W) (hp : W.Perm (wc ++ wr)) (k : ∀ r u, post r u → ∃ u', post' r u' ∧ (w1 u ++ wr).Perm (W1 u')) : CL l G T y ws rm av W post' W1 := by
  intro sz
  refine MetFree.mono (h sz) (fr_pre hp) (fun _ _ _ _ _ z => z) ?_
  rintro a s o t ⟨q0, q1, qP, qK, qD⟩ ⟨⟨⟨r, u, e, hpost, hP1, hD1⟩, hF⟩, L, hL, hLf⟩
  obtain ⟨f1, f2, f3, f4⟩ := fr_core q1 hp qP qD hP1 hD1 hF
  obtain ⟨u', k1, k2⟩ := k r u hpost
  exact ⟨⟨⟨r, u', e, k1, va_P_perm k2 f1, va_D_perm k2 f2⟩, f3⟩, L, hL, fun q hq => f4 _ (hLf q hq)⟩
theorem perm_pl {α : Type} {X wc wr : List α} (n : Nat) (is : List Nat) (hl : X.length = n) (hn : is.Perm (List.range n)) (h : is.map (fun i => X[i]?) = (wc ++ wr).map some) : X.Perm (wc ++ wr) := by
  have e : (List.range n).map (fun i => X[i]?) = X.map some := by
    apply List.ext_getElem
    · simp [hl]
    · intro i h1 h2
      simp only [List.length_map] at h2
      simp [List.getElem?_eq_getElem h2]
  have h1 : (X.map some).Perm ((wc ++ wr).map some) := by
    rw [← h, ← e]
    exact (hn.map _).symm
  have h2 := h1.filterMap id
  rw [List.filterMap_map, List.filterMap_map] at h2
  have e2 : ∀ l : List α, l.filterMap (id ∘ some) = l := fun l => List.filterMap_some
  rw [e2, e2] at h2
  exact h2
theorem perm_ct {α : Type} {l₁ l₂ : List α} (h : ∀ f : List α → Nat, (∀ a b, f (a ++ b) = f a + f b) → f l₁ = f l₂) : l₁.Perm l₂ := by
  classical
  exact List.perm_iff_count.mpr (fun a => h (fun l => l.count a) (fun x y => List.count_append))
section
variable {α : Type} {X wc wr tK tA : List α}
theorem perm0 (h : X.Perm (wc ++ wr)) : (X ++ (tK ++ tA)).Perm (wc ++ (wr ++ (tK ++ tA))) := by
  rw [← List.append_assoc wc]
  exact h.append_right _
theorem permA (h : X.Perm (wc ++ wr)) : (X ++ (tK ++ tA)).Perm ((wc ++ tA) ++ (wr ++ tK)) := by
  refine (h.append_right _).trans ?_
  rw [List.append_assoc, List.append_assoc]
  refine List.Perm.append_left wc ?_
  rw [← List.append_assoc]
  exact List.perm_append_comm
theorem permK (h : X.Perm (wc ++ wr)) : (X ++ (tK ++ tA)).Perm ((wc ++ tK) ++ (wr ++ tA)) := by
  refine (h.append_right _).trans ?_
  rw [List.append_assoc, List.append_assoc]
  refine List.Perm.append_left wc ?_
  exact List.perm_append_comm_assoc _ _ _
end
/-! the two sides' states, and when they agree -/
abbrev XS : Type := (Nat → Nat) × Nat × Nat × Int32 × Int32 × Int32 × (Nat → Nat) × (Nat → Nat) × Nat × Nat × (Nat → Nat) × (Nat → Nat) × Nat × Nat × (Nat → Nat → Int32) × Int32 × Int64 × (Nat → Nat → Int32) × Int32 × Int64 × Nat × Nat × (Nat → Nat → Nat → Int32) × (Nat → Int32) × (Nat → Int64) × (Nat → Nat) × (Nat → Nat → Nat → Int32) × (Nat → Int32) × (Nat → Int64) × (Nat → Nat) × (Nat → Nat) × (Nat → Nat) × Nat × (Nat → Nat) × (Nat → Nat) × Nat × (Nat → Nat) × (Nat → Nat) × (Nat → Nat)
abbrev MS : Type := Nat × Nat × Nat × Nat × Nat × Nat × Nat × Nat × Int64 × Int64 × (Nat → Nat) × (Nat → Nat) × (Nat → Nat) × (Nat → Nat) × (Nat → Nat) × (Nat → Int32) × (Nat → Int32) × (Nat → Int64) × (Nat → Int32) × (Nat → Int64) × (Nat → Nat) × (Nat → Nat) × (Nat → Nat) × (Nat → Nat) × (Nat → Int32) × (Nat → Int32) × (Nat → Nat) × (Nat → Nat) × (Nat → Nat) × (Nat → Nat)
def RT (tx : Nat → Nat) (ln ts : Nat) (yx : Nat → Nat) : Prop := ln = ts ∧ ts ≤ 64 ∧ (∀ j, j < ts → tx j = yx j) ∧ ∀ j, j < ts → yx j < 256
def RA (kd tn : Nat → Nat) (rk sl : Nat) (ke te : Nat → Nat) (rq sq : Nat) : Prop := rk = rq ∧ sl = sq ∧ rq < 8 ∧ ArmyOk kd tn ∧ ArmyOk ke te ∧ (∀ k, k < rq → kd k = ke k) ∧ (∀ i, i < 175 → tn i = te i) ∧ ∀ k u, k < 7 → u < 5 → slT te k u u = 0
def Boo (v : Nat → Nat → Int32) : Prop := ∀ j, j < 7 → v 6 j = nI 0 ∨ v 6 j = nI 1
def SR (rk : Nat) (v : Nat → Nat → Int32) (mi : Int32) (se : Int64) (p : Nat → Int32) (sd : Int64) : Prop := AgR rk v (vOf p) ∧ p 49 = mi ∧ sd = se ∧ SceneOk rk (vOf p) ∧ (0 < rk → ¬ vOf p 6 0 = 0 → vOf p 5 0 = -9)
def RC (rk fi ac : Nat) (bk : Nat → Nat → Nat → Int32) (bm : Nat → Int32) (bs : Nat → Int64) (aq : Nat) (bo : Nat → Int32) (bt : Nat → Int64) : Prop := ac = aq ∧ aq ≤ 12 ∧ fi < 12 ∧ (∀ i, i < 12 → Boo (bk i)) ∧ ∀ j, j < aq → SR rk (bk ((fi + j) % 12)) (bm ((fi + j) % 12)) (bs ((fi + j) % 12)) (fun i => bo (50 * j + i)) (bt j)
def RK (rk : Nat) (fl : Nat → Nat) (kk : Nat → Nat → Nat → Int32) (km : Nat → Int32) (ks : Nat → Int64) (kp : Nat → Int32) (kt : Nat → Int64) (zz : Nat → Nat) : Prop := (∀ i, i < 2 → fl i = zz i ∧ zz i < 2 ∧ Boo (kk i)) ∧ ∀ i, i < 2 → ¬ zz i = 0 → SR rk (kk i) (km i) (ks i) (fun j => kp (50 * i + j)) (kt i)
def RV (tr tq td : Nat → Nat) (tc : Nat) (ur uq ud : Nat → Nat) (uc : Nat) : Prop := tr = ur ∧ tq = uq ∧ td = ud ∧ tc = uc ∧ uc < 7 ∧ TrOk ur uq ud uc
def xL (cI cJ cZ cS : ClassId) (ad ba ka : Nat → Nat → Nat) : XS → va_W := fun s9 => match s9 with
  | (tx, ln, stp, wy, wq, ho, dk, dt, dr, ds, kd, tn, rk, sl, v, mi, se, dv, dm, de, fi, ac, bk, bm, bs, fl, kk, km, ks, tr, tq, td, tc, pa, on, wh, en, eo, cm) => [(ad 0 0, .inr (9, [.ref (ad 1 0), .ref (ad 2 0), .ref (ad 4 0), .ref (ad 5 0), .ref (ad 6 0), .ref (ad 7 0), .ref (ad 8 0), .ref (ad 9 0), .ref (ad 10 0), .ref (ad 11 0), .ref (ad 12 0)])), (ad 1 0, .inr (7, [.ref (ad 1 1), .int (nI ln)])), (ad 1 1, .inl (cI, 64, .inl (fun i9 => nI (tx i9)))), (ad 2 0, .inr (3, [.ref (ad 3 0), .int (nI stp), .int wy, .int wq, .int ho])), (ad 3 0, .inr (1, [.ref (ad 3 1), .ref (ad 3 2), .int (nI dr), .int (nI ds)])), (ad 3 1, .inl (cI, 7, .inl (fun i9 => nI (dk i9)))), (ad 3 2, .inl (cI, 175, .inl (fun i9 => nI (dt i9)))), (ad 4 0, .inr (1, [.ref (ad 4 1), .ref (ad 4 2), .int (nI rk), .int (nI sl)])), (ad 4 1, .inl (cI, 7, .inl (fun i9 => nI (kd i9)))), (ad 4 2, .inl (cI, 175, .inl (fun i9 => nI (tn i9)))), (ad 5 0, .inr (5, [.ref (ad 5 1), .ref (ad 5 2), .ref (ad 5 3), .ref (ad 5 4), .ref (ad 5 5), .ref (ad 5 6), .ref (ad 5 7), .int mi, .long se])), (ad 5 1, .inl (cI, 7, .inl (v 0))), (ad 5 2, .inl (cI, 7, .inl (v 1))), (ad 5 3, .inl (cI, 7, .inl (v 5))), (ad 5 4, .inl (cI, 7, .inl (v 2))), (ad 5 5, .inl (cI, 7, .inl (v 3))), (ad 5 6, .inl (cI, 7, .inl (v 4))), (ad 5 7, .inl (cZ, 7, .inl (v 6))), (ad 6 0, .inr (5, [.ref (ad 6 1), .ref (ad 6 2), .ref (ad 6 3), .ref (ad 6 4), .ref (ad 6 5), .ref (ad 6 6), .ref (ad 6 7), .int dm, .long de])), (ad 6 1, .inl (cI, 7, .inl (dv 0))), (ad 6 2, .inl (cI, 7, .inl (dv 1))), (ad 6 3, .inl (cI, 7, .inl (dv 5))), (ad 6 4, .inl (cI, 7, .inl (dv 2))), (ad 6 5, .inl (cI, 7, .inl (dv 3))), (ad 6 6, .inl (cI, 7, .inl (dv 4))), (ad 6 7, .inl (cZ, 7, .inl (dv 6))), (ad 7 0, .inr (0, [.ref (ad 7 1), .int (nI fi), .int (nI ac)])), (ad 7 1, .inl (cS, 12, .inr (.inr (.inr (.inr (fun i => some (ba i 0))))))), (ad 8 0, .inr (6, [.ref (ad 8 1), .ref (ad 8 2)])), (ad 8 1, .inl (cS, 2, .inr (.inr (.inr (.inr (fun i => some (ka i 0))))))), (ad 8 2, .inl (cZ, 2, .inl (fun i9 => nI (fl i9)))), (ad 9 0, .inr (8, [.ref (ad 9 1), .ref (ad 9 2), .ref (ad 9 3), .int (nI tc)])), (ad 9 1, .inl (cI, 6, .inl (fun i9 => nI (tr i9)))), (ad 9 2, .inl (cI, 6, .inl (fun i9 => nI (tq i9)))), (ad 9 3, .inl (cZ, 6, .inl (fun i9 => nI (td i9)))), (ad 10 0, .inr (2, [.ref (ad 10 1), .ref (ad 10 2), .long (lN wh)])), (ad 10 1, .inl (cJ, 5, .inr (.inl (fun i9 => lN (pa i9))))), (ad 10 2, .inl (cJ, 5, .inr (.inl (fun i9 => lN (on i9))))), (ad 11 0, .inr (4, [.ref (ad 11 1), .ref (ad 11 2)])), (ad 11 1, .inl (cI, 5, .inl (fun i9 => nI (en i9)))), (ad 11 2, .inl (cI, 5, .inl (fun i9 => nI (eo i9)))), (ad 12 0, .inl (cI, 5, .inl (fun i9 => nI (cm i9))))]
def xK (cI cZ : ClassId) (ka : Nat → Nat → Nat) : XS → va_W := fun s9 => match s9 with
  | (tx, ln, stp, wy, wq, ho, dk, dt, dr, ds, kd, tn, rk, sl, v, mi, se, dv, dm, de, fi, ac, bk, bm, bs, fl, kk, km, ks, tr, tq, td, tc, pa, on, wh, en, eo, cm) => scs cI cZ (List.range 2) ka kk km ks
def xA (cI cZ : ClassId) (ba : Nat → Nat → Nat) : XS → va_W := fun s9 => match s9 with
  | (tx, ln, stp, wy, wq, ho, dk, dt, dr, ds, kd, tn, rk, sl, v, mi, se, dv, dm, de, fi, ac, bk, bm, bs, fl, kk, km, ks, tr, tq, td, tc, pa, on, wh, en, eo, cm) => scs cI cZ (List.range 12) ba bk bm bs
def xW (cI cJ cZ cS : ClassId) (ad ba ka : Nat → Nat → Nat) (s9 : XS) : va_W := xL cI cJ cZ cS ad ba ka s9 ++ (xK cI cZ ka s9 ++ xA cI cZ ba s9)
def mL (cI cJ cZ : ClassId) (g : Nat → Nat) : MS → va_W := fun s9 => match s9 with
  | (ts, pl, rq, sq, rr, rs, aq, uc, sd, sv, yx, ke, rd, te, rt, pg, bo, bt, kp, kt, zz, ur, uq, ud, tw, th, pc, nx, wa, wt) => [(g 0, .inr (10, [.int (nI 0), .ref (g 1), .int (nI ts), .int (nI pl), .int (nI rq), .ref (g 5), .int (nI sq), .ref (g 7), .int (nI rr), .int (nI rs), .ref (g 10), .ref (g 11), .ref (g 12), .long sd, .ref (g 14), .ref (g 15), .int (nI aq), .ref (g 17), .ref (g 18), .ref (g 19), .int (nI uc), .ref (g 21), .ref (g 22), .ref (g 23), .ref (g 24), .long sv, .ref (g 26), .ref (g 27), .ref (g 28), .ref (g 29), .ref (g 30)])), (g 1, .inl (cI, 64, .inl (fun i9 => nI (yx i9)))), (g 5, .inl (cI, 7, .inl (fun i9 => nI (ke i9)))), (g 7, .inl (cI, 175, .inl (fun i9 => nI (te i9)))), (g 10, .inl (cI, 7, .inl (fun i9 => nI (rd i9)))), (g 11, .inl (cI, 175, .inl (fun i9 => nI (rt i9)))), (g 12, .inl (cI, 50, .inl pg)), (g 14, .inl (cI, 600, .inl bo)), (g 15, .inl (cJ, 12, .inr (.inl bt))), (g 17, .inl (cI, 100, .inl kp)), (g 18, .inl (cJ, 2, .inr (.inl kt))), (g 19, .inl (cZ, 2, .inl (fun i9 => nI (zz i9)))), (g 21, .inl (cI, 6, .inl (fun i9 => nI (ur i9)))), (g 22, .inl (cI, 6, .inl (fun i9 => nI (uq i9)))), (g 23, .inl (cZ, 6, .inl (fun i9 => nI (ud i9)))), (g 24, .inl (cI, 50, .inl tw)), (g 26, .inl (cI, 7, .inl th)), (g 27, .inl (cJ, 5, .inr (.inl (fun i9 => lN (pc i9))))), (g 28, .inl (cJ, 5, .inr (.inl (fun i9 => lN (nx i9))))), (g 29, .inl (cI, 25, .inl (fun i9 => nI (wa i9)))), (g 30, .inl (cI, 25, .inl (fun i9 => nI (wt i9))))]
def mW (cI cJ cZ : ClassId) (g : Nat → Nat) (s9 : MS) : va_W := mL cI cJ cZ g s9
/-- the two sides agree -/
def Rel (zx : XS) (zm : MS) : Prop := match zx with
  | (tx, ln, stp, wy, wq, ho, dk, dt, dr, ds, kd, tn, rk, sl, v, mi, se, dv, dm, de, fi, ac, bk, bm, bs, fl, kk, km, ks, tr, tq, td, tc, pa, on, wh, en, eo, cm) => match zm with
    | (ts, pl, rq, sq, rr, rs, aq, uc, sd, sv, yx, ke, rd, te, rt, pg, bo, bt, kp, kt, zz, ur, uq, ud, tw, th, pc, nx, wa, wt) => RT tx ln ts yx ∧ (∀ k, k < 7 → dk k < 4) ∧ RA kd tn rk sl ke te rq sq ∧ (Boo v ∧ SR rq v mi se pg sd) ∧ RC rq fi ac bk bm bs aq bo bt ∧ RK rq fl kk km ks kp kt zz ∧ RV tr tq td tc ur uq ud uc
section
variable {tx yx kd tn ke te fl zz tr tq td ur uq ud : Nat → Nat} {ln ts rk sl rq sq fi ac aq tc uc : Nat} {v : Nat → Nat → Int32} {mi : Int32} {se sd : Int64} {pg bo kp : Nat → Int32} {bk kk : Nat → Nat → Nat → Int32} {bm km : Nat → Int32} {bs ks bt kt : Nat → Int64}
theorem RA_rk (h : RA kd tn rk sl ke te rq sq) : rk < 8 := by rw [h.1]; exact h.2.2.1
theorem RT_ln (h : RT tx ln ts yx) : ln ≤ 64 := by rw [h.1]; exact h.2.1
theorem RT_tx (h : RT tx ln ts yx) : ∀ j, j < ln → tx j < 256 := fun j hj => by
  have hj : j < ts := by rw [← h.1]; exact hj
  rw [h.2.2.1 j hj]
  exact h.2.2.2 j hj
theorem RC_ac (h : RC rq fi ac bk bm bs aq bo bt) : ac ≤ 12 := by rw [h.1]; exact h.2.1
theorem SR_x (hA : RA kd tn rk sl ke te rq sq) (h : SR rq v mi se pg sd) : SceneOk rk v := by
  rw [hA.1]
  exact ag_ok (ag_symm h.1) h.2.2.2.1
theorem RK_fl (h : RK rq fl kk km ks kp kt zz) : ∀ i, i < 2 → fl i < 2 := fun i hi => by rw [(h.1 i hi).1]; exact (h.1 i hi).2.1
theorem RV_tr (h : RV tr tq td tc ur uq ud uc) : TrOk tr tq td tc := by
  obtain ⟨rfl, rfl, rfl, rfl, -, h⟩ := h
  exact h
theorem RV_tc (h : RV tr tq td tc ur uq ud uc) : tc < 7 := by
  obtain ⟨rfl, rfl, rfl, rfl, h, -⟩ := h
  exact h
end
