/-! worlds with a tail: the scenes that are kept in rows -/
section
variable {p : Program} {l : Launch} {e : Env} {R : Room} {s : State} {m : MethodId} {args : Array Value} {below : List Frame} {meth : Method} {c : Code} {H : Heap} {locs : List Loc} {cells slots : Nat} {Q : State → Prop} {pc : Nat} {ls : Array Slot} {rest : List Value} {cc : ByteArray}
variable {G : va_G} {A : Nat → Prop} {H0 : Heap} {S : Type} {w1 : S → va_W} {X wc wr pl : va_W} {st0 : List Value} {av : Array Value}
theorem aftQ_i {post : Int32 → S → Prop} (hr : va_Run p l e R s m args below meth c H locs cells slots 0 0 (F0 m pc ls st0) rest (va_Qi post (fun u t => va_P G vwCl (w1 u) t.heap ∧ va_D (va_A wc H.size) (w1 u)) (va_A wc H.size) av) (va_A wc H.size))
    (hP : va_P G vwCl (X ++ pl) H) (hD : va_D A (X ++ pl)) (hS : va_S A H0 H locs) (hA : ∀ q, H0.size ≤ q → A q)
    (isC isR : List Nat) (hC : isC.map (fun i => X[i]?) = wc.map some) (hR : isR.map (fun i => X[i]?) = wr.map some) (hn : va_nd isR = true) (hdis : ∀ i ∈ isR, i ∉ isC)
    (kk : ∀ (r : Int32) (u : S) (H1 : Heap) (locs1 : List Loc), post r u → va_P G vwCl ((wr ++ w1 u) ++ pl) H1 → va_D A ((wr ++ w1 u) ++ pl) → va_S A H0 H1 locs1 → W p l e R s m args below meth c H1 locs1 cells slots Q (F0 m (pc + 3) ls (.int r :: rest))) :
    W p l e R s m args below meth c H locs cells slots Q (F0 m pc ls st0) := by
  have hC' : isC.map (fun i => (X ++ pl)[i]?) = wc.map some := by
    rw [← hC]
    refine List.map_congr_left (fun i hi => ?_)
    have h1 : X[i]? ∈ isC.map (fun i => X[i]?) := List.mem_map.mpr ⟨i, hi, rfl⟩
    rw [hC] at h1
    obtain ⟨q, -, hq⟩ := List.mem_map.mp h1
    have hl : i < X.length := (List.getElem?_eq_some_iff.mp hq.symm).1
    rw [List.getElem?_append_left hl]
  have hF := va_free (wc := wc) hD hS hA isC hC'
  refine va_calli hr hS (fun q _ h => hF q h) hF (fun r u t H1 locs1 ht hvm hw hB hz hk hS1 => ?_)
  obtain ⟨hP1, hD1⟩ := hB
  rw [ht] at hP1
  obtain ⟨hP2, hD2⟩ := va_joinQ hP hD isC isR hC hR hn hdis hk hF hP1 hD1
  exact kk r u H1 locs1 hw hP2 hD2 hS1
theorem aftQ_v {post : S → Prop} {mc ms : Nat} (hr : va_Run p l e R s m args below meth c H locs cells slots mc ms (F0 m pc ls st0) rest (va_Qv post (fun u t => va_P G vwCl (w1 u) t.heap ∧ va_D (va_A wc H.size) (w1 u)) (va_A wc H.size) av) (va_A wc H.size))
    (hP : va_P G vwCl (X ++ pl) H) (hD : va_D A (X ++ pl)) (hS : va_S A H0 H locs) (hA : ∀ q, H0.size ≤ q → A q)
    (isC isR : List Nat) (hC : isC.map (fun i => X[i]?) = wc.map some) (hR : isR.map (fun i => X[i]?) = wr.map some) (hn : va_nd isR = true) (hdis : ∀ i ∈ isR, i ∉ isC)
    (kk : ∀ (u : S) (H1 : Heap) (locs1 : List Loc), post u → va_P G vwCl ((wr ++ w1 u) ++ pl) H1 → va_D A ((wr ++ w1 u) ++ pl) → va_S A H0 H1 locs1 → W p l e R s m args below meth c H1 locs1 (cells + mc) (slots + ms) Q (F0 m (pc + 3) ls rest)) :
    W p l e R s m args below meth c H locs cells slots Q (F0 m pc ls st0) := by
  have hC' : isC.map (fun i => (X ++ pl)[i]?) = wc.map some := by
    rw [← hC]
    refine List.map_congr_left (fun i hi => ?_)
    have h1 : X[i]? ∈ isC.map (fun i => X[i]?) := List.mem_map.mpr ⟨i, hi, rfl⟩
    rw [hC] at h1
    obtain ⟨q, -, hq⟩ := List.mem_map.mp h1
    have hl : i < X.length := (List.getElem?_eq_some_iff.mp hq.symm).1
    rw [List.getElem?_append_left hl]
  have hF := va_free (wc := wc) hD hS hA isC hC'
  refine va_callv hr hS (fun q _ h => hF q h) hF (fun u t H1 locs1 ht hvm hw hB hz hk hS1 => ?_)
  obtain ⟨hP1, hD1⟩ := hB
  rw [ht] at hP1
  obtain ⟨hP2, hD2⟩ := va_joinQ hP hD isC isR hC hR hn hdis hk hF hP1 hD1
  exact kk u H1 locs1 hw hP2 hD2 hS1
theorem aftP_v {post : S → Prop} {x1 p1 : S → va_W} {mc ms : Nat} (hr : va_Run p l e R s m args below meth c H locs cells slots mc ms (F0 m pc ls st0) rest (va_Qv post (fun u t => va_P G vwCl (x1 u ++ p1 u) t.heap ∧ va_D (va_A (wc ++ pl) H.size) (x1 u ++ p1 u)) (va_A (wc ++ pl) H.size) av) (va_A (wc ++ pl) H.size))
    (hP : va_P G vwCl (X ++ pl) H) (hD : va_D A (X ++ pl)) (hS : va_S A H0 H locs) (hA : ∀ q, H0.size ≤ q → A q)
    (isC isR : List Nat) (hC : isC.map (fun i => X[i]?) = wc.map some) (hR : isR.map (fun i => X[i]?) = wr.map some) (hn : va_nd isR = true) (hdis : ∀ i ∈ isR, i ∉ isC)
    (kk : ∀ (u : S) (H1 : Heap) (locs1 : List Loc), post u → va_P G vwCl ((wr ++ x1 u) ++ p1 u) H1 → va_D A ((wr ++ x1 u) ++ p1 u) → va_S A H0 H1 locs1 → W p l e R s m args below meth c H1 locs1 (cells + mc) (slots + ms) Q (F0 m (pc + 3) ls rest)) :
    W p l e R s m args below meth c H locs cells slots Q (F0 m pc ls st0) := by
  have hF := va_freeP (cx := wc) (pl := pl) hD hS hA isC hC
  refine va_callv hr hS (fun q _ h => hF q h) hF (fun u t H1 locs1 ht hvm hw hB hz hk hS1 => ?_)
  obtain ⟨hP1, hD1⟩ := hB
  rw [ht] at hP1
  obtain ⟨hP2, hD2⟩ := va_joinP hP hD isC isR hC hR hn hdis hk hF hP1 hD1
  exact kk u H1 locs1 hw hP2 hD2 hS1
theorem preVP {T : List (ClassId × FieldType)} {b q0 ci : Nat} {cq : vw_C} {fs As : List Value} (hK : KK G T s) (hP : va_P G vwCl (X ++ pl) H) (hD : va_D A (X ++ pl)) (isC : List Nat) (hC : isC.map (fun i => X[i]?) = wc.map some) (hnd : va_nd isC = true) (he : (X ++ pl)[q0]? = some (b, .inr (ci, fs))) (hc : vwCl[ci]? = some cq) : PreV s H cq.1 b (PW G T (.ref b :: As) (wc ++ pl) H.size) As :=
  ⟨PW_blind, va_recv hK.1 hP hc he, fun U hU hW => ⟨rfl, by rw [hU], by rw [hU]; exact hP.part isC hC, hK.warm hW, (hD.part isC hnd hC).weaken (fun _ _ _ _ => trivial)⟩⟩
/-- a reference out of a row of references that are all there -/
theorem qld {T : List (ClassId × FieldType)} {ws : va_W} {n : Nat} {f : Nat → Nat} {cA : ClassId} {C : String} {a j : Nat} (hx : p.tables.exec = Jvm.exec) (hb : c.code = cc) (hK : KK G T s) (hP : va_P G vwCl ws H) (q0 t0 : Nat) (ha : ws[q0]? = some (a, .inl (cA, n, .inr (.inr (.inr (.inr (fun i => some (f i)))))))) (ht : T[t0]? = some (cA, .object C)) (hj : j < n) (hn : n < 2147483648) (hdg : decode cc pc = .ok (.aaload, 1))
    (kk : W p l e R s m args below meth c H locs cells slots Q (F0 m (pc + 1) ls (.ref (f j) :: rest))) : W p l e R s m args below meth c H locs cells slots Q (F0 m pc ls (.int (nI j) :: .ref a :: rest)) := by
  refine va_aldq hx hb hK.1 hP q0 t0 ha ht (vp_in_nI hj hn) hdg ?_
  rw [nI_clamp (by omega)]
  exact kk
end
theorem va_P_mem {G : va_G} {ws : va_W} {H : Heap} : va_P G vwCl ws H ↔ ∀ q ∈ ws, va_at G vwCl q H := by
  constructor
  · intro h q hq
    obtain ⟨k, hk⟩ := List.getElem?_of_mem hq
    exact h k q hk
  · intro h k q hk
    exact h q (List.mem_of_getElem? hk)
theorem va_D_iff {A : Nat → Prop} {ws : va_W} : va_D A ws ↔ (ws.map Prod.fst).Nodup ∧ ∀ q ∈ ws, A q.1 := by
  constructor
  · intro h
    refine ⟨?_, fun q hq => ?_⟩
    · rw [List.nodup_iff_pairwise_ne, List.pairwise_iff_getElem]
      intro i j hi hj hij e
      rw [List.getElem_map, List.getElem_map] at e
      rw [List.length_map] at hi hj
      have := h.1 i j ws[i] ws[j] (List.getElem?_eq_getElem hi) (List.getElem?_eq_getElem hj) e
      omega
    · obtain ⟨k, hk⟩ := List.getElem?_of_mem hq
      exact h.2 k q hk
  · rintro ⟨h1, h2⟩
    rw [List.nodup_iff_pairwise_ne, List.pairwise_iff_getElem] at h1
    refine ⟨fun i j x y hi hj e => ?_, fun k q hk => h2 q (List.mem_of_getElem? hk)⟩
    obtain ⟨li, ei⟩ := List.getElem?_eq_some_iff.mp hi
    obtain ⟨lj, ej⟩ := List.getElem?_eq_some_iff.mp hj
    rcases Nat.lt_trichotomy i j with q | q | q
    · refine absurd ?_ (h1 i j (by rw [List.length_map]; exact li) (by rw [List.length_map]; exact lj) q)
      rw [List.getElem_map, List.getElem_map, ei, ej, e]
    · exact q
    · refine absurd ?_ (h1 j i (by rw [List.length_map]; exact lj) (by rw [List.length_map]; exact li) q)
      rw [List.getElem_map, List.getElem_map, ei, ej, e]
theorem va_P_perm {G : va_G} {ws ws' : va_W} {H : Heap} (h : ws.Perm ws') (hP : va_P G vwCl ws H) : va_P G vwCl ws' H := by
  rw [va_P_mem] at hP ⊢
  exact fun q hq => hP q (h.mem_iff.mpr hq)
theorem va_D_perm {A : Nat → Prop} {ws ws' : va_W} (h : ws.Perm ws') (hD : va_D A ws) : va_D A ws' := by
  rw [va_D_iff] at hD ⊢
  exact ⟨(h.map Prod.fst).nodup_iff.mp hD.1, fun q hq => hD.2 q (h.mem_iff.mpr hq)⟩
/-- a scene's cells -/
abbrev wSc (cI cZ : ClassId) (g : Nat → Nat) (v : Nat → Nat → Int32) (mi : Int32) (se : Int64) : va_W := [(g 0, .inr (5, [.ref (g 1), .ref (g 2), .ref (g 3), .ref (g 4), .ref (g 5), .ref (g 6), .ref (g 7), .int mi, .long se])), (g 1, .inl (cI, 7, .inl (v 0))), (g 2, .inl (cI, 7, .inl (v 1))), (g 3, .inl (cI, 7, .inl (v 5))), (g 4, .inl (cI, 7, .inl (v 2))), (g 5, .inl (cI, 7, .inl (v 3))), (g 6, .inl (cI, 7, .inl (v 4))), (g 7, .inl (cZ, 7, .inl (v 6)))]
/-- n scenes in a row, or but those that is names -/
def scs (cI cZ : ClassId) (is : List Nat) (hb : Nat → Nat → Nat) (bk : Nat → Nat → Nat → Int32) (bm : Nat → Int32) (bs : Nat → Int64) : va_W := (is.map (fun i => wSc cI cZ (hb i) (bk i) (bm i) (bs i))).flatten
theorem scs_perm {cI cZ : ClassId} {is : List Nat} {i : Nat} {X : va_W} {hb : Nat → Nat → Nat} {bk : Nat → Nat → Nat → Int32} {bm : Nat → Int32} {bs : Nat → Int64} (hi : i ∈ is) : (X ++ scs cI cZ is hb bk bm bs).Perm ((X ++ wSc cI cZ (hb i) (bk i) (bm i) (bs i)) ++ scs cI cZ (is.erase i) hb bk bm bs) := by
  rw [List.append_assoc]
  refine List.Perm.append_left X ?_
  have h := ((List.perm_cons_erase hi).map (fun i => wSc cI cZ (hb i) (bk i) (bm i) (bs i))).flatten
  exact h
theorem scs_congr {cI cZ : ClassId} {is : List Nat} {hb : Nat → Nat → Nat} {bk bk' : Nat → Nat → Nat → Int32} {bm bm' : Nat → Int32} {bs bs' : Nat → Int64} (h : ∀ i ∈ is, bk i = bk' i ∧ bm i = bm' i ∧ bs i = bs' i) : scs cI cZ is hb bk bm bs = scs cI cZ is hb bk' bm' bs' := by
  unfold scs
  congr 1
  refine List.map_congr_left (fun i hi => ?_)
  obtain ⟨h1, h2, h3⟩ := h i hi
  rw [h1, h2, h3]
theorem scs_back {cI cZ : ClassId} {is : List Nat} {i : Nat} {X : va_W} {hb : Nat → Nat → Nat} {bk : Nat → Nat → Nat → Int32} {bm : Nat → Int32} {bs : Nat → Int64} {v : Nat → Nat → Int32} {mi : Int32} {se : Int64} (hi : i ∈ is) (hn : is.Nodup) : ((X ++ wSc cI cZ (hb i) v mi se) ++ scs cI cZ (is.erase i) hb bk bm bs).Perm (X ++ scs cI cZ is hb (va_up bk i v) (va_up bm i mi) (va_up bs i se)) := by
  have h := (scs_perm (cI := cI) (cZ := cZ) (X := X) (hb := hb) (bk := va_up bk i v) (bm := va_up bm i mi) (bs := va_up bs i se) hi).symm
  rw [va_up_self, va_up_self, va_up_self] at h
  rw [scs_congr (is := is.erase i) (bk' := va_up bk i v) (bm' := va_up bm i mi) (bs' := va_up bs i se) (bk := bk) (bm := bm) (bs := bs)]
  · exact h
  · intro j hj
    have hji : j ≠ i := fun e => by
      rw [e] at hj
      exact (List.Nodup.not_mem_erase hn) hj
    exact ⟨(va_up_ne _ _ hji).symm, (va_up_ne _ _ hji).symm, (va_up_ne _ _ hji).symm⟩
theorem r12_in {i : Nat} (h : i < 12) : i ∈ List.range 12 := List.mem_range.mpr h
theorem r12_nd : (List.range 12).Nodup := List.nodup_range
theorem r2_in {i : Nat} (h : i < 2) : i ∈ List.range 2 := List.mem_range.mpr h
