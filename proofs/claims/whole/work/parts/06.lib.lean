/-! the words of my contracts: world, pre, post; calls with their frame; returns -/
abbrev kT (cI cJ cZ cS : ClassId) : List (ClassId × FieldType) := [(cI, .int), (cJ, .long), (cZ, .boolean), (cS, .object "HearsayMarch$Scene")]
def nestOrder : Cond := .methodLinkNest RX3 82 yX9_isOrder RX9
/-- what the tables say of classes and arrays, and the one link to a nest mate's private method -/
def KK (G : va_G) (T : List (ClassId × FieldType)) (U : State) : Prop := va_K G vwCl T U ∧ va_Nw nestOrder U ∧ va_AO "HearsayMarch$Scene" U
theorem KK.warm {G : va_G} {T : List (ClassId × FieldType)} {s U : State} (hW : s.WarmedH U.vm) (h : KK G T s) : KK G T U := ⟨va_K.moved hW.alike h.1, va_Nw.warmM hW h.2.1, va_AO.moved hW.alike h.2.2⟩
def PW (G : va_G) (T : List (ClassId × FieldType)) (av : List Value) (w : va_W) (sz : Nat) : Array Value → State → Prop := va_Pc av (fun U => U.heap.size = sz ∧ va_P G vwCl w U.heap ∧ KK G T U ∧ va_D (fun _ => True) w)
theorem PW_blind {G : va_G} {T : List (ClassId × FieldType)} {av : List Value} {w : va_W} {sz : Nat} : FrameBlind (PW G T av w sz) := fun a U g mk q => by
  obtain ⟨q0, q1, qP, ⟨qK, qN, qO⟩, qD⟩ := q
  exact ⟨q0, q1, qP, ⟨va_K.moved (u := U) (U := U.calling g mk a) (Vm.Alike.refl U.vm) qK, va_Nw.same (u := U) (U := U.calling g mk a) rfl rfl qN, va_AO.moved (u := U) (U := U.calling g mk a) (Vm.Alike.refl U.vm) qO⟩, qD⟩
/-- contracts that answer an int (or a boolean), a long, nothing -/
def CI (l : Launch) (G : va_G) (T : List (ClassId × FieldType)) {S : Type} (y : MethodName) (ws : List Cond) (rm : Room) (av : List Value) (w : va_W) (post : Int32 → S → Prop) (w1 : S → va_W) : Prop := ∀ sz : Nat, Met l y ws rm (PW G T av w sz) (va_Qi post (fun u t => va_P G vwCl (w1 u) t.heap ∧ va_D (va_A w sz) (w1 u)) (va_A w sz)) rm.cells rm.slots (va_A w sz)
def CL (l : Launch) (G : va_G) (T : List (ClassId × FieldType)) {S : Type} (y : MethodName) (ws : List Cond) (rm : Room) (av : List Value) (w : va_W) (post : Int64 → S → Prop) (w1 : S → va_W) : Prop := ∀ sz : Nat, Met l y ws rm (PW G T av w sz) (va_Ql post (fun u t => va_P G vwCl (w1 u) t.heap ∧ va_D (va_A w sz) (w1 u)) (va_A w sz)) rm.cells rm.slots (va_A w sz)
def CV (l : Launch) (G : va_G) (T : List (ClassId × FieldType)) {S : Type} (y : MethodName) (ws : List Cond) (rm : Room) (av : List Value) (w : va_W) (post : S → Prop) (w1 : S → va_W) : Prop := ∀ sz : Nat, Met l y ws rm (PW G T av w sz) (va_Qv post (fun u t => va_P G vwCl (w1 u) t.heap ∧ va_D (va_A w sz) (w1 u)) (va_A w sz)) rm.cells rm.slots (va_A w sz)
/-- what a walk begins with -/
def Beg (p : Program) (s : State) (m : MethodId) (meth : Method) (c : Code) (A : Nat → Prop) (ls : Array Slot) (y : MethodName) (ws : List Cond) (cc : ByteArray) (maxL : Nat) (ret : Option FieldType) (G : va_G) (T : List (ClassId × FieldType)) (av : List Value) (w : va_W) : Prop :=
  p.tables.exec = Jvm.exec ∧ c.code = cc ∧ c.maxLocals = maxL ∧ meth.sig.returnType = ret ∧ (∀ q ∈ ws, q.before av.toArray s = true) ∧ s.vm.findClass y.cls = some m.cls ∧ meth.locks = false ∧ meth.name = y.name ∧ KK G T s ∧ va_P G vwCl w s.heap ∧ va_D A w ∧ va_S A s.heap s.heap [] ∧ (∀ q, s.heap.size ≤ q → A q) ∧ lv_has ls maxL (lv_args 0 av)
theorem Beg.of {p : Program} {l : Launch} {y : MethodName} {ws : List Cond} {rm : Room} {cc : ByteArray} {maxL : Nat} {ret : Option FieldType} {G : va_G} {T : List (ClassId × FieldType)} {av : List Value} {w : va_W} {sz : Nat} {e : Env} {s : State} {m : MethodId} {args : Array Value} {below : List Frame} {meth : Method} {c : Code} {s₁ : State} (B : BodyLoose p l y (headSpec ws rm) cc maxL ret e s m args below meth c s₁) (hml : c.maxLocals = maxL) (hv : PW G T av w sz args s) (hlen : (lg_sl av).length ≤ maxL) :
    args = av.toArray ∧ s.heap.size = sz ∧ ∃ ls : Array Slot, entryFrame m args maxL = F0 m 0 ls [] ∧ Beg p s m meth c (va_A w sz) ls y ws cc maxL ret G T av w := by
  obtain ⟨rfl, hsz, hP, hK, hD⟩ := hv
  refine ⟨rfl, hsz, _, lg_entry_eq m av maxL, B.exec, B.bytes, hml, B.returns, atoms_spec (ws := ws) B.pre, findClass_of_methodNamed B.named, B.notSynchronized, (name_of_methodNamed B.named B.method).1, hK, hP, hD.self, va_S.rf, fun q h => Or.inr (by rw [← hsz]; exact h), lv_entry av hlen⟩
theorem CI.of {l : Launch} {G : va_G} {T : List (ClassId × FieldType)} {S : Type} {y : MethodName} {ws ws' : List Cond} {rm : Room} {av : List Value} {w : va_W} {post : Int32 → S → Prop} {w1 : S → va_W} {cc : ByteArray} {maxL : Nat} {ret : Option FieldType} (hy : plainName y.cls = true) (hw : ws = Cond.code y cc maxL ret :: ws') (hlen : (lg_sl av).length ≤ maxL)
    (body : ∀ (p : Program) (e : Env) (s : State) (m : MethodId) (below : List Frame) (meth : Method) (c : Code) (A : Nat → Prop) (ls : Array Slot), Beg p s m meth c A ls y ws cc maxL ret G T av w → W p l e rm s m av.toArray below meth c s.heap [] 0 0 (MQ below (va_Qi post (fun u t => va_P G vwCl (w1 u) t.heap ∧ va_D A (w1 u)) A) av.toArray s rm.cells rm.slots A) (F0 m 0 ls [])) : CI l G T y ws rm av w post w1 := by
  intro sz
  refine Met.ofW (cc := cc) (maxL := maxL) (ret := ret) hy hw ?_
  intro p e s m args below meth c s₁ B hml hv
  obtain ⟨rfl, hsz, ls, hE, hB⟩ := Beg.of B hml hv hlen
  rw [hE]
  exact body p e s m below meth c _ ls hB
theorem CL.of {l : Launch} {G : va_G} {T : List (ClassId × FieldType)} {S : Type} {y : MethodName} {ws ws' : List Cond} {rm : Room} {av : List Value} {w : va_W} {post : Int64 → S → Prop} {w1 : S → va_W} {cc : ByteArray} {maxL : Nat} {ret : Option FieldType} (hy : plainName y.cls = true) (hw : ws = Cond.code y cc maxL ret :: ws') (hlen : (lg_sl av).length ≤ maxL)
    (body : ∀ (p : Program) (e : Env) (s : State) (m : MethodId) (below : List Frame) (meth : Method) (c : Code) (A : Nat → Prop) (ls : Array Slot), Beg p s m meth c A ls y ws cc maxL ret G T av w → W p l e rm s m av.toArray below meth c s.heap [] 0 0 (MQ below (va_Ql post (fun u t => va_P G vwCl (w1 u) t.heap ∧ va_D A (w1 u)) A) av.toArray s rm.cells rm.slots A) (F0 m 0 ls [])) : CL l G T y ws rm av w post w1 := by
  intro sz
  refine Met.ofW (cc := cc) (maxL := maxL) (ret := ret) hy hw ?_
  intro p e s m args below meth c s₁ B hml hv
  obtain ⟨rfl, hsz, ls, hE, hB⟩ := Beg.of B hml hv hlen
  rw [hE]
  exact body p e s m below meth c _ ls hB
theorem CV.of {l : Launch} {G : va_G} {T : List (ClassId × FieldType)} {S : Type} {y : MethodName} {ws ws' : List Cond} {rm : Room} {av : List Value} {w : va_W} {post : S → Prop} {w1 : S → va_W} {cc : ByteArray} {maxL : Nat} {ret : Option FieldType} (hy : plainName y.cls = true) (hw : ws = Cond.code y cc maxL ret :: ws') (hlen : (lg_sl av).length ≤ maxL)
    (body : ∀ (p : Program) (e : Env) (s : State) (m : MethodId) (below : List Frame) (meth : Method) (c : Code) (A : Nat → Prop) (ls : Array Slot), Beg p s m meth c A ls y ws cc maxL ret G T av w → W p l e rm s m av.toArray below meth c s.heap [] 0 0 (MQ below (va_Qv post (fun u t => va_P G vwCl (w1 u) t.heap ∧ va_D A (w1 u)) A) av.toArray s rm.cells rm.slots A) (F0 m 0 ls [])) : CV l G T y ws rm av w post w1 := by
  intro sz
  refine Met.ofW (cc := cc) (maxL := maxL) (ret := ret) hy hw ?_
  intro p e s m args below meth c s₁ B hml hv
  obtain ⟨rfl, hsz, ls, hE, hB⟩ := Beg.of B hml hv hlen
  rw [hE]
  exact body p e s m below meth c _ ls hB
/-- cutting cells out by places -/
theorem P_pick {G : va_G} {ws wc : va_W} {H : Heap} (hP : va_P G vwCl ws H) (isC : List Nat) (hC : isC.map (fun i => ws[i]?) = wc.map some) : va_P G vwCl wc H := by
  refine hP.sub isC ?_
  have h1 : ∀ (is : List Nat) (w : va_W), is.map (fun i => ws[i]?) = w.map some → is.filterMap (fun i => ws[i]?) = w := by
    intro is
    induction is with
    | nil =>
      intro w h
      cases w with
      | nil => rfl
      | cons a b => simp at h
    | cons a b ih =>
      intro w h
      cases w with
      | nil => simp at h
      | cons x y =>
        simp only [List.map_cons, List.cons.injEq] at h
        simp only [List.filterMap_cons, h.1, ih y h.2]
  exact h1 isC wc hC
theorem preV {G : va_G} {T : List (ClassId × FieldType)} {s : State} {A : Nat → Prop} {H : Heap} {ws wc : va_W} {b q0 ci : Nat} {cq : vw_C} {fs As : List Value} (hK : KK G T s) (hP : va_P G vwCl ws H) (hD : va_D A ws) (isC : List Nat) (hC : isC.map (fun i => ws[i]?) = wc.map some) (hnd : va_nd isC = true) (he : ws[q0]? = some (b, .inr (ci, fs))) (hc : vwCl[ci]? = some cq) : PreV s H cq.1 b (PW G T (.ref b :: As) wc H.size) As :=
  ⟨PW_blind, va_recv hK.1 hP hc he, fun U hU hW => ⟨rfl, by rw [hU], by rw [hU]; exact P_pick hP isC hC, hK.warm hW, (hD.sub isC hnd hC).weaken (fun _ _ _ _ => trivial)⟩⟩
theorem preS {G : va_G} {T : List (ClassId × FieldType)} {s : State} {A : Nat → Prop} {H : Heap} {ws wc : va_W} {As : List Value} (hK : KK G T s) (hP : va_P G vwCl ws H) (hD : va_D A ws) (isC : List Nat) (hC : isC.map (fun i => ws[i]?) = wc.map some) (hnd : va_nd isC = true) : PreS s H (PW G T As wc H.size) As :=
  ⟨PW_blind, fun U hU hW => ⟨rfl, by rw [hU], by rw [hU]; exact P_pick hP isC hC, hK.warm hW, (hD.sub isC hnd hC).weaken (fun _ _ _ _ => trivial)⟩⟩
section
variable {p : Program} {l : Launch} {e : Env} {R : Room} {s : State} {m : MethodId} {args : Array Value} {below : List Frame} {meth : Method} {c : Code} {H : Heap} {locs : List Loc} {cells slots : Nat} {Q : State → Prop} {pc : Nat} {ls : Array Slot} {rest : List Value} {cc : ByteArray}
variable {G : va_G} {A : Nat → Prop} {H0 : Heap} {S : Type} {w1 : S → va_W} {ws wc wr : va_W} {st0 : List Value} {av : Array Value}
theorem aft_i {post : Int32 → S → Prop} (hr : va_Run p l e R s m args below meth c H locs cells slots 0 0 (F0 m pc ls st0) rest (va_Qi post (fun u t => va_P G vwCl (w1 u) t.heap ∧ va_D (va_A wc H.size) (w1 u)) (va_A wc H.size) av) (va_A wc H.size))
    (hP : va_P G vwCl ws H) (hD : va_D A ws) (hS : va_S A H0 H locs) (hA : ∀ q, H0.size ≤ q → A q)
    (isC isR : List Nat) (hC : isC.map (fun i => ws[i]?) = wc.map some) (hR : isR.map (fun i => ws[i]?) = wr.map some) (hn : va_nd isR = true) (hdis : ∀ i ∈ isR, i ∉ isC)
    (kk : ∀ (r : Int32) (u : S) (H1 : Heap) (locs1 : List Loc), post r u → va_P G vwCl (wr ++ w1 u) H1 → va_D A (wr ++ w1 u) → va_S A H0 H1 locs1 → W p l e R s m args below meth c H1 locs1 cells slots Q (F0 m (pc + 3) ls (.int r :: rest))) :
    W p l e R s m args below meth c H locs cells slots Q (F0 m pc ls st0) := by
  have hF := va_free (wc := wc) hD hS hA isC hC
  refine va_calli hr hS (fun q _ h => hF q h) hF (fun r u t H1 locs1 ht hvm hw hB hz hk hS1 => ?_)
  obtain ⟨hP1, hD1⟩ := hB
  rw [ht] at hP1
  obtain ⟨hP2, hD2⟩ := va_join hP hD isC isR hC hR hn hdis hk hF hP1 hD1
  exact kk r u H1 locs1 hw hP2 hD2 hS1
theorem aft_l {post : Int64 → S → Prop} (hr : va_Run p l e R s m args below meth c H locs cells slots 0 0 (F0 m pc ls st0) rest (va_Ql post (fun u t => va_P G vwCl (w1 u) t.heap ∧ va_D (va_A wc H.size) (w1 u)) (va_A wc H.size) av) (va_A wc H.size))
    (hP : va_P G vwCl ws H) (hD : va_D A ws) (hS : va_S A H0 H locs) (hA : ∀ q, H0.size ≤ q → A q)
    (isC isR : List Nat) (hC : isC.map (fun i => ws[i]?) = wc.map some) (hR : isR.map (fun i => ws[i]?) = wr.map some) (hn : va_nd isR = true) (hdis : ∀ i ∈ isR, i ∉ isC)
    (kk : ∀ (r : Int64) (u : S) (H1 : Heap) (locs1 : List Loc), post r u → va_P G vwCl (wr ++ w1 u) H1 → va_D A (wr ++ w1 u) → va_S A H0 H1 locs1 → W p l e R s m args below meth c H1 locs1 cells slots Q (F0 m (pc + 3) ls (.long r :: rest))) :
    W p l e R s m args below meth c H locs cells slots Q (F0 m pc ls st0) := by
  have hF := va_free (wc := wc) hD hS hA isC hC
  refine va_calll hr hS (fun q _ h => hF q h) hF (fun r u t H1 locs1 ht hvm hw hB hz hk hS1 => ?_)
  obtain ⟨hP1, hD1⟩ := hB
  rw [ht] at hP1
  obtain ⟨hP2, hD2⟩ := va_join hP hD isC isR hC hR hn hdis hk hF hP1 hD1
  exact kk r u H1 locs1 hw hP2 hD2 hS1
theorem aft_v {post : S → Prop} {mc ms : Nat} (hr : va_Run p l e R s m args below meth c H locs cells slots mc ms (F0 m pc ls st0) rest (va_Qv post (fun u t => va_P G vwCl (w1 u) t.heap ∧ va_D (va_A wc H.size) (w1 u)) (va_A wc H.size) av) (va_A wc H.size))
    (hP : va_P G vwCl ws H) (hD : va_D A ws) (hS : va_S A H0 H locs) (hA : ∀ q, H0.size ≤ q → A q)
    (isC isR : List Nat) (hC : isC.map (fun i => ws[i]?) = wc.map some) (hR : isR.map (fun i => ws[i]?) = wr.map some) (hn : va_nd isR = true) (hdis : ∀ i ∈ isR, i ∉ isC)
    (kk : ∀ (u : S) (H1 : Heap) (locs1 : List Loc), post u → va_P G vwCl (wr ++ w1 u) H1 → va_D A (wr ++ w1 u) → va_S A H0 H1 locs1 → W p l e R s m args below meth c H1 locs1 (cells + mc) (slots + ms) Q (F0 m (pc + 3) ls rest)) :
    W p l e R s m args below meth c H locs cells slots Q (F0 m pc ls st0) := by
  have hF := va_free (wc := wc) hD hS hA isC hC
  refine va_callv hr hS (fun q _ h => hF q h) hF (fun u t H1 locs1 ht hvm hw hB hz hk hS1 => ?_)
  obtain ⟨hP1, hD1⟩ := hB
  rw [ht] at hP1
  obtain ⟨hP2, hD2⟩ := va_join hP hD isC isR hC hR hn hdis hk hF hP1 hD1
  exact kk u H1 locs1 hw hP2 hD2 hS1
/-- ends -/
theorem endI {post : Int32 → S → Prop} {v : Int32} (hx : p.tables.exec = Jvm.exec) (hb : c.code = cc) (hr : meth.sig.returnType = some .int) (hlocks : meth.locks = false) (u : S) (hpost : post v u) (hP : va_P G vwCl (w1 u) H) (hD : va_D A (w1 u)) (hS : va_S A s.heap H locs) (hdg : decode cc pc = .ok (.ireturn, 1)) : W p l e R s m args below meth c H locs cells slots (MQ below (va_Qi post (fun u t => va_P G vwCl (w1 u) t.heap ∧ va_D A (w1 u)) A) args s cells slots A) (F0 m pc ls [.int v]) :=
  W.iret (v := v) hx hb hr (fun t ht hW => ⟨⟨v, u, rfl, hpost, by rw [ht]; exact hP, hD⟩, hS.F ht⟩) hS.2.2 hdg hlocks
theorem endZ {post : Int32 → S → Prop} {v : Int32} {ty : FieldType} (hx : p.tables.exec = Jvm.exec) (hb : c.code = cc) (hr : meth.sig.returnType = some ty) (hlocks : meth.locks = false) (hn : narrow ty (.int v) = .int v) (u : S) (hpost : post v u) (hP : va_P G vwCl (w1 u) H) (hD : va_D A (w1 u)) (hS : va_S A s.heap H locs) (hdg : decode cc pc = .ok (.ireturn, 1)) : W p l e R s m args below meth c H locs cells slots (MQ below (va_Qi post (fun u t => va_P G vwCl (w1 u) t.heap ∧ va_D A (w1 u)) A) args s cells slots A) (F0 m pc ls [.int v]) :=
  W.zret (v := v) hx hb hr hn (fun t ht hW => ⟨⟨v, u, rfl, hpost, by rw [ht]; exact hP, hD⟩, hS.F ht⟩) hS.2.2 hdg hlocks
theorem endL {post : Int64 → S → Prop} {v : Int64} (hx : p.tables.exec = Jvm.exec) (hb : c.code = cc) (hr : meth.sig.returnType = some .long) (hlocks : meth.locks = false) (u : S) (hpost : post v u) (hP : va_P G vwCl (w1 u) H) (hD : va_D A (w1 u)) (hS : va_S A s.heap H locs) (hdg : decode cc pc = .ok (.lreturn, 1)) : W p l e R s m args below meth c H locs cells slots (MQ below (va_Ql post (fun u t => va_P G vwCl (w1 u) t.heap ∧ va_D A (w1 u)) A) args s cells slots A) (F0 m pc ls [.long v]) :=
  W.lret (v := v) hx hb hr (fun t ht hW => ⟨⟨v, u, rfl, hpost, by rw [ht]; exact hP, hD⟩, hS.F ht⟩) hS.2.2 hdg hlocks
theorem endV {post : S → Prop} (hx : p.tables.exec = Jvm.exec) (hb : c.code = cc) (hr : meth.sig.returnType = none) (hlocks : meth.locks = false) (u : S) (hpost : post u) (hP : va_P G vwCl (w1 u) H) (hD : va_D A (w1 u)) (hS : va_S A s.heap H locs) (hdg : decode cc pc = .ok (.return_, 1)) : W p l e R s m args below meth c H locs cells slots (MQ below (va_Qv post (fun u t => va_P G vwCl (w1 u) t.heap ∧ va_D A (w1 u)) A) args s cells slots A) (F0 m pc ls []) :=
  W.vret hx hb hr (fun t ht hW => ⟨⟨u, rfl, hpost, by rw [ht]; exact hP, hD⟩, hS.F ht⟩) hS.2.2 hdg hlocks
/-- another name for the value on top -/
theorem top_i {x y : Int32} (h : x = y) (k : W p l e R s m args below meth c H locs cells slots Q (F0 m pc ls (.int y :: rest))) : W p l e R s m args below meth c H locs cells slots Q (F0 m pc ls (.int x :: rest)) := h ▸ k
theorem top_l {x y : Int64} (h : x = y) (k : W p l e R s m args below meth c H locs cells slots Q (F0 m pc ls (.long y :: rest))) : W p l e R s m args below meth c H locs cells slots Q (F0 m pc ls (.long x :: rest)) := h ▸ k
/-- reads and writes of arrays at a counted place -/
theorem ald {T : List (ClassId × FieldType)} {n : Nat} {f : Nat → Int32} {cA : ClassId} {a j : Nat} (hx : p.tables.exec = Jvm.exec) (hb : c.code = cc) (hK : KK G T s) (hP : va_P G vwCl ws H) (q0 t0 : Nat) (ha : ws[q0]? = some (a, .inl (cA, n, .inl f))) (ht : T[t0]? = some (cA, .int)) (hj : j < n) (hn : n < 2147483648) (hdg : decode cc pc = .ok (.iaload, 1))
    (kk : W p l e R s m args below meth c H locs cells slots Q (F0 m (pc + 1) ls (.int (f j) :: rest))) : W p l e R s m args below meth c H locs cells slots Q (F0 m pc ls (.int (nI j) :: .ref a :: rest)) := by
  refine va_iald hx hb hK.1 hP q0 t0 ha ht (vp_in_nI hj hn) hdg ?_
  rw [nI_clamp (by omega)]
  exact kk
theorem zld {T : List (ClassId × FieldType)} {n : Nat} {f : Nat → Int32} {cA : ClassId} {a j : Nat} (hx : p.tables.exec = Jvm.exec) (hb : c.code = cc) (hK : KK G T s) (hP : va_P G vwCl ws H) (q0 t0 : Nat) (ha : ws[q0]? = some (a, .inl (cA, n, .inl f))) (ht : T[t0]? = some (cA, .boolean)) (hj : j < n) (hn : n < 2147483648) (hdg : decode cc pc = .ok (.baload, 1))
    (kk : W p l e R s m args below meth c H locs cells slots Q (F0 m (pc + 1) ls (.int (f j) :: rest))) : W p l e R s m args below meth c H locs cells slots Q (F0 m pc ls (.int (nI j) :: .ref a :: rest)) := by
  refine va_zald hx hb hK.1 hP q0 t0 ha ht (vp_in_nI hj hn) hdg ?_
  rw [nI_clamp (by omega)]
  exact kk
theorem lld {T : List (ClassId × FieldType)} {n : Nat} {f : Nat → Int64} {cA : ClassId} {a j : Nat} (hx : p.tables.exec = Jvm.exec) (hb : c.code = cc) (hK : KK G T s) (hP : va_P G vwCl ws H) (q0 t0 : Nat) (ha : ws[q0]? = some (a, .inl (cA, n, .inr (.inl f)))) (ht : T[t0]? = some (cA, .long)) (hj : j < n) (hn : n < 2147483648) (hdg : decode cc pc = .ok (.laload, 1))
    (kk : W p l e R s m args below meth c H locs cells slots Q (F0 m (pc + 1) ls (.long (f j) :: rest))) : W p l e R s m args below meth c H locs cells slots Q (F0 m pc ls (.int (nI j) :: .ref a :: rest)) := by
  refine va_lald hx hb hK.1 hP q0 t0 ha ht (vp_in_nI hj hn) hdg ?_
  rw [nI_clamp (by omega)]
  exact kk
theorem ast {T : List (ClassId × FieldType)} {n : Nat} {f f' : Nat → Int32} {cA : ClassId} {a j : Nat} {x : Int32} (hx : p.tables.exec = Jvm.exec) (hb : c.code = cc) (hK : KK G T s) (hP : va_P G vwCl ws H) (hD : va_D A ws) (hS : va_S A H0 H locs) (q0 t0 : Nat) (ha : ws[q0]? = some (a, .inl (cA, n, .inl f))) (ht : T[t0]? = some (cA, .int)) (hj : j < n) (hn : n < 2147483648) (hf : upd f j x = f') (hdg : decode cc pc = .ok (.iastore, 1))
    (kk : ∀ (H1 : Heap) (locs1 : List Loc), va_P G vwCl (ws.set q0 (a, .inl (cA, n, .inl f'))) H1 → va_D A (ws.set q0 (a, .inl (cA, n, .inl f'))) → va_S A H0 H1 locs1 → W p l e R s m args below meth c H1 locs1 cells slots Q (F0 m (pc + 1) ls rest)) : W p l e R s m args below meth c H locs cells slots Q (F0 m pc ls (.int x :: .int (nI j) :: .ref a :: rest)) := by
  refine va_iast hx hb hK.1 hP hD hS q0 t0 ha ht (vp_in_nI hj hn) hdg (fun H1 locs1 h1 h2 h3 => ?_)
  rw [nI_clamp (by omega), hf] at h1 h2
  exact kk H1 locs1 h1 h2 h3
theorem zst {T : List (ClassId × FieldType)} {n : Nat} {f f' : Nat → Int32} {cA : ClassId} {a j : Nat} {x : Int32} (hx : p.tables.exec = Jvm.exec) (hb : c.code = cc) (hK : KK G T s) (hP : va_P G vwCl ws H) (hD : va_D A ws) (hS : va_S A H0 H locs) (q0 t0 : Nat) (ha : ws[q0]? = some (a, .inl (cA, n, .inl f))) (ht : T[t0]? = some (cA, .boolean)) (hj : j < n) (hn : n < 2147483648) (hz : vp_nar .boolean x = x) (hf : upd f j x = f') (hdg : decode cc pc = .ok (.bastore, 1))
    (kk : ∀ (H1 : Heap) (locs1 : List Loc), va_P G vwCl (ws.set q0 (a, .inl (cA, n, .inl f'))) H1 → va_D A (ws.set q0 (a, .inl (cA, n, .inl f'))) → va_S A H0 H1 locs1 → W p l e R s m args below meth c H1 locs1 cells slots Q (F0 m (pc + 1) ls rest)) : W p l e R s m args below meth c H locs cells slots Q (F0 m pc ls (.int x :: .int (nI j) :: .ref a :: rest)) := by
  refine va_zast hx hb hK.1 hP hD hS q0 t0 ha ht (vp_in_nI hj hn) hdg (fun H1 locs1 h1 h2 h3 => ?_)
  rw [nI_clamp (by omega), hz, hf] at h1 h2
  exact kk H1 locs1 h1 h2 h3
theorem lst {T : List (ClassId × FieldType)} {n : Nat} {f f' : Nat → Int64} {cA : ClassId} {a j : Nat} {x : Int64} (hx : p.tables.exec = Jvm.exec) (hb : c.code = cc) (hK : KK G T s) (hP : va_P G vwCl ws H) (hD : va_D A ws) (hS : va_S A H0 H locs) (q0 t0 : Nat) (ha : ws[q0]? = some (a, .inl (cA, n, .inr (.inl f)))) (ht : T[t0]? = some (cA, .long)) (hj : j < n) (hn : n < 2147483648) (hf : vp_updL f j x = f') (hdg : decode cc pc = .ok (.lastore, 1))
    (kk : ∀ (H1 : Heap) (locs1 : List Loc), va_P G vwCl (ws.set q0 (a, .inl (cA, n, .inr (.inl f')))) H1 → va_D A (ws.set q0 (a, .inl (cA, n, .inr (.inl f')))) → va_S A H0 H1 locs1 → W p l e R s m args below meth c H1 locs1 cells slots Q (F0 m (pc + 1) ls rest)) : W p l e R s m args below meth c H locs cells slots Q (F0 m pc ls (.long x :: .int (nI j) :: .ref a :: rest)) := by
  refine va_last hx hb hK.1 hP hD hS q0 t0 ha ht (vp_in_nI hj hn) hdg (fun H1 locs1 h1 h2 h3 => ?_)
  rw [nI_clamp (by omega), hf] at h1 h2
  exact kk H1 locs1 h1 h2 h3
end
/-- counted numbers -/
theorem upd_nat {g : Nat → Nat} {j x : Nat} : upd (fun i => nI (g i)) j (nI x) = fun i => nI (va_up g j x i) := by
  funext i
  by_cases h : i = j <;> simp [upd, va_up, h]
theorem updL_nat {g : Nat → Nat} {j x : Nat} : vp_updL (fun i => lN (g i)) j (lN x) = fun i => lN (va_up g j x i) := by
  funext i
  by_cases h : i = j <;> simp [vp_updL, va_up, h]
theorem nI_inc (a : Nat) (k : Int) (n : Nat) (h : Int32.ofInt k = nI n) : nI a + Int32.ofInt k = nI (a + n) := by rw [h, nI_add]
theorem nI_dec {a : Nat} (h : 0 < a) : nI a + Int32.ofInt (-1) = nI (a - 1) := by
  obtain ⟨b, rfl⟩ : ∃ b, a = b + 1 := ⟨a - 1, by omega⟩
  rw [Nat.add_sub_cancel]
  exact pk_m1 b
/-- a truth value as a number -/
noncomputable def bI (P : Prop) : Int32 := @ite Int32 P (Classical.propDecidable P) (nI 1) (nI 0)
theorem bI_y {P : Prop} (h : P) : nI 1 = bI P := by unfold bI; rw [if_pos h]
theorem bI_n {P : Prop} (h : ¬ P) : nI 0 = bI P := by unfold bI; rw [if_neg h]
theorem bI_f {P : Prop} (h : bI P = 0) : ¬ P := fun n => by rw [← bI_y n] at h; exact absurd h (by decide)
theorem bI_t {P : Prop} (h : ¬ bI P = 0) : P := Classical.byContradiction (fun n => h (by rw [← bI_n n]; decide))
theorem bI_iff {P P' : Prop} (h : P ↔ P') : bI P = bI P' := by rw [show P = P' from propext h]
theorem bI_cases (P : Prop) : (P ∧ bI P = nI 1) ∨ (¬ P ∧ bI P = nI 0) := (Classical.em P).elim (fun h => Or.inl ⟨h, (bI_y h).symm⟩) (fun h => Or.inr ⟨h, (bI_n h).symm⟩)
theorem bI_nar {P : Prop} : narrow .boolean (.int (bI P)) = .int (bI P) := by
  rcases bI_cases P with ⟨-, h⟩ | ⟨-, h⟩ <;> rw [h] <;> rfl
theorem bI_vnar {P : Prop} : vp_nar .boolean (bI P) = bI P := by
  rcases bI_cases P with ⟨-, h⟩ | ⟨-, h⟩ <;> rw [h] <;> rfl
section
variable {a b : Nat} (ha : a < 2147483648) (hb : b < 2147483648)
theorem n_ltT (h : nI a < nI b) (ha : a < 2147483648) (hb : b < 2147483648) : a < b := (nI_ltI ha hb).mp h
theorem n_ltF (h : ¬ nI a < nI b) (ha : a < 2147483648) (hb : b < 2147483648) : b ≤ a := Nat.not_lt.mp (fun k => h ((nI_ltI ha hb).mpr k))
theorem n_geT (h : nI b ≤ nI a) (ha : a < 2147483648) (hb : b < 2147483648) : b ≤ a := (nI_leI hb ha).mp h
theorem n_geF (h : ¬ nI b ≤ nI a) (ha : a < 2147483648) (hb : b < 2147483648) : a < b := Nat.not_le.mp (fun k => h ((nI_leI hb ha).mpr k))
theorem n_gtT (h : nI b < nI a) (ha : a < 2147483648) (hb : b < 2147483648) : b < a := (nI_ltI hb ha).mp h
theorem n_gtF (h : ¬ nI b < nI a) (ha : a < 2147483648) (hb : b < 2147483648) : a ≤ b := Nat.not_lt.mp (fun k => h ((nI_ltI hb ha).mpr k))
theorem n_leT (h : nI a ≤ nI b) (ha : a < 2147483648) (hb : b < 2147483648) : a ≤ b := (nI_leI ha hb).mp h
theorem n_leF (h : ¬ nI a ≤ nI b) (ha : a < 2147483648) (hb : b < 2147483648) : b < a := Nat.not_le.mp (fun k => h ((nI_leI ha hb).mpr k))
theorem n_eqT (h : nI a = nI b) (ha : a < 2147483648) (hb : b < 2147483648) : a = b := (nI_eq ha hb).mp h
theorem n_eqF (h : ¬ nI a = nI b) (ha : a < 2147483648) (hb : b < 2147483648) : ¬ a = b := fun k => h ((nI_eq ha hb).mpr k)
theorem n_neT (h : ¬ nI a = nI b) (ha : a < 2147483648) (hb : b < 2147483648) : ¬ a = b := n_eqF h ha hb
theorem n_neF (h : nI a = nI b) (ha : a < 2147483648) (hb : b < 2147483648) : a = b := n_eqT h ha hb
theorem z_eqT (h : nI a = 0) (ha : a < 2147483648) : a = 0 := (nI_eq (b := 0) ha (by decide)).mp h
theorem z_eqF (h : ¬ nI a = 0) (ha : a < 2147483648) : ¬ a = 0 := fun k => h (by rw [k]; rfl)
theorem z_neT (h : ¬ nI a = 0) (ha : a < 2147483648) : ¬ a = 0 := z_eqF h ha
theorem z_neF (h : nI a = 0) (ha : a < 2147483648) : a = 0 := z_eqT h ha
theorem z_ltT (h : nI a < 0) (ha : a < 2147483648) : False := nI_pos ha h
theorem z_ltF (h : ¬ nI a < 0) (ha : a < 2147483648) : True := trivial
theorem z_geT (h : 0 ≤ nI a) (ha : a < 2147483648) : True := trivial
theorem z_geF (h : ¬ 0 ≤ nI a) (ha : a < 2147483648) : False := h (nI_pos' ha)
theorem z_gtT (h : 0 < nI a) (ha : a < 2147483648) : 0 < a := (nI_ltI (a := 0) (by decide) ha).mp h
theorem z_gtF (h : ¬ 0 < nI a) (ha : a < 2147483648) : a = 0 := Nat.eq_zero_of_not_pos (fun k => h ((nI_ltI (a := 0) (by decide) ha).mpr k))
theorem z_leT (h : nI a ≤ 0) (ha : a < 2147483648) : a = 0 := Nat.le_zero.mp ((nI_leI (b := 0) ha (by decide)).mp h)
theorem z_leF (h : ¬ nI a ≤ 0) (ha : a < 2147483648) : 0 < a := Nat.pos_of_ne_zero (fun k => h (by rw [k]; decide))
end
section
variable {x y : Int64}
theorem lc_ltT (h : lg_cmp x y < 0) : x < y := (lg_cmp_lt x y).mp h
theorem lc_ltF (h : ¬ lg_cmp x y < 0) : ¬ x < y := fun k => h ((lg_cmp_lt x y).mpr k)
theorem lc_geT (h : 0 ≤ lg_cmp x y) : y ≤ x := (lg_cmp_ge x y).mp h
theorem lc_geF (h : ¬ 0 ≤ lg_cmp x y) : ¬ y ≤ x := fun k => h ((lg_cmp_ge x y).mpr k)
theorem lc_gtT (h : 0 < lg_cmp x y) : y < x := (lg_cmp_gt x y).mp h
theorem lc_gtF (h : ¬ 0 < lg_cmp x y) : ¬ y < x := fun k => h ((lg_cmp_gt x y).mpr k)
theorem lc_leT (h : lg_cmp x y ≤ 0) : x ≤ y := (lg_cmp_le x y).mp h
theorem lc_leF (h : ¬ lg_cmp x y ≤ 0) : ¬ x ≤ y := fun k => h ((lg_cmp_le x y).mpr k)
theorem lc_eqT (h : lg_cmp x y = 0) : x = y := (lg_cmp_eq x y).mp h
theorem lc_eqF (h : ¬ lg_cmp x y = 0) : ¬ x = y := fun k => h ((lg_cmp_eq x y).mpr k)
end
/-- a number that is one of the first n -/
def isR (n : Nat) (x : Int32) : Prop := ∃ j : Nat, j < n ∧ x = nI j
theorem isR_iff {n : Nat} {x : Int32} (hn : n < 2147483648) : isR n x ↔ 0 ≤ x ∧ x < nI n := by
  constructor
  · rintro ⟨j, hj, rfl⟩
    exact ⟨nI_pos' (Nat.lt_trans hj hn), (nI_ltI (Nat.lt_trans hj hn) hn).mpr hj⟩
  · rintro ⟨h1, h2⟩
    have h3 : ¬ x < 0 := fun k => by
      rw [Int32.lt_iff_toInt_lt] at k
      rw [Int32.le_iff_toInt_le] at h1
      omega
    obtain ⟨j, hj, rfl⟩ := nI_of h3
    exact ⟨j, (nI_ltI hj hn).mp h2, rfl⟩
theorem isR_nI {n j : Nat} (hj : j < 2147483648) (hn : n ≤ 2147483648) : isR n (nI j) ↔ j < n := by
  constructor
  · rintro ⟨k, hk, e⟩
    have := (nI_eq hj (Nat.lt_of_lt_of_le hk hn)).mp e
    omega
  · exact fun h => ⟨j, h, rfl⟩
theorem sw_out {x : Int32} {hi : Int} (n : Nat) (h0 : 0 < n) (hn : n < 2147483648) (he : hi + 1 = (n : Int)) (h : ∀ j, j < n → ¬ x = nI j) : x.toInt < 0 ∨ hi < x.toInt := by
  rcases pk_ix x (n := n) hn with k | k | ⟨j, hj, e⟩
  · left
    rw [Int32.lt_iff_toInt_lt] at k
    exact k
  · right
    rw [Int32.le_iff_toInt_le, nI_toInt hn] at k
    omega
  · exact absurd e (h j hj)
section
variable {p : Program} {l : Launch} {e : Env} {R : Room} {s : State} {m : MethodId} {args : Array Value} {below : List Frame} {meth : Method} {c : Code} {H : Heap} {locs : List Loc} {cells slots : Nat} {Q : State → Prop} {pc : Nat} {ls : Array Slot} {rest : List Value} {cc : ByteArray}
theorem loopW {σ : Type} (pc0 : Nat) (I : σ → Heap → List Loc → Array Slot → Prop) (stk : σ → List Value) (μ : σ → Nat)
    (body : ∀ (x : σ) (H : Heap) (locs : List Loc) (ls : Array Slot), I x H locs ls → (∀ (x' : σ) (H' : Heap) (locs' : List Loc) (ls' : Array Slot), μ x' < μ x → I x' H' locs' ls' → W p l e R s m args below meth c H' locs' cells slots Q (F0 m pc0 ls' (stk x'))) → W p l e R s m args below meth c H locs cells slots Q (F0 m pc0 ls (stk x)))
    (x0 : σ) (h0 : I x0 H locs ls) : W p l e R s m args below meth c H locs cells slots Q (F0 m pc0 ls (stk x0)) := by
  have key : ∀ (n : Nat) (x : σ) (H : Heap) (locs : List Loc) (ls : Array Slot), μ x < n → I x H locs ls → W p l e R s m args below meth c H locs cells slots Q (F0 m pc0 ls (stk x)) := by
    intro n
    induction n with
    | zero => intro x H locs ls h; exact absurd h (Nat.not_lt_zero _)
    | succ n ih => exact fun x H locs ls h hI => body x H locs ls hI (fun x' H' locs' ls' h' hI' => ih x' H' locs' ls' (by omega) hI')
  exact key _ x0 H locs ls (Nat.lt_succ_self _) h0
theorem joinW {σ : Type} {g : JFrame} (pc0 : Nat) (I : σ → Heap → List Loc → Array Slot → Prop) (stk : σ → List Value)
    (kont : ∀ (x : σ) (H : Heap) (locs : List Loc) (ls : Array Slot), I x H locs ls → W p l e R s m args below meth c H locs cells slots Q (F0 m pc0 ls (stk x)))
    (main : (∀ (x : σ) (H : Heap) (locs : List Loc) (ls : Array Slot), I x H locs ls → W p l e R s m args below meth c H locs cells slots Q (F0 m pc0 ls (stk x))) → W p l e R s m args below meth c H locs cells slots Q g) : W p l e R s m args below meth c H locs cells slots Q g := main kont
end
