/-! THE CLAIM OUT OF ONE WALK OF THE LAW'S BODY. Your part is whole_start (and what it stands on); all else here is the same for every law, but numbers. -/
def R_law : String := "HearsayMarchLaw"
def lw_P (b : Addr) (xs : List Int32) (args : Array Value) (s : State) : Prop := args = #[.ref b] ∧ s.IntsAt b xs ∧ xs.length ≤ 2560 ∧ (Jvm.Cond.and given_1 narrow_1).before args s = true
def lw_Q (_ : Array Value) (s : State) (o : Outcome) (t : State) : Prop := o = .returned (some (.int 1)) ∧ Framed s o t [] 600000 7302250
def lw_Z (below : List Frame) (a : Array Value) (s : State) : State → Prop := fun t => ∃ o, t.status = .running ∧ Ended t below o ∧ lw_Q a s o t
/-- the law's own end, with 1 on the stack, nothing written that was there before, its room as the claim has it -/
theorem lw_ret {p : Program} {l : Launch} {e : Env} {s : State} {m : MethodId} {below : List Frame} {meth : Method} {c : Code} {b : Nat} (hx : p.tables.exec = Jvm.exec) (hb : c.code = code) (hr : meth.sig.returnType = ret) (hlocks : meth.locks = false) {pc : Nat} {H : Heap} {ls : Array Slot} (hdg : decode code pc = .ok (.ireturn, 1)) : W p l e room_1 s m #[Value.ref b] below meth c H [] 600000 7302250 (lw_Z below #[Value.ref b] s) (F0 m pc ls [.int 1]) := by
  intro T hT X
  obtain ⟨fs, hret, hrun, hended, hW, hframe⟩ := X.leave (v := some (.int 1)) (hlocks := hlocks) (fun h => by rw [hr] at h; cases h)
  have hmeth' : T.vm.method? m = some meth := X.method'
  refine ⟨T.setFrames fs, ?_, .returned (some (.int 1)), hrun, hended, rfl, ⟨_, rfl⟩, hW, hframe⟩
  jvm_step X.here [X.here.top, hx, hb, hdg, hmeth', hr, ret, narrow_b1]
  (try refine ⟨rfl, ?_⟩); (try refine ⟨rfl, ?_⟩)
  first | (intro acts; rw [hret _ acts rfl rfl rfl]) | rw [hret _ _ rfl rfl rfl]
  exact Steps.refl _
/-- what holds at the law's entry: the machine, the code, the tables' words (any of lw_tbl by 'hts w (by decide +kernel)'), the script of L ints xs at the cell b, what the Statement gives of the start (any of its parts by flat_of_before) -/
def lw_At (p : Program) (s : State) (m : MethodId) (meth : Method) (c : Code) (b L : Nat) (xs : Nat → Int32) : Prop :=
  p.tables.exec = Jvm.exec ∧ c.code = code ∧ meth.sig.returnType = ret ∧ c.maxLocals = 4 ∧ s.vm.findClass R_law = some m.cls ∧ (∀ w ∈ lw_tbl, w.before #[Value.ref b] s = true) ∧ va_X b L xs s s.heap ∧ b < s.heap.size ∧ meth.locks = false ∧ (Jvm.Cond.and given_1 narrow_1).before #[Value.ref b] s = true
section
variable {p : Program} {l : Launch} {e : Env} {R : Room} {s : State} {m : MethodId} {args : Array Value} {below : List Frame} {meth : Method} {c : Code} {H : Heap} {locs : List Loc} {cells slots : Nat} {Q : State → Prop} {pc : Nat} {ls : Array Slot} {rest : List Value} {cc : ByteArray}
variable {G : va_G} {A : Nat → Prop} {H0 : Heap} {S : Type} {w1 : S → va_W} {Wd wa wb : va_W} {st0 : List Value} {av : Array Value}
theorem free_W (hp : Wd.Perm (wa ++ wb)) (hD : va_D A Wd) (hS : va_S A H0 H locs) (hA : ∀ q, H0.size ≤ q → A q) : ∀ q, va_A wa H.size q → A q := fun q h => by
  rw [va_A_mem] at h
  rcases h with ⟨x, h1, rfl⟩ | h
  · exact (va_D_iff.mp hD).2 x (hp.mem_iff.mpr (List.mem_append_left _ h1))
  · exact hA q (Nat.le_trans hS.1 h)
theorem join_W {H1 : Heap} {wn : va_W} (hp : Wd.Perm (wa ++ wb)) (hP : va_P G vwCl Wd H) (hD : va_D A Wd) (hk : ∀ q : Nat, q < H.size → ¬ va_A wa H.size q → H1[q]? = H[q]?) (hF : ∀ q, va_A wa H.size q → A q) (hP1 : va_P G vwCl wn H1) (hD1 : va_D (va_A wa H.size) wn) : va_P G vwCl (wn ++ wb) H1 ∧ va_D A (wn ++ wb) := by
  have hP' := va_P_mem.mp (va_P_perm hp hP)
  have hD' := va_D_iff.mp (va_D_perm hp hD)
  have hD1' := va_D_iff.mp hD1
  have hlt : ∀ x ∈ wb, x.1 < H.size := fun x h => (hP' x (List.mem_append_right _ h)).lt
  have hnd := hD'.1
  rw [List.map_append, List.nodup_append] at hnd
  have hno : ∀ x ∈ wb, ¬ va_A wa H.size x.1 := fun x h z => by
    rw [va_A_mem] at z
    rcases z with ⟨y, h1, h2⟩ | z
    · exact hnd.2.2 _ (List.mem_map_of_mem h1) _ (List.mem_map_of_mem h) h2
    · have := hlt x h; omega
  refine ⟨va_P_mem.mpr (fun x hx => ?_), va_D_iff.mpr ⟨?_, fun x hx => ?_⟩⟩
  · rcases List.mem_append.mp hx with h | h
    · exact va_P_mem.mp hP1 x h
    · exact (hP' x (List.mem_append_right _ h)).kept (hk x.1 (hlt x h) (hno x h))
  · rw [List.map_append, List.nodup_append]
    refine ⟨hD1'.1, hnd.2.1, fun a h1 b h2 e => ?_⟩
    obtain ⟨x, hx1, rfl⟩ := List.mem_map.mp h1
    obtain ⟨y, hy1, rfl⟩ := List.mem_map.mp h2
    exact hno y hy1 (by rw [← e]; exact hD1'.2 x hx1)
  · rcases List.mem_append.mp hx with h | h
    · exact hF _ (hD1'.2 x h)
    · exact hD'.2 x (List.mem_append_right _ h)
theorem aftW_i {post : Int32 → S → Prop} (hr : va_Run p l e R s m args below meth c H locs cells slots 0 0 (F0 m pc ls st0) rest (va_Qi post (fun u t => va_P G vwCl (w1 u) t.heap ∧ va_D (va_A wa H.size) (w1 u)) (va_A wa H.size) av) (va_A wa H.size))
    (hp : Wd.Perm (wa ++ wb)) (hP : va_P G vwCl Wd H) (hD : va_D A Wd) (hS : va_S A H0 H locs) (hA : ∀ q, H0.size ≤ q → A q)
    (kk : ∀ (r : Int32) (u : S) (H1 : Heap) (locs1 : List Loc), post r u → va_P G vwCl (w1 u ++ wb) H1 → va_D A (w1 u ++ wb) → va_S A H0 H1 locs1 → W p l e R s m args below meth c H1 locs1 cells slots Q (F0 m (pc + 3) ls (.int r :: rest))) :
    W p l e R s m args below meth c H locs cells slots Q (F0 m pc ls st0) := by
  have hF := free_W hp hD hS hA
  refine va_calli hr hS (fun q _ h => hF q h) hF (fun r u t H1 locs1 ht hvm hw hB hz hk hS1 => ?_)
  obtain ⟨hP1, hD1⟩ := hB
  rw [ht] at hP1
  obtain ⟨hP2, hD2⟩ := join_W hp hP hD hk hF hP1 hD1
  exact kk r u H1 locs1 hw hP2 hD2 hS1
theorem aftW_l {post : Int64 → S → Prop} (hr : va_Run p l e R s m args below meth c H locs cells slots 0 0 (F0 m pc ls st0) rest (va_Ql post (fun u t => va_P G vwCl (w1 u) t.heap ∧ va_D (va_A wa H.size) (w1 u)) (va_A wa H.size) av) (va_A wa H.size))
    (hp : Wd.Perm (wa ++ wb)) (hP : va_P G vwCl Wd H) (hD : va_D A Wd) (hS : va_S A H0 H locs) (hA : ∀ q, H0.size ≤ q → A q)
    (kk : ∀ (r : Int64) (u : S) (H1 : Heap) (locs1 : List Loc), post r u → va_P G vwCl (w1 u ++ wb) H1 → va_D A (w1 u ++ wb) → va_S A H0 H1 locs1 → W p l e R s m args below meth c H1 locs1 cells slots Q (F0 m (pc + 3) ls (.long r :: rest))) :
    W p l e R s m args below meth c H locs cells slots Q (F0 m pc ls st0) := by
  have hF := free_W hp hD hS hA
  refine va_calll hr hS (fun q _ h => hF q h) hF (fun r u t H1 locs1 ht hvm hw hB hz hk hS1 => ?_)
  obtain ⟨hP1, hD1⟩ := hB
  rw [ht] at hP1
  obtain ⟨hP2, hD2⟩ := join_W hp hP hD hk hF hP1 hD1
  exact kk r u H1 locs1 hw hP2 hD2 hS1
theorem aftW_v {post : S → Prop} {mc ms : Nat} (hr : va_Run p l e R s m args below meth c H locs cells slots mc ms (F0 m pc ls st0) rest (va_Qv post (fun u t => va_P G vwCl (w1 u) t.heap ∧ va_D (va_A wa H.size) (w1 u)) (va_A wa H.size) av) (va_A wa H.size))
    (hp : Wd.Perm (wa ++ wb)) (hP : va_P G vwCl Wd H) (hD : va_D A Wd) (hS : va_S A H0 H locs) (hA : ∀ q, H0.size ≤ q → A q)
    (kk : ∀ (u : S) (H1 : Heap) (locs1 : List Loc), post u → va_P G vwCl (w1 u ++ wb) H1 → va_D A (w1 u ++ wb) → va_S A H0 H1 locs1 → W p l e R s m args below meth c H1 locs1 (cells + mc) (slots + ms) Q (F0 m (pc + 3) ls rest)) :
    W p l e R s m args below meth c H locs cells slots Q (F0 m pc ls st0) := by
  have hF := free_W hp hD hS hA
  refine va_callv hr hS (fun q _ h => hF q h) hF (fun u t H1 locs1 ht hvm hw hB hz hk hS1 => ?_)
  obtain ⟨hP1, hD1⟩ := hB
  rw [ht] at hP1
  obtain ⟨hP2, hD2⟩ := join_W hp hP hD hk hF hP1 hD1
  exact kk u H1 locs1 hw hP2 hD2 hS1
theorem cut_W (hp : Wd.Perm (wa ++ wb)) (hP : va_P G vwCl Wd H) (hD : va_D A Wd) : va_P G vwCl wa H ∧ va_D (fun _ => True) wa := by
  have hP' := va_P_mem.mp (va_P_perm hp hP)
  have hnd := (va_D_iff.mp (va_D_perm hp hD)).1
  rw [List.map_append, List.nodup_append] at hnd
  exact ⟨va_P_mem.mpr (fun q hq => hP' q (List.mem_append_left _ hq)), va_D_iff.mpr ⟨hnd.1, fun _ _ => trivial⟩⟩
theorem preW {T : List (ClassId × FieldType)} {b ci : Nat} {cq : vw_C} {As : List Value} (hp : Wd.Perm (wa ++ wb)) (hK : KK G T s) (hP : va_P G vwCl Wd H) (hD : va_D A Wd) (he : ∃ fs, wa[0]? = some (b, .inr (ci, fs))) (hc : vwCl[ci]? = some cq) : PreV s H cq.1 b (PW G T (.ref b :: As) wa H.size) As := by
  obtain ⟨hPa, hDa⟩ := cut_W hp hP hD
  obtain ⟨fs, he⟩ := he
  exact ⟨PW_blind, va_recv hK.1 hPa hc he, fun U hU hW => ⟨rfl, by rw [hU], by rw [hU]; exact hPa, hK.warm hW, hDa⟩⟩
theorem preWS {T : List (ClassId × FieldType)} {As : List Value} (hp : Wd.Perm (wa ++ wb)) (hK : KK G T s) (hP : va_P G vwCl Wd H) (hD : va_D A Wd) : PreS s H (PW G T As wa H.size) As := by
  obtain ⟨hPa, hDa⟩ := cut_W hp hP hD
  exact ⟨PW_blind, fun U hU hW => ⟨rfl, by rw [hU], by rw [hU]; exact hPa, hK.warm hW, hDa⟩⟩
theorem sld (hexec : p.tables.exec = Jvm.exec) (hb : c.code = cc) {b L : Nat} {xs : Nat → Int32} (hX : va_X b L xs s H0) (hbl : b < H0.size) (hbA : ¬ A b) (hS : va_S A H0 H locs) {j : Nat} (hj : j < L) (hL : L ≤ 2560) (hdg : decode cc pc = .ok (.iaload, 1))
    (kk : W p l e R s m args below meth c H locs cells slots Q (F0 m (pc + 1) ls (.int (xs j) :: rest))) : W p l e R s m args below meth c H locs cells slots Q (F0 m pc ls (.int (nI j) :: .ref b :: rest)) := by
  refine va_sld hexec hb hX hbl hbA hS (vp_in_nI hj (by omega)) hdg ?_
  rw [nI_clamp (by omega)]
  exact kk
end
theorem xW_head {cI cJ cZ cS : ClassId} {ad ba ka : Nat → Nat → Nat} (z : XS) : ∃ fs, (xW cI cJ cZ cS ad ba ka z)[0]? = some (ad 0 0, .inr (9, fs)) := by
  obtain ⟨tx, ln, stp, wy, wq, ho, dk, dt, dr, ds, kd, tn, rk, sl, v, mi, se, dv, dm, de, fi, ac, bk, bm, bs, fl, kk, km, ks, tr, tq, td, tc, pa, on, wh, en, eo, cm⟩ := z
  exact ⟨_, rfl⟩
theorem mW_head {cI cJ cZ : ClassId} {g : Nat → Nat} (z : MS) : ∃ fs, (mW cI cJ cZ g z)[0]? = some (g 0, .inr (10, fs)) := by
  obtain ⟨ts, pl, rq, sq, rr, rs, aq, uc, sd, sv, yx, ke, rd, te, rt, pg, bo, bt, kp, kt, zz, ur, uq, ud, tw, th, pc, nx, wa, wt⟩ := z
  exact ⟨_, rfl⟩
/-- what stands through the law: the machine, the tables, the script -/
def LC (p : Program) (s : State) (m : MethodId) (meth : Method) (c : Code) (G : va_G) (cI cJ cZ cS : ClassId) (b L : Nat) (xs : Nat → Int32) : Prop :=
  p.tables.exec = Jvm.exec ∧ c.code = code ∧ c.maxLocals = 4 ∧ s.vm.findClass RL = some m.cls ∧ (∀ w ∈ wsL_law, w.before #[Value.ref b] s = true) ∧ KK G (kT cI cJ cZ cS) s ∧ va_X b L xs s s.heap ∧ b < s.heap.size ∧ L ≤ 2560 ∧ meth.sig.returnType = ret ∧ meth.locks = false
/-- at pc, between two calls -/
def LG (p : Program) (l : Launch) (e : Env) (s : State) (m : MethodId) (below : List Frame) (meth : Method) (c : Code) (G : va_G) (cI cJ cZ cS : ClassId) (ad ba ka : Nat → Nat → Nat) (g : Nat → Nat) (b i pc : Nat) : Prop :=
  ∀ (zx : XS) (zm : MS) (H : Heap) (locs : List Loc) (ls : Array Slot), va_P G vwCl (xW cI cJ cZ cS ad ba ka zx ++ mW cI cJ cZ g zm) H → va_D (fun q : Nat => s.heap.size ≤ q) (xW cI cJ cZ cS ad ba ka zx ++ mW cI cJ cZ g zm) → va_S (fun q : Nat => s.heap.size ≤ q) s.heap H locs → Rel zx zm → lv_has ls 4 [(0, .ref b), (1, .ref (ad 0 0)), (2, .ref (g 0)), (3, .int (nI i))] → W p l e room_1 s m #[Value.ref b] below meth c H locs 175 2815 (lw_Z below #[Value.ref b] s) (F0 m pc ls [])
theorem hk13 : Cond.constantLong RL 13 (4294967295) ∈ wsL_law := by decide +kernel
set_option maxHeartbeats 4000000 in
set_option maxRecDepth 100000 in
theorem lc_write {p : Program} {l : Launch} {e : Env} {s : State} {m : MethodId} {below : List Frame} {meth : Method} {c : Code} {G : va_G} {cI cJ cZ cS : ClassId} {ad ba ka : Nat → Nat → Nat} {g : Nat → Nat} {b L i : Nat} {xs : Nat → Int32} (hC : LC p s m meth c G cI cJ cZ cS b L xs) (hi : i + 5 ≤ L) (K : LG p l e s m below meth c G cI cJ cZ cS ad ba ka g b i 894) : LG p l e s m below meth c G cI cJ cZ cS ad ba ka g b i 148 := by
  intro zx zm H locs ls hP hD hS hR hl
  obtain ⟨hx, hb, hml, hown, hts, hK, hX, hbl, hL, -, -⟩ := hC
  have hA : ∀ q : Nat, s.heap.size ≤ q → (fun q : Nat => s.heap.size ≤ q) q := fun _ h => h
  have hbA : ¬ (fun q : Nat => s.heap.size ≤ q) b := Nat.not_le.mpr hbl
  refine lv_aload_n hx hb dL_law_148 rfl (lv_at hl 1 rfl) ?_
  refine lv_aload_n hx hb dL_law_149 rfl (lv_at hl 0 rfl) ?_
  refine lv_iload_n hx hb dL_law_150 rfl (lv_at hl 3 rfl) ?_
  refine lv_iconst (v := nI 1) hx hb dL_law_151 (by decide) ?_
  refine lv_iadd hx hb dL_law_152 ?_
  refine top_i (y := nI (i + 1)) (nI_add _ _) ?_
  refine sld hx hb hX hbl hbA hS (j := i + 1) (by omega) hL dL_law_153 ?_
  refine lv_aload_n hx hb dL_law_154 rfl (lv_at hl 0 rfl) ?_
  refine lv_iload_n hx hb dL_law_155 rfl (lv_at hl 3 rfl) ?_
  refine lv_iconst (v := nI 2) hx hb dL_law_156 (by decide) ?_
  refine lv_iadd hx hb dL_law_157 ?_
  refine top_i (y := nI (i + 2)) (nI_add _ _) ?_
  refine sld hx hb hX hbl hbA hS (j := i + 2) (by omega) hL dL_law_158 ?_
  refine lv_i2l (v := (xs (i + 2)).toInt64) hx hb dL_law_159 rfl ?_
  refine lv_bipush (v := nI 32) hx hb dL_law_160 (by decide) ?_
  refine lv_lshl (v := ((xs (i + 2)).toInt64) <<< ((nI 32).toInt64 &&& 63)) hx hb dL_law_162 rfl ?_
  refine lv_aload_n hx hb dL_law_163 rfl (lv_at hl 0 rfl) ?_
  refine lv_iload_n hx hb dL_law_164 rfl (lv_at hl 3 rfl) ?_
  refine lv_iconst (v := nI 3) hx hb dL_law_165 (by decide) ?_
  refine lv_iadd hx hb dL_law_166 ?_
  refine top_i (y := nI (i + 3)) (nI_add _ _) ?_
  refine sld hx hb hX hbl hbA hS (j := i + 3) (by omega) hL dL_law_167 ?_
  refine lv_i2l (v := (xs (i + 3)).toInt64) hx hb dL_law_168 rfl ?_
  refine lv_ldc2 (v := (4294967295 : Int64)) hx hb hown (hts (.constantLong RL 13 (4294967295)) hk13) dL_law_169 ?_
  refine lv_land hx hb dL_law_172 ?_
  refine lv_lor hx hb dL_law_173 ?_
  refine aftW_i (wa := xW cI cJ cZ cS ad ba ka zx) (wb := mW cI cJ cZ g zm) (va_runV (As := [.int (xs (i + 1)), .long ((((xs (i + 2)).toInt64) <<< ((nI 32).toInt64 &&& 63)) ||| (((xs (i + 3)).toInt64) &&& (4294967295 : Int64)))]) (rest := []) ⟨hx, hb, hml, hown, hts⟩ (x_write ad ba ka zx zm (xs (i + 1)) ((((xs (i + 2)).toInt64) <<< ((nI 32).toInt64 &&& 63)) ||| (((xs (i + 3)).toInt64) &&& (4294967295 : Int64))) hR _) (cwV 2 hts gL_law_X9_write rfl rfl rfl (by decide +kernel) ⟨Nat.le_of_ble_eq_true rfl, Nat.le_of_ble_eq_true rfl⟩) (preW (cq := (RX9, TX9, 11)) (ci := 9) (List.Perm.refl _) hK hP hD (xW_head zx) rfl) rfl rfl hl.1 rfl (lv_room (Nat.le_of_ble_eq_true rfl)) dL_law_174 ⟨Nat.le_of_ble_eq_true rfl, Nat.le_of_ble_eq_true rfl⟩) (List.Perm.refl _) hP hD hS hA (fun r1 x1 H locs hw1 hP hD hS => ?_)
  have hw1 : xP_write (xs (i + 1)) ((((xs (i + 2)).toInt64) <<< ((nI 32).toInt64 &&& 63)) ||| (((xs (i + 3)).toInt64) &&& (4294967295 : Int64))) zx x1 r1 := hw1
  refine lv_aload_n hx hb dL_law_177 rfl (lv_at hl 2 rfl) ?_
  refine lv_aload_n hx hb dL_law_178 rfl (lv_at hl 0 rfl) ?_
  refine lv_iload_n hx hb dL_law_179 rfl (lv_at hl 3 rfl) ?_
  refine lv_iconst (v := nI 1) hx hb dL_law_180 (by decide) ?_
  refine lv_iadd hx hb dL_law_181 ?_
  refine top_i (y := nI (i + 1)) (nI_add _ _) ?_
  refine sld hx hb hX hbl hbA hS (j := i + 1) (by omega) hL dL_law_182 ?_
  refine lv_aload_n hx hb dL_law_183 rfl (lv_at hl 0 rfl) ?_
  refine lv_iload_n hx hb dL_law_184 rfl (lv_at hl 3 rfl) ?_
  refine lv_iconst (v := nI 2) hx hb dL_law_185 (by decide) ?_
  refine lv_iadd hx hb dL_law_186 ?_
  refine top_i (y := nI (i + 2)) (nI_add _ _) ?_
  refine sld hx hb hX hbl hbA hS (j := i + 2) (by omega) hL dL_law_187 ?_
  refine lv_i2l (v := (xs (i + 2)).toInt64) hx hb dL_law_188 rfl ?_
  refine lv_bipush (v := nI 32) hx hb dL_law_189 (by decide) ?_
  refine lv_lshl (v := ((xs (i + 2)).toInt64) <<< ((nI 32).toInt64 &&& 63)) hx hb dL_law_191 rfl ?_
  refine lv_aload_n hx hb dL_law_192 rfl (lv_at hl 0 rfl) ?_
  refine lv_iload_n hx hb dL_law_193 rfl (lv_at hl 3 rfl) ?_
  refine lv_iconst (v := nI 3) hx hb dL_law_194 (by decide) ?_
  refine lv_iadd hx hb dL_law_195 ?_
  refine top_i (y := nI (i + 3)) (nI_add _ _) ?_
  refine sld hx hb hX hbl hbA hS (j := i + 3) (by omega) hL dL_law_196 ?_
  refine lv_i2l (v := (xs (i + 3)).toInt64) hx hb dL_law_197 rfl ?_
  refine lv_ldc2 (v := (4294967295 : Int64)) hx hb hown (hts (.constantLong RL 13 (4294967295)) hk13) dL_law_198 ?_
  refine lv_land hx hb dL_law_201 ?_
  refine lv_lor hx hb dL_law_202 ?_
  refine aftW_i (wa := mW cI cJ cZ g zm) (wb := xW cI cJ cZ cS ad ba ka x1) (va_runV (As := [.int (xs (i + 1)), .long ((((xs (i + 2)).toInt64) <<< ((nI 32).toInt64 &&& 63)) ||| (((xs (i + 3)).toInt64) &&& (4294967295 : Int64)))]) (rest := [.int r1]) ⟨hx, hb, hml, hown, hts⟩ (m_write g zx zm (xs (i + 1)) ((((xs (i + 2)).toInt64) <<< ((nI 32).toInt64 &&& 63)) ||| (((xs (i + 3)).toInt64) &&& (4294967295 : Int64))) hR _) (cwV 2 hts gL_law_X10_write rfl rfl rfl (by decide +kernel) ⟨Nat.le_of_ble_eq_true rfl, Nat.le_of_ble_eq_true rfl⟩) (preW (cq := (RX10, TX10, 31)) (ci := 10) List.perm_append_comm hK hP hD (mW_head zm) rfl) rfl rfl hl.1 rfl (lv_room (Nat.le_of_ble_eq_true rfl)) dL_law_203 ⟨Nat.le_of_ble_eq_true rfl, Nat.le_of_ble_eq_true rfl⟩) List.perm_append_comm hP hD hS hA (fun r2 m1 H locs hw2 hP hD hS => ?_)
  have hw2 : mP_write (xs (i + 1)) ((((xs (i + 2)).toInt64) <<< ((nI 32).toInt64 &&& 63)) ||| (((xs (i + 3)).toInt64) &&& (4294967295 : Int64))) zm m1 r2 := hw2
  have hst := st_write hR hw1 hw2
  refine lv_icmp_eq (tgt := 894) hx hb dL_law_206 (by decide) (fun _ => ?_) (fun c9 => absurd hst.1 c9)
  exact K x1 m1 H locs ls (va_P_perm List.perm_append_comm hP) (va_D_perm List.perm_append_comm hD) hS hst.2 hl
set_option maxHeartbeats 4000000 in
set_option maxRecDepth 100000 in
theorem lc_wipe {p : Program} {l : Launch} {e : Env} {s : State} {m : MethodId} {below : List Frame} {meth : Method} {c : Code} {G : va_G} {cI cJ cZ cS : ClassId} {ad ba ka : Nat → Nat → Nat} {g : Nat → Nat} {b L i : Nat} {xs : Nat → Int32} (hC : LC p s m meth c G cI cJ cZ cS b L xs) (hi : i + 5 ≤ L) (K : LG p l e s m below meth c G cI cJ cZ cS ad ba ka g b i 894) : LG p l e s m below meth c G cI cJ cZ cS ad ba ka g b i 211 := by
  intro zx zm H locs ls hP hD hS hR hl
  obtain ⟨hx, hb, hml, hown, hts, hK, hX, hbl, hL, -, -⟩ := hC
  have hA : ∀ q : Nat, s.heap.size ≤ q → (fun q : Nat => s.heap.size ≤ q) q := fun _ h => h
  have hbA : ¬ (fun q : Nat => s.heap.size ≤ q) b := Nat.not_le.mpr hbl
  refine lv_aload_n hx hb dL_law_211 rfl (lv_at hl 1 rfl) ?_
  refine aftW_i (wa := xW cI cJ cZ cS ad ba ka zx) (wb := mW cI cJ cZ g zm) (va_runV (As := []) (rest := []) ⟨hx, hb, hml, hown, hts⟩ (x_wipe ad ba ka zx zm  hR _) (cwV 0 hts gL_law_X9_wipe rfl rfl rfl (by decide +kernel) ⟨Nat.le_of_ble_eq_true rfl, Nat.le_of_ble_eq_true rfl⟩) (preW (cq := (RX9, TX9, 11)) (ci := 9) (List.Perm.refl _) hK hP hD (xW_head zx) rfl) rfl rfl hl.1 rfl (lv_room (Nat.le_of_ble_eq_true rfl)) dL_law_212 ⟨Nat.le_of_ble_eq_true rfl, Nat.le_of_ble_eq_true rfl⟩) (List.Perm.refl _) hP hD hS hA (fun r1 x1 H locs hw1 hP hD hS => ?_)
  have hw1 : xP_wipe  zx x1 r1 := hw1
  refine lv_aload_n hx hb dL_law_215 rfl (lv_at hl 2 rfl) ?_
  refine aftW_i (wa := mW cI cJ cZ g zm) (wb := xW cI cJ cZ cS ad ba ka x1) (va_runV (As := []) (rest := [.int r1]) ⟨hx, hb, hml, hown, hts⟩ (m_wipe g zx zm  hR _) (cwV 0 hts gL_law_X10_wipe rfl rfl rfl (by decide +kernel) ⟨Nat.le_of_ble_eq_true rfl, Nat.le_of_ble_eq_true rfl⟩) (preW (cq := (RX10, TX10, 31)) (ci := 10) List.perm_append_comm hK hP hD (mW_head zm) rfl) rfl rfl hl.1 rfl (lv_room (Nat.le_of_ble_eq_true rfl)) dL_law_216 ⟨Nat.le_of_ble_eq_true rfl, Nat.le_of_ble_eq_true rfl⟩) List.perm_append_comm hP hD hS hA (fun r2 m1 H locs hw2 hP hD hS => ?_)
  have hw2 : mP_wipe  zm m1 r2 := hw2
  have hst := st_wipe hR hw1 hw2
  refine lv_icmp_eq (tgt := 894) hx hb dL_law_219 (by decide) (fun _ => ?_) (fun c9 => absurd hst.1 c9)
  exact K x1 m1 H locs ls (va_P_perm List.perm_append_comm hP) (va_D_perm List.perm_append_comm hD) hS hst.2 hl
set_option maxHeartbeats 4000000 in
set_option maxRecDepth 100000 in
theorem lc_fault {p : Program} {l : Launch} {e : Env} {s : State} {m : MethodId} {below : List Frame} {meth : Method} {c : Code} {G : va_G} {cI cJ cZ cS : ClassId} {ad ba ka : Nat → Nat → Nat} {g : Nat → Nat} {b L i : Nat} {xs : Nat → Int32} (hC : LC p s m meth c G cI cJ cZ cS b L xs) (hi : i + 5 ≤ L) (K : LG p l e s m below meth c G cI cJ cZ cS ad ba ka g b i 894) : LG p l e s m below meth c G cI cJ cZ cS ad ba ka g b i 224 := by
  intro zx zm H locs ls hP hD hS hR hl
  obtain ⟨hx, hb, hml, hown, hts, hK, hX, hbl, hL, -, -⟩ := hC
  have hA : ∀ q : Nat, s.heap.size ≤ q → (fun q : Nat => s.heap.size ≤ q) q := fun _ h => h
  have hbA : ¬ (fun q : Nat => s.heap.size ≤ q) b := Nat.not_le.mpr hbl
  refine lv_aload_n hx hb dL_law_224 rfl (lv_at hl 1 rfl) ?_
  refine aftW_i (wa := xW cI cJ cZ cS ad ba ka zx) (wb := mW cI cJ cZ g zm) (va_runV (As := []) (rest := []) ⟨hx, hb, hml, hown, hts⟩ (x_fault ad ba ka zx zm  hR _) (cwV 0 hts gL_law_X9_fault rfl rfl rfl (by decide +kernel) ⟨Nat.le_of_ble_eq_true rfl, Nat.le_of_ble_eq_true rfl⟩) (preW (cq := (RX9, TX9, 11)) (ci := 9) (List.Perm.refl _) hK hP hD (xW_head zx) rfl) rfl rfl hl.1 rfl (lv_room (Nat.le_of_ble_eq_true rfl)) dL_law_225 ⟨Nat.le_of_ble_eq_true rfl, Nat.le_of_ble_eq_true rfl⟩) (List.Perm.refl _) hP hD hS hA (fun r1 x1 H locs hw1 hP hD hS => ?_)
  have hw1 : xP_fault  zx x1 r1 := hw1
  refine lv_aload_n hx hb dL_law_228 rfl (lv_at hl 2 rfl) ?_
  refine aftW_i (wa := mW cI cJ cZ g zm) (wb := xW cI cJ cZ cS ad ba ka x1) (va_runV (As := []) (rest := [.int r1]) ⟨hx, hb, hml, hown, hts⟩ (m_fault g zx zm  hR _) (cwV 0 hts gL_law_X10_fault rfl rfl rfl (by decide +kernel) ⟨Nat.le_of_ble_eq_true rfl, Nat.le_of_ble_eq_true rfl⟩) (preW (cq := (RX10, TX10, 31)) (ci := 10) List.perm_append_comm hK hP hD (mW_head zm) rfl) rfl rfl hl.1 rfl (lv_room (Nat.le_of_ble_eq_true rfl)) dL_law_229 ⟨Nat.le_of_ble_eq_true rfl, Nat.le_of_ble_eq_true rfl⟩) List.perm_append_comm hP hD hS hA (fun r2 m1 H locs hw2 hP hD hS => ?_)
  have hw2 : mP_fault  zm m1 r2 := hw2
  have hst := st_fault hR hw1 hw2
  refine lv_icmp_eq (tgt := 894) hx hb dL_law_232 (by decide) (fun _ => ?_) (fun c9 => absurd hst.1 c9)
  exact K x1 m1 H locs ls (va_P_perm List.perm_append_comm hP) (va_D_perm List.perm_append_comm hD) hS hst.2 hl
set_option maxHeartbeats 4000000 in
set_option maxRecDepth 100000 in
theorem lc_army {p : Program} {l : Launch} {e : Env} {s : State} {m : MethodId} {below : List Frame} {meth : Method} {c : Code} {G : va_G} {cI cJ cZ cS : ClassId} {ad ba ka : Nat → Nat → Nat} {g : Nat → Nat} {b L i : Nat} {xs : Nat → Int32} (hC : LC p s m meth c G cI cJ cZ cS b L xs) (hi : i + 5 ≤ L) (K : LG p l e s m below meth c G cI cJ cZ cS ad ba ka g b i 894) : LG p l e s m below meth c G cI cJ cZ cS ad ba ka g b i 237 := by
  intro zx zm H locs ls hP hD hS hR hl
  obtain ⟨hx, hb, hml, hown, hts, hK, hX, hbl, hL, -, -⟩ := hC
  have hA : ∀ q : Nat, s.heap.size ≤ q → (fun q : Nat => s.heap.size ≤ q) q := fun _ h => h
  have hbA : ¬ (fun q : Nat => s.heap.size ≤ q) b := Nat.not_le.mpr hbl
  refine lv_aload_n hx hb dL_law_237 rfl (lv_at hl 1 rfl) ?_
  refine aftW_i (wa := xW cI cJ cZ cS ad ba ka zx) (wb := mW cI cJ cZ g zm) (va_runV (As := []) (rest := []) ⟨hx, hb, hml, hown, hts⟩ (x_army ad ba ka zx zm  hR _) (cwV 0 hts gL_law_X9_army rfl rfl rfl (by decide +kernel) ⟨Nat.le_of_ble_eq_true rfl, Nat.le_of_ble_eq_true rfl⟩) (preW (cq := (RX9, TX9, 11)) (ci := 9) (List.Perm.refl _) hK hP hD (xW_head zx) rfl) rfl rfl hl.1 rfl (lv_room (Nat.le_of_ble_eq_true rfl)) dL_law_238 ⟨Nat.le_of_ble_eq_true rfl, Nat.le_of_ble_eq_true rfl⟩) (List.Perm.refl _) hP hD hS hA (fun r1 x1 H locs hw1 hP hD hS => ?_)
  have hw1 : xP_army  zx x1 r1 := hw1
  refine lv_aload_n hx hb dL_law_241 rfl (lv_at hl 2 rfl) ?_
  refine aftW_i (wa := mW cI cJ cZ g zm) (wb := xW cI cJ cZ cS ad ba ka x1) (va_runV (As := []) (rest := [.int r1]) ⟨hx, hb, hml, hown, hts⟩ (m_army g zx zm  hR _) (cwV 0 hts gL_law_X10_army rfl rfl rfl (by decide +kernel) ⟨Nat.le_of_ble_eq_true rfl, Nat.le_of_ble_eq_true rfl⟩) (preW (cq := (RX10, TX10, 31)) (ci := 10) List.perm_append_comm hK hP hD (mW_head zm) rfl) rfl rfl hl.1 rfl (lv_room (Nat.le_of_ble_eq_true rfl)) dL_law_242 ⟨Nat.le_of_ble_eq_true rfl, Nat.le_of_ble_eq_true rfl⟩) List.perm_append_comm hP hD hS hA (fun r2 m1 H locs hw2 hP hD hS => ?_)
  have hw2 : mP_army  zm m1 r2 := hw2
  have hst := st_army hR hw1 hw2
  refine lv_icmp_eq (tgt := 894) hx hb dL_law_245 (by decide) (fun _ => ?_) (fun c9 => absurd hst.1 c9)
  exact K x1 m1 H locs ls (va_P_perm List.perm_append_comm hP) (va_D_perm List.perm_append_comm hD) hS hst.2 hl
set_option maxHeartbeats 4000000 in
set_option maxRecDepth 100000 in
theorem lc_about {p : Program} {l : Launch} {e : Env} {s : State} {m : MethodId} {below : List Frame} {meth : Method} {c : Code} {G : va_G} {cI cJ cZ cS : ClassId} {ad ba ka : Nat → Nat → Nat} {g : Nat → Nat} {b L i : Nat} {xs : Nat → Int32} (hC : LC p s m meth c G cI cJ cZ cS b L xs) (hi : i + 5 ≤ L) (K : LG p l e s m below meth c G cI cJ cZ cS ad ba ka g b i 894) : LG p l e s m below meth c G cI cJ cZ cS ad ba ka g b i 250 := by
  intro zx zm H locs ls hP hD hS hR hl
  obtain ⟨hx, hb, hml, hown, hts, hK, hX, hbl, hL, -, -⟩ := hC
  have hA : ∀ q : Nat, s.heap.size ≤ q → (fun q : Nat => s.heap.size ≤ q) q := fun _ h => h
  have hbA : ¬ (fun q : Nat => s.heap.size ≤ q) b := Nat.not_le.mpr hbl
  refine lv_aload_n hx hb dL_law_250 rfl (lv_at hl 1 rfl) ?_
  refine lv_aload_n hx hb dL_law_251 rfl (lv_at hl 0 rfl) ?_
  refine lv_iload_n hx hb dL_law_252 rfl (lv_at hl 3 rfl) ?_
  refine lv_iconst (v := nI 1) hx hb dL_law_253 (by decide) ?_
  refine lv_iadd hx hb dL_law_254 ?_
  refine top_i (y := nI (i + 1)) (nI_add _ _) ?_
  refine sld hx hb hX hbl hbA hS (j := i + 1) (by omega) hL dL_law_255 ?_
  refine aftW_i (wa := xW cI cJ cZ cS ad ba ka zx) (wb := mW cI cJ cZ g zm) (va_runV (As := [.int (xs (i + 1))]) (rest := []) ⟨hx, hb, hml, hown, hts⟩ (x_about ad ba ka zx zm (xs (i + 1)) hR _) (cwV 1 hts gL_law_X9_about rfl rfl rfl (by decide +kernel) ⟨Nat.le_of_ble_eq_true rfl, Nat.le_of_ble_eq_true rfl⟩) (preW (cq := (RX9, TX9, 11)) (ci := 9) (List.Perm.refl _) hK hP hD (xW_head zx) rfl) rfl rfl hl.1 rfl (lv_room (Nat.le_of_ble_eq_true rfl)) dL_law_256 ⟨Nat.le_of_ble_eq_true rfl, Nat.le_of_ble_eq_true rfl⟩) (List.Perm.refl _) hP hD hS hA (fun r1 x1 H locs hw1 hP hD hS => ?_)
  have hw1 : xP_about (xs (i + 1)) zx x1 r1 := hw1
  refine lv_aload_n hx hb dL_law_259 rfl (lv_at hl 2 rfl) ?_
  refine lv_aload_n hx hb dL_law_260 rfl (lv_at hl 0 rfl) ?_
  refine lv_iload_n hx hb dL_law_261 rfl (lv_at hl 3 rfl) ?_
  refine lv_iconst (v := nI 1) hx hb dL_law_262 (by decide) ?_
  refine lv_iadd hx hb dL_law_263 ?_
  refine top_i (y := nI (i + 1)) (nI_add _ _) ?_
  refine sld hx hb hX hbl hbA hS (j := i + 1) (by omega) hL dL_law_264 ?_
  refine aftW_i (wa := mW cI cJ cZ g zm) (wb := xW cI cJ cZ cS ad ba ka x1) (va_runV (As := [.int (xs (i + 1))]) (rest := [.int r1]) ⟨hx, hb, hml, hown, hts⟩ (m_about g zx zm (xs (i + 1)) hR _) (cwV 1 hts gL_law_X10_about rfl rfl rfl (by decide +kernel) ⟨Nat.le_of_ble_eq_true rfl, Nat.le_of_ble_eq_true rfl⟩) (preW (cq := (RX10, TX10, 31)) (ci := 10) List.perm_append_comm hK hP hD (mW_head zm) rfl) rfl rfl hl.1 rfl (lv_room (Nat.le_of_ble_eq_true rfl)) dL_law_265 ⟨Nat.le_of_ble_eq_true rfl, Nat.le_of_ble_eq_true rfl⟩) List.perm_append_comm hP hD hS hA (fun r2 m1 H locs hw2 hP hD hS => ?_)
  have hw2 : mP_about (xs (i + 1)) zm m1 r2 := hw2
  have hst := st_about hR hw1 hw2
  refine lv_icmp_eq (tgt := 894) hx hb dL_law_268 (by decide) (fun _ => ?_) (fun c9 => absurd hst.1 c9)
  exact K x1 m1 H locs ls (va_P_perm List.perm_append_comm hP) (va_D_perm List.perm_append_comm hD) hS hst.2 hl
set_option maxHeartbeats 4000000 in
set_option maxRecDepth 100000 in
theorem lc_rank {p : Program} {l : Launch} {e : Env} {s : State} {m : MethodId} {below : List Frame} {meth : Method} {c : Code} {G : va_G} {cI cJ cZ cS : ClassId} {ad ba ka : Nat → Nat → Nat} {g : Nat → Nat} {b L i : Nat} {xs : Nat → Int32} (hC : LC p s m meth c G cI cJ cZ cS b L xs) (hi : i + 5 ≤ L) (K : LG p l e s m below meth c G cI cJ cZ cS ad ba ka g b i 894) : LG p l e s m below meth c G cI cJ cZ cS ad ba ka g b i 273 := by
  intro zx zm H locs ls hP hD hS hR hl
  obtain ⟨hx, hb, hml, hown, hts, hK, hX, hbl, hL, -, -⟩ := hC
  have hA : ∀ q : Nat, s.heap.size ≤ q → (fun q : Nat => s.heap.size ≤ q) q := fun _ h => h
  have hbA : ¬ (fun q : Nat => s.heap.size ≤ q) b := Nat.not_le.mpr hbl
  refine lv_aload_n hx hb dL_law_273 rfl (lv_at hl 1 rfl) ?_
  refine lv_aload_n hx hb dL_law_274 rfl (lv_at hl 0 rfl) ?_
  refine lv_iload_n hx hb dL_law_275 rfl (lv_at hl 3 rfl) ?_
  refine lv_iconst (v := nI 1) hx hb dL_law_276 (by decide) ?_
  refine lv_iadd hx hb dL_law_277 ?_
  refine top_i (y := nI (i + 1)) (nI_add _ _) ?_
  refine sld hx hb hX hbl hbA hS (j := i + 1) (by omega) hL dL_law_278 ?_
  refine lv_aload_n hx hb dL_law_279 rfl (lv_at hl 0 rfl) ?_
  refine lv_iload_n hx hb dL_law_280 rfl (lv_at hl 3 rfl) ?_
  refine lv_iconst (v := nI 2) hx hb dL_law_281 (by decide) ?_
  refine lv_iadd hx hb dL_law_282 ?_
  refine top_i (y := nI (i + 2)) (nI_add _ _) ?_
  refine sld hx hb hX hbl hbA hS (j := i + 2) (by omega) hL dL_law_283 ?_
  refine aftW_i (wa := xW cI cJ cZ cS ad ba ka zx) (wb := mW cI cJ cZ g zm) (va_runV (As := [.int (xs (i + 1)), .int (xs (i + 2))]) (rest := []) ⟨hx, hb, hml, hown, hts⟩ (x_rank ad ba ka zx zm (xs (i + 1)) (xs (i + 2)) hR _) (cwV 2 hts gL_law_X9_rank rfl rfl rfl (by decide +kernel) ⟨Nat.le_of_ble_eq_true rfl, Nat.le_of_ble_eq_true rfl⟩) (preW (cq := (RX9, TX9, 11)) (ci := 9) (List.Perm.refl _) hK hP hD (xW_head zx) rfl) rfl rfl hl.1 rfl (lv_room (Nat.le_of_ble_eq_true rfl)) dL_law_284 ⟨Nat.le_of_ble_eq_true rfl, Nat.le_of_ble_eq_true rfl⟩) (List.Perm.refl _) hP hD hS hA (fun r1 x1 H locs hw1 hP hD hS => ?_)
  have hw1 : xP_rank (xs (i + 1)) (xs (i + 2)) zx x1 r1 := hw1
  refine lv_aload_n hx hb dL_law_287 rfl (lv_at hl 2 rfl) ?_
  refine lv_aload_n hx hb dL_law_288 rfl (lv_at hl 0 rfl) ?_
  refine lv_iload_n hx hb dL_law_289 rfl (lv_at hl 3 rfl) ?_
  refine lv_iconst (v := nI 1) hx hb dL_law_290 (by decide) ?_
  refine lv_iadd hx hb dL_law_291 ?_
  refine top_i (y := nI (i + 1)) (nI_add _ _) ?_
  refine sld hx hb hX hbl hbA hS (j := i + 1) (by omega) hL dL_law_292 ?_
  refine lv_aload_n hx hb dL_law_293 rfl (lv_at hl 0 rfl) ?_
  refine lv_iload_n hx hb dL_law_294 rfl (lv_at hl 3 rfl) ?_
  refine lv_iconst (v := nI 2) hx hb dL_law_295 (by decide) ?_
  refine lv_iadd hx hb dL_law_296 ?_
  refine top_i (y := nI (i + 2)) (nI_add _ _) ?_
  refine sld hx hb hX hbl hbA hS (j := i + 2) (by omega) hL dL_law_297 ?_
  refine aftW_i (wa := mW cI cJ cZ g zm) (wb := xW cI cJ cZ cS ad ba ka x1) (va_runV (As := [.int (xs (i + 1)), .int (xs (i + 2))]) (rest := [.int r1]) ⟨hx, hb, hml, hown, hts⟩ (m_rank g zx zm (xs (i + 1)) (xs (i + 2)) hR _) (cwV 2 hts gL_law_X10_rank rfl rfl rfl (by decide +kernel) ⟨Nat.le_of_ble_eq_true rfl, Nat.le_of_ble_eq_true rfl⟩) (preW (cq := (RX10, TX10, 31)) (ci := 10) List.perm_append_comm hK hP hD (mW_head zm) rfl) rfl rfl hl.1 rfl (lv_room (Nat.le_of_ble_eq_true rfl)) dL_law_298 ⟨Nat.le_of_ble_eq_true rfl, Nat.le_of_ble_eq_true rfl⟩) List.perm_append_comm hP hD hS hA (fun r2 m1 H locs hw2 hP hD hS => ?_)
  have hw2 : mP_rank (xs (i + 1)) (xs (i + 2)) zm m1 r2 := hw2
  have hst := st_rank hR hw1 hw2
  refine lv_icmp_eq (tgt := 894) hx hb dL_law_301 (by decide) (fun _ => ?_) (fun c9 => absurd hst.1 c9)
  exact K x1 m1 H locs ls (va_P_perm List.perm_append_comm hP) (va_D_perm List.perm_append_comm hD) hS hst.2 hl
set_option maxHeartbeats 4000000 in
set_option maxRecDepth 100000 in
theorem lc_slip {p : Program} {l : Launch} {e : Env} {s : State} {m : MethodId} {below : List Frame} {meth : Method} {c : Code} {G : va_G} {cI cJ cZ cS : ClassId} {ad ba ka : Nat → Nat → Nat} {g : Nat → Nat} {b L i : Nat} {xs : Nat → Int32} (hC : LC p s m meth c G cI cJ cZ cS b L xs) (hi : i + 5 ≤ L) (K : LG p l e s m below meth c G cI cJ cZ cS ad ba ka g b i 894) : LG p l e s m below meth c G cI cJ cZ cS ad ba ka g b i 306 := by
  intro zx zm H locs ls hP hD hS hR hl
  obtain ⟨hx, hb, hml, hown, hts, hK, hX, hbl, hL, -, -⟩ := hC
  have hA : ∀ q : Nat, s.heap.size ≤ q → (fun q : Nat => s.heap.size ≤ q) q := fun _ h => h
  have hbA : ¬ (fun q : Nat => s.heap.size ≤ q) b := Nat.not_le.mpr hbl
  refine lv_aload_n hx hb dL_law_306 rfl (lv_at hl 1 rfl) ?_
  refine lv_aload_n hx hb dL_law_307 rfl (lv_at hl 0 rfl) ?_
  refine lv_iload_n hx hb dL_law_308 rfl (lv_at hl 3 rfl) ?_
  refine lv_iconst (v := nI 1) hx hb dL_law_309 (by decide) ?_
  refine lv_iadd hx hb dL_law_310 ?_
  refine top_i (y := nI (i + 1)) (nI_add _ _) ?_
  refine sld hx hb hX hbl hbA hS (j := i + 1) (by omega) hL dL_law_311 ?_
  refine lv_aload_n hx hb dL_law_312 rfl (lv_at hl 0 rfl) ?_
  refine lv_iload_n hx hb dL_law_313 rfl (lv_at hl 3 rfl) ?_
  refine lv_iconst (v := nI 2) hx hb dL_law_314 (by decide) ?_
  refine lv_iadd hx hb dL_law_315 ?_
  refine top_i (y := nI (i + 2)) (nI_add _ _) ?_
  refine sld hx hb hX hbl hbA hS (j := i + 2) (by omega) hL dL_law_316 ?_
  refine lv_aload_n hx hb dL_law_317 rfl (lv_at hl 0 rfl) ?_
  refine lv_iload_n hx hb dL_law_318 rfl (lv_at hl 3 rfl) ?_
  refine lv_iconst (v := nI 3) hx hb dL_law_319 (by decide) ?_
  refine lv_iadd hx hb dL_law_320 ?_
  refine top_i (y := nI (i + 3)) (nI_add _ _) ?_
  refine sld hx hb hX hbl hbA hS (j := i + 3) (by omega) hL dL_law_321 ?_
  refine aftW_i (wa := xW cI cJ cZ cS ad ba ka zx) (wb := mW cI cJ cZ g zm) (va_runV (As := [.int (xs (i + 1)), .int (xs (i + 2)), .int (xs (i + 3))]) (rest := []) ⟨hx, hb, hml, hown, hts⟩ (x_slip ad ba ka zx zm (xs (i + 1)) (xs (i + 2)) (xs (i + 3)) hR _) (cwV 3 hts gL_law_X9_slip rfl rfl rfl (by decide +kernel) ⟨Nat.le_of_ble_eq_true rfl, Nat.le_of_ble_eq_true rfl⟩) (preW (cq := (RX9, TX9, 11)) (ci := 9) (List.Perm.refl _) hK hP hD (xW_head zx) rfl) rfl rfl hl.1 rfl (lv_room (Nat.le_of_ble_eq_true rfl)) dL_law_322 ⟨Nat.le_of_ble_eq_true rfl, Nat.le_of_ble_eq_true rfl⟩) (List.Perm.refl _) hP hD hS hA (fun r1 x1 H locs hw1 hP hD hS => ?_)
  have hw1 : xP_slip (xs (i + 1)) (xs (i + 2)) (xs (i + 3)) zx x1 r1 := hw1
  refine lv_aload_n hx hb dL_law_325 rfl (lv_at hl 2 rfl) ?_
  refine lv_aload_n hx hb dL_law_326 rfl (lv_at hl 0 rfl) ?_
  refine lv_iload_n hx hb dL_law_327 rfl (lv_at hl 3 rfl) ?_
  refine lv_iconst (v := nI 1) hx hb dL_law_328 (by decide) ?_
  refine lv_iadd hx hb dL_law_329 ?_
  refine top_i (y := nI (i + 1)) (nI_add _ _) ?_
  refine sld hx hb hX hbl hbA hS (j := i + 1) (by omega) hL dL_law_330 ?_
  refine lv_aload_n hx hb dL_law_331 rfl (lv_at hl 0 rfl) ?_
  refine lv_iload_n hx hb dL_law_332 rfl (lv_at hl 3 rfl) ?_
  refine lv_iconst (v := nI 2) hx hb dL_law_333 (by decide) ?_
  refine lv_iadd hx hb dL_law_334 ?_
  refine top_i (y := nI (i + 2)) (nI_add _ _) ?_
  refine sld hx hb hX hbl hbA hS (j := i + 2) (by omega) hL dL_law_335 ?_
  refine lv_aload_n hx hb dL_law_336 rfl (lv_at hl 0 rfl) ?_
  refine lv_iload_n hx hb dL_law_337 rfl (lv_at hl 3 rfl) ?_
  refine lv_iconst (v := nI 3) hx hb dL_law_338 (by decide) ?_
  refine lv_iadd hx hb dL_law_339 ?_
  refine top_i (y := nI (i + 3)) (nI_add _ _) ?_
  refine sld hx hb hX hbl hbA hS (j := i + 3) (by omega) hL dL_law_340 ?_
  refine aftW_i (wa := mW cI cJ cZ g zm) (wb := xW cI cJ cZ cS ad ba ka x1) (va_runV (As := [.int (xs (i + 1)), .int (xs (i + 2)), .int (xs (i + 3))]) (rest := [.int r1]) ⟨hx, hb, hml, hown, hts⟩ (m_slip g zx zm (xs (i + 1)) (xs (i + 2)) (xs (i + 3)) hR _) (cwV 3 hts gL_law_X10_slip rfl rfl rfl (by decide +kernel) ⟨Nat.le_of_ble_eq_true rfl, Nat.le_of_ble_eq_true rfl⟩) (preW (cq := (RX10, TX10, 31)) (ci := 10) List.perm_append_comm hK hP hD (mW_head zm) rfl) rfl rfl hl.1 rfl (lv_room (Nat.le_of_ble_eq_true rfl)) dL_law_341 ⟨Nat.le_of_ble_eq_true rfl, Nat.le_of_ble_eq_true rfl⟩) List.perm_append_comm hP hD hS hA (fun r2 m1 H locs hw2 hP hD hS => ?_)
  have hw2 : mP_slip (xs (i + 1)) (xs (i + 2)) (xs (i + 3)) zm m1 r2 := hw2
  have hst := st_slip hR hw1 hw2
  refine lv_icmp_eq (tgt := 894) hx hb dL_law_344 (by decide) (fun _ => ?_) (fun c9 => absurd hst.1 c9)
  exact K x1 m1 H locs ls (va_P_perm List.perm_append_comm hP) (va_D_perm List.perm_append_comm hD) hS hst.2 hl
set_option maxHeartbeats 4000000 in
set_option maxRecDepth 100000 in
theorem lc_seed {p : Program} {l : Launch} {e : Env} {s : State} {m : MethodId} {below : List Frame} {meth : Method} {c : Code} {G : va_G} {cI cJ cZ cS : ClassId} {ad ba ka : Nat → Nat → Nat} {g : Nat → Nat} {b L i : Nat} {xs : Nat → Int32} (hC : LC p s m meth c G cI cJ cZ cS b L xs) (hi : i + 5 ≤ L) (K : LG p l e s m below meth c G cI cJ cZ cS ad ba ka g b i 894) : LG p l e s m below meth c G cI cJ cZ cS ad ba ka g b i 349 := by
  intro zx zm H locs ls hP hD hS hR hl
  obtain ⟨hx, hb, hml, hown, hts, hK, hX, hbl, hL, -, -⟩ := hC
  have hA : ∀ q : Nat, s.heap.size ≤ q → (fun q : Nat => s.heap.size ≤ q) q := fun _ h => h
  have hbA : ¬ (fun q : Nat => s.heap.size ≤ q) b := Nat.not_le.mpr hbl
  refine lv_aload_n hx hb dL_law_349 rfl (lv_at hl 1 rfl) ?_
  refine lv_aload_n hx hb dL_law_350 rfl (lv_at hl 0 rfl) ?_
  refine lv_iload_n hx hb dL_law_351 rfl (lv_at hl 3 rfl) ?_
  refine lv_iconst (v := nI 1) hx hb dL_law_352 (by decide) ?_
  refine lv_iadd hx hb dL_law_353 ?_
  refine top_i (y := nI (i + 1)) (nI_add _ _) ?_
  refine sld hx hb hX hbl hbA hS (j := i + 1) (by omega) hL dL_law_354 ?_
  refine lv_i2l (v := (xs (i + 1)).toInt64) hx hb dL_law_355 rfl ?_
  refine lv_bipush (v := nI 32) hx hb dL_law_356 (by decide) ?_
  refine lv_lshl (v := ((xs (i + 1)).toInt64) <<< ((nI 32).toInt64 &&& 63)) hx hb dL_law_358 rfl ?_
  refine lv_aload_n hx hb dL_law_359 rfl (lv_at hl 0 rfl) ?_
  refine lv_iload_n hx hb dL_law_360 rfl (lv_at hl 3 rfl) ?_
  refine lv_iconst (v := nI 2) hx hb dL_law_361 (by decide) ?_
  refine lv_iadd hx hb dL_law_362 ?_
  refine top_i (y := nI (i + 2)) (nI_add _ _) ?_
  refine sld hx hb hX hbl hbA hS (j := i + 2) (by omega) hL dL_law_363 ?_
  refine lv_i2l (v := (xs (i + 2)).toInt64) hx hb dL_law_364 rfl ?_
  refine lv_ldc2 (v := (4294967295 : Int64)) hx hb hown (hts (.constantLong RL 13 (4294967295)) hk13) dL_law_365 ?_
  refine lv_land hx hb dL_law_368 ?_
  refine lv_lor hx hb dL_law_369 ?_
  refine aftW_l (wa := xW cI cJ cZ cS ad ba ka zx) (wb := mW cI cJ cZ g zm) (va_runV (As := [.long ((((xs (i + 1)).toInt64) <<< ((nI 32).toInt64 &&& 63)) ||| (((xs (i + 2)).toInt64) &&& (4294967295 : Int64)))]) (rest := []) ⟨hx, hb, hml, hown, hts⟩ (x_seed ad ba ka zx zm ((((xs (i + 1)).toInt64) <<< ((nI 32).toInt64 &&& 63)) ||| (((xs (i + 2)).toInt64) &&& (4294967295 : Int64))) hR _) (cwV 1 hts gL_law_X9_seed rfl rfl rfl (by decide +kernel) ⟨Nat.le_of_ble_eq_true rfl, Nat.le_of_ble_eq_true rfl⟩) (preW (cq := (RX9, TX9, 11)) (ci := 9) (List.Perm.refl _) hK hP hD (xW_head zx) rfl) rfl rfl hl.1 rfl (lv_room (Nat.le_of_ble_eq_true rfl)) dL_law_370 ⟨Nat.le_of_ble_eq_true rfl, Nat.le_of_ble_eq_true rfl⟩) (List.Perm.refl _) hP hD hS hA (fun r1 x1 H locs hw1 hP hD hS => ?_)
  have hw1 : xP_seed ((((xs (i + 1)).toInt64) <<< ((nI 32).toInt64 &&& 63)) ||| (((xs (i + 2)).toInt64) &&& (4294967295 : Int64))) zx x1 r1 := hw1
  refine lv_aload_n hx hb dL_law_373 rfl (lv_at hl 2 rfl) ?_
  refine lv_aload_n hx hb dL_law_374 rfl (lv_at hl 0 rfl) ?_
  refine lv_iload_n hx hb dL_law_375 rfl (lv_at hl 3 rfl) ?_
  refine lv_iconst (v := nI 1) hx hb dL_law_376 (by decide) ?_
  refine lv_iadd hx hb dL_law_377 ?_
  refine top_i (y := nI (i + 1)) (nI_add _ _) ?_
  refine sld hx hb hX hbl hbA hS (j := i + 1) (by omega) hL dL_law_378 ?_
  refine lv_i2l (v := (xs (i + 1)).toInt64) hx hb dL_law_379 rfl ?_
  refine lv_bipush (v := nI 32) hx hb dL_law_380 (by decide) ?_
  refine lv_lshl (v := ((xs (i + 1)).toInt64) <<< ((nI 32).toInt64 &&& 63)) hx hb dL_law_382 rfl ?_
  refine lv_aload_n hx hb dL_law_383 rfl (lv_at hl 0 rfl) ?_
  refine lv_iload_n hx hb dL_law_384 rfl (lv_at hl 3 rfl) ?_
  refine lv_iconst (v := nI 2) hx hb dL_law_385 (by decide) ?_
  refine lv_iadd hx hb dL_law_386 ?_
  refine top_i (y := nI (i + 2)) (nI_add _ _) ?_
  refine sld hx hb hX hbl hbA hS (j := i + 2) (by omega) hL dL_law_387 ?_
  refine lv_i2l (v := (xs (i + 2)).toInt64) hx hb dL_law_388 rfl ?_
  refine lv_ldc2 (v := (4294967295 : Int64)) hx hb hown (hts (.constantLong RL 13 (4294967295)) hk13) dL_law_389 ?_
  refine lv_land hx hb dL_law_392 ?_
  refine lv_lor hx hb dL_law_393 ?_
  refine aftW_l (wa := mW cI cJ cZ g zm) (wb := xW cI cJ cZ cS ad ba ka x1) (va_runV (As := [.long ((((xs (i + 1)).toInt64) <<< ((nI 32).toInt64 &&& 63)) ||| (((xs (i + 2)).toInt64) &&& (4294967295 : Int64)))]) (rest := [.long r1]) ⟨hx, hb, hml, hown, hts⟩ (m_seed g zx zm ((((xs (i + 1)).toInt64) <<< ((nI 32).toInt64 &&& 63)) ||| (((xs (i + 2)).toInt64) &&& (4294967295 : Int64))) hR _) (cwV 1 hts gL_law_X10_seed rfl rfl rfl (by decide +kernel) ⟨Nat.le_of_ble_eq_true rfl, Nat.le_of_ble_eq_true rfl⟩) (preW (cq := (RX10, TX10, 31)) (ci := 10) List.perm_append_comm hK hP hD (mW_head zm) rfl) rfl rfl hl.1 rfl (lv_room (Nat.le_of_ble_eq_true rfl)) dL_law_394 ⟨Nat.le_of_ble_eq_true rfl, Nat.le_of_ble_eq_true rfl⟩) List.perm_append_comm hP hD hS hA (fun r2 m1 H locs hw2 hP hD hS => ?_)
  have hw2 : mP_seed ((((xs (i + 1)).toInt64) <<< ((nI 32).toInt64 &&& 63)) ||| (((xs (i + 2)).toInt64) &&& (4294967295 : Int64))) zm m1 r2 := hw2
  have hst := st_seed hR hw1 hw2
  refine W.lcmp hx hb dL_law_397 ?_
  refine lv_if_eq (tgt := 894) hx hb dL_law_398 (by decide) (fun _ => ?_) (fun c9 => absurd hst.1 (lc_eqF c9))
  exact K x1 m1 H locs ls (va_P_perm List.perm_append_comm hP) (va_D_perm List.perm_append_comm hD) hS hst.2 hl
set_option maxHeartbeats 4000000 in
set_option maxRecDepth 100000 in
theorem lc_say {p : Program} {l : Launch} {e : Env} {s : State} {m : MethodId} {below : List Frame} {meth : Method} {c : Code} {G : va_G} {cI cJ cZ cS : ClassId} {ad ba ka : Nat → Nat → Nat} {g : Nat → Nat} {b L i : Nat} {xs : Nat → Int32} (hC : LC p s m meth c G cI cJ cZ cS b L xs) (hi : i + 5 ≤ L) (K : LG p l e s m below meth c G cI cJ cZ cS ad ba ka g b i 894) : LG p l e s m below meth c G cI cJ cZ cS ad ba ka g b i 403 := by
  intro zx zm H locs ls hP hD hS hR hl
  obtain ⟨hx, hb, hml, hown, hts, hK, hX, hbl, hL, -, -⟩ := hC
  have hA : ∀ q : Nat, s.heap.size ≤ q → (fun q : Nat => s.heap.size ≤ q) q := fun _ h => h
  have hbA : ¬ (fun q : Nat => s.heap.size ≤ q) b := Nat.not_le.mpr hbl
  refine lv_aload_n hx hb dL_law_403 rfl (lv_at hl 1 rfl) ?_
  refine lv_aload_n hx hb dL_law_404 rfl (lv_at hl 0 rfl) ?_
  refine lv_iload_n hx hb dL_law_405 rfl (lv_at hl 3 rfl) ?_
  refine lv_iconst (v := nI 1) hx hb dL_law_406 (by decide) ?_
  refine lv_iadd hx hb dL_law_407 ?_
  refine top_i (y := nI (i + 1)) (nI_add _ _) ?_
  refine sld hx hb hX hbl hbA hS (j := i + 1) (by omega) hL dL_law_408 ?_
  refine aftW_i (wa := xW cI cJ cZ cS ad ba ka zx) (wb := mW cI cJ cZ g zm) (va_runV (As := [.int (xs (i + 1))]) (rest := []) ⟨hx, hb, hml, hown, hts⟩ (x_say ad ba ka zx zm (xs (i + 1)) hR _) (cwV 1 hts gL_law_X9_say rfl rfl rfl (by decide +kernel) ⟨Nat.le_of_ble_eq_true rfl, Nat.le_of_ble_eq_true rfl⟩) (preW (cq := (RX9, TX9, 11)) (ci := 9) (List.Perm.refl _) hK hP hD (xW_head zx) rfl) rfl rfl hl.1 rfl (lv_room (Nat.le_of_ble_eq_true rfl)) dL_law_409 ⟨Nat.le_of_ble_eq_true rfl, Nat.le_of_ble_eq_true rfl⟩) (List.Perm.refl _) hP hD hS hA (fun r1 x1 H locs hw1 hP hD hS => ?_)
  have hw1 : xP_say (xs (i + 1)) zx x1 r1 := hw1
  refine lv_aload_n hx hb dL_law_412 rfl (lv_at hl 2 rfl) ?_
  refine lv_aload_n hx hb dL_law_413 rfl (lv_at hl 0 rfl) ?_
  refine lv_iload_n hx hb dL_law_414 rfl (lv_at hl 3 rfl) ?_
  refine lv_iconst (v := nI 1) hx hb dL_law_415 (by decide) ?_
  refine lv_iadd hx hb dL_law_416 ?_
  refine top_i (y := nI (i + 1)) (nI_add _ _) ?_
  refine sld hx hb hX hbl hbA hS (j := i + 1) (by omega) hL dL_law_417 ?_
  refine aftW_i (wa := mW cI cJ cZ g zm) (wb := xW cI cJ cZ cS ad ba ka x1) (va_runV (As := [.int (xs (i + 1))]) (rest := [.int r1]) ⟨hx, hb, hml, hown, hts⟩ (m_say g zx zm (xs (i + 1)) hR _) (cwV 1 hts gL_law_X10_say rfl rfl rfl (by decide +kernel) ⟨Nat.le_of_ble_eq_true rfl, Nat.le_of_ble_eq_true rfl⟩) (preW (cq := (RX10, TX10, 31)) (ci := 10) List.perm_append_comm hK hP hD (mW_head zm) rfl) rfl rfl hl.1 rfl (lv_room (Nat.le_of_ble_eq_true rfl)) dL_law_418 ⟨Nat.le_of_ble_eq_true rfl, Nat.le_of_ble_eq_true rfl⟩) List.perm_append_comm hP hD hS hA (fun r2 m1 H locs hw2 hP hD hS => ?_)
  have hw2 : mP_say (xs (i + 1)) zm m1 r2 := hw2
  have hst := st_say hR hw1 hw2
  refine lv_icmp_eq (tgt := 894) hx hb dL_law_421 (by decide) (fun _ => ?_) (fun c9 => absurd hst.1 c9)
  exact K x1 m1 H locs ls (va_P_perm List.perm_append_comm hP) (va_D_perm List.perm_append_comm hD) hS hst.2 hl
set_option maxHeartbeats 4000000 in
set_option maxRecDepth 100000 in
theorem lc_minute {p : Program} {l : Launch} {e : Env} {s : State} {m : MethodId} {below : List Frame} {meth : Method} {c : Code} {G : va_G} {cI cJ cZ cS : ClassId} {ad ba ka : Nat → Nat → Nat} {g : Nat → Nat} {b L i : Nat} {xs : Nat → Int32} (hC : LC p s m meth c G cI cJ cZ cS b L xs) (hi : i + 5 ≤ L) (K : LG p l e s m below meth c G cI cJ cZ cS ad ba ka g b i 894) : LG p l e s m below meth c G cI cJ cZ cS ad ba ka g b i 426 := by
  intro zx zm H locs ls hP hD hS hR hl
  obtain ⟨hx, hb, hml, hown, hts, hK, hX, hbl, hL, -, -⟩ := hC
  have hA : ∀ q : Nat, s.heap.size ≤ q → (fun q : Nat => s.heap.size ≤ q) q := fun _ h => h
  have hbA : ¬ (fun q : Nat => s.heap.size ≤ q) b := Nat.not_le.mpr hbl
  refine lv_aload_n hx hb dL_law_426 rfl (lv_at hl 1 rfl) ?_
  refine aftW_i (wa := xW cI cJ cZ cS ad ba ka zx) (wb := mW cI cJ cZ g zm) (va_runV (As := []) (rest := []) ⟨hx, hb, hml, hown, hts⟩ (x_minute ad ba ka zx zm  hR _) (cwV 0 hts gL_law_X9_minute rfl rfl rfl (by decide +kernel) ⟨Nat.le_of_ble_eq_true rfl, Nat.le_of_ble_eq_true rfl⟩) (preW (cq := (RX9, TX9, 11)) (ci := 9) (List.Perm.refl _) hK hP hD (xW_head zx) rfl) rfl rfl hl.1 rfl (lv_room (Nat.le_of_ble_eq_true rfl)) dL_law_427 ⟨Nat.le_of_ble_eq_true rfl, Nat.le_of_ble_eq_true rfl⟩) (List.Perm.refl _) hP hD hS hA (fun r1 x1 H locs hw1 hP hD hS => ?_)
  have hw1 : xP_minute  zx x1 r1 := hw1
  refine lv_aload_n hx hb dL_law_430 rfl (lv_at hl 2 rfl) ?_
  refine aftW_i (wa := mW cI cJ cZ g zm) (wb := xW cI cJ cZ cS ad ba ka x1) (va_runV (As := []) (rest := [.int r1]) ⟨hx, hb, hml, hown, hts⟩ (m_minute g zx zm  hR _) (cwV 0 hts gL_law_X10_minute rfl rfl rfl (by decide +kernel) ⟨Nat.le_of_ble_eq_true rfl, Nat.le_of_ble_eq_true rfl⟩) (preW (cq := (RX10, TX10, 31)) (ci := 10) List.perm_append_comm hK hP hD (mW_head zm) rfl) rfl rfl hl.1 rfl (lv_room (Nat.le_of_ble_eq_true rfl)) dL_law_431 ⟨Nat.le_of_ble_eq_true rfl, Nat.le_of_ble_eq_true rfl⟩) List.perm_append_comm hP hD hS hA (fun r2 m1 H locs hw2 hP hD hS => ?_)
  have hw2 : mP_minute  zm m1 r2 := hw2
  have hst := st_minute hR hw1 hw2
  refine lv_icmp_eq (tgt := 894) hx hb dL_law_434 (by decide) (fun _ => ?_) (fun c9 => absurd hst.1 c9)
  exact K x1 m1 H locs ls (va_P_perm List.perm_append_comm hP) (va_D_perm List.perm_append_comm hD) hS hst.2 hl
set_option maxHeartbeats 4000000 in
set_option maxRecDepth 100000 in
theorem lc_bugle {p : Program} {l : Launch} {e : Env} {s : State} {m : MethodId} {below : List Frame} {meth : Method} {c : Code} {G : va_G} {cI cJ cZ cS : ClassId} {ad ba ka : Nat → Nat → Nat} {g : Nat → Nat} {b L i : Nat} {xs : Nat → Int32} (hC : LC p s m meth c G cI cJ cZ cS b L xs) (hi : i + 5 ≤ L) (K : LG p l e s m below meth c G cI cJ cZ cS ad ba ka g b i 894) : LG p l e s m below meth c G cI cJ cZ cS ad ba ka g b i 439 := by
  intro zx zm H locs ls hP hD hS hR hl
  obtain ⟨hx, hb, hml, hown, hts, hK, hX, hbl, hL, -, -⟩ := hC
  have hA : ∀ q : Nat, s.heap.size ≤ q → (fun q : Nat => s.heap.size ≤ q) q := fun _ h => h
  have hbA : ¬ (fun q : Nat => s.heap.size ≤ q) b := Nat.not_le.mpr hbl
  refine lv_aload_n hx hb dL_law_439 rfl (lv_at hl 1 rfl) ?_
  refine aftW_i (wa := xW cI cJ cZ cS ad ba ka zx) (wb := mW cI cJ cZ g zm) (va_runV (As := []) (rest := []) ⟨hx, hb, hml, hown, hts⟩ (x_bugle ad ba ka zx zm  hR _) (cwV 0 hts gL_law_X9_bugle rfl rfl rfl (by decide +kernel) ⟨Nat.le_of_ble_eq_true rfl, Nat.le_of_ble_eq_true rfl⟩) (preW (cq := (RX9, TX9, 11)) (ci := 9) (List.Perm.refl _) hK hP hD (xW_head zx) rfl) rfl rfl hl.1 rfl (lv_room (Nat.le_of_ble_eq_true rfl)) dL_law_440 ⟨Nat.le_of_ble_eq_true rfl, Nat.le_of_ble_eq_true rfl⟩) (List.Perm.refl _) hP hD hS hA (fun r1 x1 H locs hw1 hP hD hS => ?_)
  have hw1 : xP_bugle  zx x1 r1 := hw1
  refine lv_aload_n hx hb dL_law_443 rfl (lv_at hl 2 rfl) ?_
  refine aftW_i (wa := mW cI cJ cZ g zm) (wb := xW cI cJ cZ cS ad ba ka x1) (va_runV (As := []) (rest := [.int r1]) ⟨hx, hb, hml, hown, hts⟩ (m_bugle g zx zm  hR _) (cwV 0 hts gL_law_X10_bugle rfl rfl rfl (by decide +kernel) ⟨Nat.le_of_ble_eq_true rfl, Nat.le_of_ble_eq_true rfl⟩) (preW (cq := (RX10, TX10, 31)) (ci := 10) List.perm_append_comm hK hP hD (mW_head zm) rfl) rfl rfl hl.1 rfl (lv_room (Nat.le_of_ble_eq_true rfl)) dL_law_444 ⟨Nat.le_of_ble_eq_true rfl, Nat.le_of_ble_eq_true rfl⟩) List.perm_append_comm hP hD hS hA (fun r2 m1 H locs hw2 hP hD hS => ?_)
  have hw2 : mP_bugle  zm m1 r2 := hw2
  have hst := st_bugle hR hw1 hw2
  refine lv_icmp_eq (tgt := 894) hx hb dL_law_447 (by decide) (fun _ => ?_) (fun c9 => absurd hst.1 c9)
  exact K x1 m1 H locs ls (va_P_perm List.perm_append_comm hP) (va_D_perm List.perm_append_comm hD) hS hst.2 hl
set_option maxHeartbeats 4000000 in
set_option maxRecDepth 100000 in
theorem lc_undo {p : Program} {l : Launch} {e : Env} {s : State} {m : MethodId} {below : List Frame} {meth : Method} {c : Code} {G : va_G} {cI cJ cZ cS : ClassId} {ad ba ka : Nat → Nat → Nat} {g : Nat → Nat} {b L i : Nat} {xs : Nat → Int32} (hC : LC p s m meth c G cI cJ cZ cS b L xs) (hi : i + 5 ≤ L) (K : LG p l e s m below meth c G cI cJ cZ cS ad ba ka g b i 894) : LG p l e s m below meth c G cI cJ cZ cS ad ba ka g b i 452 := by
  intro zx zm H locs ls hP hD hS hR hl
  obtain ⟨hx, hb, hml, hown, hts, hK, hX, hbl, hL, -, -⟩ := hC
  have hA : ∀ q : Nat, s.heap.size ≤ q → (fun q : Nat => s.heap.size ≤ q) q := fun _ h => h
  have hbA : ¬ (fun q : Nat => s.heap.size ≤ q) b := Nat.not_le.mpr hbl
  refine lv_aload_n hx hb dL_law_452 rfl (lv_at hl 1 rfl) ?_
  refine aftW_i (wa := xW cI cJ cZ cS ad ba ka zx) (wb := mW cI cJ cZ g zm) (va_runV (As := []) (rest := []) ⟨hx, hb, hml, hown, hts⟩ (x_undo ad ba ka zx zm  hR _) (cwV 0 hts gL_law_X9_undo rfl rfl rfl (by decide +kernel) ⟨Nat.le_of_ble_eq_true rfl, Nat.le_of_ble_eq_true rfl⟩) (preW (cq := (RX9, TX9, 11)) (ci := 9) (List.Perm.refl _) hK hP hD (xW_head zx) rfl) rfl rfl hl.1 rfl (lv_room (Nat.le_of_ble_eq_true rfl)) dL_law_453 ⟨Nat.le_of_ble_eq_true rfl, Nat.le_of_ble_eq_true rfl⟩) (List.Perm.refl _) hP hD hS hA (fun r1 x1 H locs hw1 hP hD hS => ?_)
  have hw1 : xP_undo  zx x1 r1 := hw1
  refine lv_aload_n hx hb dL_law_456 rfl (lv_at hl 2 rfl) ?_
  refine aftW_i (wa := mW cI cJ cZ g zm) (wb := xW cI cJ cZ cS ad ba ka x1) (va_runV (As := []) (rest := [.int r1]) ⟨hx, hb, hml, hown, hts⟩ (m_undo g zx zm  hR _) (cwV 0 hts gL_law_X10_undo rfl rfl rfl (by decide +kernel) ⟨Nat.le_of_ble_eq_true rfl, Nat.le_of_ble_eq_true rfl⟩) (preW (cq := (RX10, TX10, 31)) (ci := 10) List.perm_append_comm hK hP hD (mW_head zm) rfl) rfl rfl hl.1 rfl (lv_room (Nat.le_of_ble_eq_true rfl)) dL_law_457 ⟨Nat.le_of_ble_eq_true rfl, Nat.le_of_ble_eq_true rfl⟩) List.perm_append_comm hP hD hS hA (fun r2 m1 H locs hw2 hP hD hS => ?_)
  have hw2 : mP_undo  zm m1 r2 := hw2
  have hst := st_undo hR hw1 hw2
  refine lv_icmp_eq (tgt := 894) hx hb dL_law_460 (by decide) (fun _ => ?_) (fun c9 => absurd hst.1 c9)
  exact K x1 m1 H locs ls (va_P_perm List.perm_append_comm hP) (va_D_perm List.perm_append_comm hD) hS hst.2 hl
set_option maxHeartbeats 4000000 in
set_option maxRecDepth 100000 in
theorem lc_heard {p : Program} {l : Launch} {e : Env} {s : State} {m : MethodId} {below : List Frame} {meth : Method} {c : Code} {G : va_G} {cI cJ cZ cS : ClassId} {ad ba ka : Nat → Nat → Nat} {g : Nat → Nat} {b L i : Nat} {xs : Nat → Int32} (hC : LC p s m meth c G cI cJ cZ cS b L xs) (hi : i + 5 ≤ L) (K : LG p l e s m below meth c G cI cJ cZ cS ad ba ka g b i 894) : LG p l e s m below meth c G cI cJ cZ cS ad ba ka g b i 465 := by
  intro zx zm H locs ls hP hD hS hR hl
  obtain ⟨hx, hb, hml, hown, hts, hK, hX, hbl, hL, -, -⟩ := hC
  have hA : ∀ q : Nat, s.heap.size ≤ q → (fun q : Nat => s.heap.size ≤ q) q := fun _ h => h
  have hbA : ¬ (fun q : Nat => s.heap.size ≤ q) b := Nat.not_le.mpr hbl
  refine lv_aload_n hx hb dL_law_465 rfl (lv_at hl 1 rfl) ?_
  refine lv_aload_n hx hb dL_law_466 rfl (lv_at hl 0 rfl) ?_
  refine lv_iload_n hx hb dL_law_467 rfl (lv_at hl 3 rfl) ?_
  refine lv_iconst (v := nI 1) hx hb dL_law_468 (by decide) ?_
  refine lv_iadd hx hb dL_law_469 ?_
  refine top_i (y := nI (i + 1)) (nI_add _ _) ?_
  refine sld hx hb hX hbl hbA hS (j := i + 1) (by omega) hL dL_law_470 ?_
  refine lv_aload_n hx hb dL_law_471 rfl (lv_at hl 0 rfl) ?_
  refine lv_iload_n hx hb dL_law_472 rfl (lv_at hl 3 rfl) ?_
  refine lv_iconst (v := nI 2) hx hb dL_law_473 (by decide) ?_
  refine lv_iadd hx hb dL_law_474 ?_
  refine top_i (y := nI (i + 2)) (nI_add _ _) ?_
  refine sld hx hb hX hbl hbA hS (j := i + 2) (by omega) hL dL_law_475 ?_
  refine lv_aload_n hx hb dL_law_476 rfl (lv_at hl 0 rfl) ?_
  refine lv_iload_n hx hb dL_law_477 rfl (lv_at hl 3 rfl) ?_
  refine lv_iconst (v := nI 3) hx hb dL_law_478 (by decide) ?_
  refine lv_iadd hx hb dL_law_479 ?_
  refine top_i (y := nI (i + 3)) (nI_add _ _) ?_
  refine sld hx hb hX hbl hbA hS (j := i + 3) (by omega) hL dL_law_480 ?_
  refine lv_aload_n hx hb dL_law_481 rfl (lv_at hl 0 rfl) ?_
  refine lv_iload_n hx hb dL_law_482 rfl (lv_at hl 3 rfl) ?_
  refine lv_iconst (v := nI 4) hx hb dL_law_483 (by decide) ?_
  refine lv_iadd hx hb dL_law_484 ?_
  refine top_i (y := nI (i + 4)) (nI_add _ _) ?_
  refine sld hx hb hX hbl hbA hS (j := i + 4) (by omega) hL dL_law_485 ?_
  refine lv_if_eq (tgt := 493) hx hb dL_law_486 (by decide) (fun ck => ?_) (fun ck => ?_)
  · skip
    refine lv_iconst (v := nI 0) hx hb dL_law_493 (by decide) ?_
    refine aftW_l (wa := xW cI cJ cZ cS ad ba ka zx) (wb := mW cI cJ cZ g zm) (va_runV (As := [.int (xs (i + 1)), .int (xs (i + 2)), .int (xs (i + 3)), .int (nI 0)]) (rest := []) ⟨hx, hb, hml, hown, hts⟩ (x_heard ad ba ka zx zm (xs (i + 1)) (xs (i + 2)) (xs (i + 3)) (nI 0) hR _) (cwV 4 hts gL_law_X9_heard rfl rfl rfl (by decide +kernel) ⟨Nat.le_of_ble_eq_true rfl, Nat.le_of_ble_eq_true rfl⟩) (preW (cq := (RX9, TX9, 11)) (ci := 9) (List.Perm.refl _) hK hP hD (xW_head zx) rfl) rfl rfl hl.1 rfl (lv_room (Nat.le_of_ble_eq_true rfl)) dL_law_494 ⟨Nat.le_of_ble_eq_true rfl, Nat.le_of_ble_eq_true rfl⟩) (List.Perm.refl _) hP hD hS hA (fun r1 x1 H locs hw1 hP hD hS => ?_)
    have hw1 : xP_heard (xs (i + 1)) (xs (i + 2)) (xs (i + 3)) (nI 0) zx x1 r1 := hw1
    refine lv_aload_n hx hb dL_law_497 rfl (lv_at hl 2 rfl) ?_
    refine lv_aload_n hx hb dL_law_498 rfl (lv_at hl 0 rfl) ?_
    refine lv_iload_n hx hb dL_law_499 rfl (lv_at hl 3 rfl) ?_
    refine lv_iconst (v := nI 1) hx hb dL_law_500 (by decide) ?_
    refine lv_iadd hx hb dL_law_501 ?_
    refine top_i (y := nI (i + 1)) (nI_add _ _) ?_
    refine sld hx hb hX hbl hbA hS (j := i + 1) (by omega) hL dL_law_502 ?_
    refine lv_aload_n hx hb dL_law_503 rfl (lv_at hl 0 rfl) ?_
    refine lv_iload_n hx hb dL_law_504 rfl (lv_at hl 3 rfl) ?_
    refine lv_iconst (v := nI 2) hx hb dL_law_505 (by decide) ?_
    refine lv_iadd hx hb dL_law_506 ?_
    refine top_i (y := nI (i + 2)) (nI_add _ _) ?_
    refine sld hx hb hX hbl hbA hS (j := i + 2) (by omega) hL dL_law_507 ?_
    refine lv_aload_n hx hb dL_law_508 rfl (lv_at hl 0 rfl) ?_
    refine lv_iload_n hx hb dL_law_509 rfl (lv_at hl 3 rfl) ?_
    refine lv_iconst (v := nI 3) hx hb dL_law_510 (by decide) ?_
    refine lv_iadd hx hb dL_law_511 ?_
    refine top_i (y := nI (i + 3)) (nI_add _ _) ?_
    refine sld hx hb hX hbl hbA hS (j := i + 3) (by omega) hL dL_law_512 ?_
    refine lv_aload_n hx hb dL_law_513 rfl (lv_at hl 0 rfl) ?_
    refine lv_iload_n hx hb dL_law_514 rfl (lv_at hl 3 rfl) ?_
    refine lv_iconst (v := nI 4) hx hb dL_law_515 (by decide) ?_
    refine lv_iadd hx hb dL_law_516 ?_
    refine top_i (y := nI (i + 4)) (nI_add _ _) ?_
    refine sld hx hb hX hbl hbA hS (j := i + 4) (by omega) hL dL_law_517 ?_
    refine lv_if_eq (tgt := 525) hx hb dL_law_518 (by decide) (fun _ => ?_) (fun c9 => absurd ck c9)
    refine lv_iconst (v := nI 0) hx hb dL_law_525 (by decide) ?_
    refine aftW_l (wa := mW cI cJ cZ g zm) (wb := xW cI cJ cZ cS ad ba ka x1) (va_runV (As := [.int (xs (i + 1)), .int (xs (i + 2)), .int (xs (i + 3)), .int (nI 0)]) (rest := [.long r1]) ⟨hx, hb, hml, hown, hts⟩ (m_heard g zx zm (xs (i + 1)) (xs (i + 2)) (xs (i + 3)) (nI 0) hR _) (cwV 4 hts gL_law_X10_heard rfl rfl rfl (by decide +kernel) ⟨Nat.le_of_ble_eq_true rfl, Nat.le_of_ble_eq_true rfl⟩) (preW (cq := (RX10, TX10, 31)) (ci := 10) List.perm_append_comm hK hP hD (mW_head zm) rfl) rfl rfl hl.1 rfl (lv_room (Nat.le_of_ble_eq_true rfl)) dL_law_526 ⟨Nat.le_of_ble_eq_true rfl, Nat.le_of_ble_eq_true rfl⟩) List.perm_append_comm hP hD hS hA (fun r2 m1 H locs hw2 hP hD hS => ?_)
    have hw2 : mP_heard (xs (i + 1)) (xs (i + 2)) (xs (i + 3)) (nI 0) zm m1 r2 := hw2
    have hst := st_heard hR hw1 hw2
    refine W.lcmp hx hb dL_law_529 ?_
    refine lv_if_eq (tgt := 894) hx hb dL_law_530 (by decide) (fun _ => ?_) (fun c9 => absurd hst.1 (lc_eqF c9))
    exact K x1 m1 H locs ls (va_P_perm List.perm_append_comm hP) (va_D_perm List.perm_append_comm hD) hS hst.2 hl
  · skip
    refine lv_iconst (v := nI 1) hx hb dL_law_489 (by decide) ?_
    refine lv_goto (tgt := 494) hx hb dL_law_490 (by decide) ?_
    refine aftW_l (wa := xW cI cJ cZ cS ad ba ka zx) (wb := mW cI cJ cZ g zm) (va_runV (As := [.int (xs (i + 1)), .int (xs (i + 2)), .int (xs (i + 3)), .int (nI 1)]) (rest := []) ⟨hx, hb, hml, hown, hts⟩ (x_heard ad ba ka zx zm (xs (i + 1)) (xs (i + 2)) (xs (i + 3)) (nI 1) hR _) (cwV 4 hts gL_law_X9_heard rfl rfl rfl (by decide +kernel) ⟨Nat.le_of_ble_eq_true rfl, Nat.le_of_ble_eq_true rfl⟩) (preW (cq := (RX9, TX9, 11)) (ci := 9) (List.Perm.refl _) hK hP hD (xW_head zx) rfl) rfl rfl hl.1 rfl (lv_room (Nat.le_of_ble_eq_true rfl)) dL_law_494 ⟨Nat.le_of_ble_eq_true rfl, Nat.le_of_ble_eq_true rfl⟩) (List.Perm.refl _) hP hD hS hA (fun r1 x1 H locs hw1 hP hD hS => ?_)
    have hw1 : xP_heard (xs (i + 1)) (xs (i + 2)) (xs (i + 3)) (nI 1) zx x1 r1 := hw1
    refine lv_aload_n hx hb dL_law_497 rfl (lv_at hl 2 rfl) ?_
    refine lv_aload_n hx hb dL_law_498 rfl (lv_at hl 0 rfl) ?_
    refine lv_iload_n hx hb dL_law_499 rfl (lv_at hl 3 rfl) ?_
    refine lv_iconst (v := nI 1) hx hb dL_law_500 (by decide) ?_
    refine lv_iadd hx hb dL_law_501 ?_
    refine top_i (y := nI (i + 1)) (nI_add _ _) ?_
    refine sld hx hb hX hbl hbA hS (j := i + 1) (by omega) hL dL_law_502 ?_
    refine lv_aload_n hx hb dL_law_503 rfl (lv_at hl 0 rfl) ?_
    refine lv_iload_n hx hb dL_law_504 rfl (lv_at hl 3 rfl) ?_
    refine lv_iconst (v := nI 2) hx hb dL_law_505 (by decide) ?_
    refine lv_iadd hx hb dL_law_506 ?_
    refine top_i (y := nI (i + 2)) (nI_add _ _) ?_
    refine sld hx hb hX hbl hbA hS (j := i + 2) (by omega) hL dL_law_507 ?_
    refine lv_aload_n hx hb dL_law_508 rfl (lv_at hl 0 rfl) ?_
    refine lv_iload_n hx hb dL_law_509 rfl (lv_at hl 3 rfl) ?_
    refine lv_iconst (v := nI 3) hx hb dL_law_510 (by decide) ?_
    refine lv_iadd hx hb dL_law_511 ?_
    refine top_i (y := nI (i + 3)) (nI_add _ _) ?_
    refine sld hx hb hX hbl hbA hS (j := i + 3) (by omega) hL dL_law_512 ?_
    refine lv_aload_n hx hb dL_law_513 rfl (lv_at hl 0 rfl) ?_
    refine lv_iload_n hx hb dL_law_514 rfl (lv_at hl 3 rfl) ?_
    refine lv_iconst (v := nI 4) hx hb dL_law_515 (by decide) ?_
    refine lv_iadd hx hb dL_law_516 ?_
    refine top_i (y := nI (i + 4)) (nI_add _ _) ?_
    refine sld hx hb hX hbl hbA hS (j := i + 4) (by omega) hL dL_law_517 ?_
    refine lv_if_eq (tgt := 525) hx hb dL_law_518 (by decide) (fun c9 => absurd c9 ck) (fun _ => ?_)
    refine lv_iconst (v := nI 1) hx hb dL_law_521 (by decide) ?_
    refine lv_goto (tgt := 526) hx hb dL_law_522 (by decide) ?_
    refine aftW_l (wa := mW cI cJ cZ g zm) (wb := xW cI cJ cZ cS ad ba ka x1) (va_runV (As := [.int (xs (i + 1)), .int (xs (i + 2)), .int (xs (i + 3)), .int (nI 1)]) (rest := [.long r1]) ⟨hx, hb, hml, hown, hts⟩ (m_heard g zx zm (xs (i + 1)) (xs (i + 2)) (xs (i + 3)) (nI 1) hR _) (cwV 4 hts gL_law_X10_heard rfl rfl rfl (by decide +kernel) ⟨Nat.le_of_ble_eq_true rfl, Nat.le_of_ble_eq_true rfl⟩) (preW (cq := (RX10, TX10, 31)) (ci := 10) List.perm_append_comm hK hP hD (mW_head zm) rfl) rfl rfl hl.1 rfl (lv_room (Nat.le_of_ble_eq_true rfl)) dL_law_526 ⟨Nat.le_of_ble_eq_true rfl, Nat.le_of_ble_eq_true rfl⟩) List.perm_append_comm hP hD hS hA (fun r2 m1 H locs hw2 hP hD hS => ?_)
    have hw2 : mP_heard (xs (i + 1)) (xs (i + 2)) (xs (i + 3)) (nI 1) zm m1 r2 := hw2
    have hst := st_heard hR hw1 hw2
    refine W.lcmp hx hb dL_law_529 ?_
    refine lv_if_eq (tgt := 894) hx hb dL_law_530 (by decide) (fun _ => ?_) (fun c9 => absurd hst.1 (lc_eqF c9))
    exact K x1 m1 H locs ls (va_P_perm List.perm_append_comm hP) (va_D_perm List.perm_append_comm hD) hS hst.2 hl
set_option maxHeartbeats 4000000 in
set_option maxRecDepth 100000 in
theorem lc_comes {p : Program} {l : Launch} {e : Env} {s : State} {m : MethodId} {below : List Frame} {meth : Method} {c : Code} {G : va_G} {cI cJ cZ cS : ClassId} {ad ba ka : Nat → Nat → Nat} {g : Nat → Nat} {b L i : Nat} {xs : Nat → Int32} (hC : LC p s m meth c G cI cJ cZ cS b L xs) (hi : i + 5 ≤ L) (K : LG p l e s m below meth c G cI cJ cZ cS ad ba ka g b i 894) : LG p l e s m below meth c G cI cJ cZ cS ad ba ka g b i 535 := by
  intro zx zm H locs ls hP hD hS hR hl
  obtain ⟨hx, hb, hml, hown, hts, hK, hX, hbl, hL, -, -⟩ := hC
  have hA : ∀ q : Nat, s.heap.size ≤ q → (fun q : Nat => s.heap.size ≤ q) q := fun _ h => h
  have hbA : ¬ (fun q : Nat => s.heap.size ≤ q) b := Nat.not_le.mpr hbl
  refine lv_aload_n hx hb dL_law_535 rfl (lv_at hl 1 rfl) ?_
  refine lv_aload_n hx hb dL_law_536 rfl (lv_at hl 0 rfl) ?_
  refine lv_iload_n hx hb dL_law_537 rfl (lv_at hl 3 rfl) ?_
  refine lv_iconst (v := nI 1) hx hb dL_law_538 (by decide) ?_
  refine lv_iadd hx hb dL_law_539 ?_
  refine top_i (y := nI (i + 1)) (nI_add _ _) ?_
  refine sld hx hb hX hbl hbA hS (j := i + 1) (by omega) hL dL_law_540 ?_
  refine lv_aload_n hx hb dL_law_541 rfl (lv_at hl 0 rfl) ?_
  refine lv_iload_n hx hb dL_law_542 rfl (lv_at hl 3 rfl) ?_
  refine lv_iconst (v := nI 2) hx hb dL_law_543 (by decide) ?_
  refine lv_iadd hx hb dL_law_544 ?_
  refine top_i (y := nI (i + 2)) (nI_add _ _) ?_
  refine sld hx hb hX hbl hbA hS (j := i + 2) (by omega) hL dL_law_545 ?_
  refine aftW_i (wa := xW cI cJ cZ cS ad ba ka zx) (wb := mW cI cJ cZ g zm) (va_runV (As := [.int (xs (i + 1)), .int (xs (i + 2))]) (rest := []) ⟨hx, hb, hml, hown, hts⟩ (x_comes ad ba ka zx zm (xs (i + 1)) (xs (i + 2)) hR _) (cwV 2 hts gL_law_X9_comes rfl rfl rfl (by decide +kernel) ⟨Nat.le_of_ble_eq_true rfl, Nat.le_of_ble_eq_true rfl⟩) (preW (cq := (RX9, TX9, 11)) (ci := 9) (List.Perm.refl _) hK hP hD (xW_head zx) rfl) rfl rfl hl.1 rfl (lv_room (Nat.le_of_ble_eq_true rfl)) dL_law_546 ⟨Nat.le_of_ble_eq_true rfl, Nat.le_of_ble_eq_true rfl⟩) (List.Perm.refl _) hP hD hS hA (fun r1 x1 H locs hw1 hP hD hS => ?_)
  have hw1 : xP_comes (xs (i + 1)) (xs (i + 2)) zx x1 r1 := hw1
  refine lv_aload_n hx hb dL_law_549 rfl (lv_at hl 2 rfl) ?_
  refine lv_aload_n hx hb dL_law_550 rfl (lv_at hl 0 rfl) ?_
  refine lv_iload_n hx hb dL_law_551 rfl (lv_at hl 3 rfl) ?_
  refine lv_iconst (v := nI 1) hx hb dL_law_552 (by decide) ?_
  refine lv_iadd hx hb dL_law_553 ?_
  refine top_i (y := nI (i + 1)) (nI_add _ _) ?_
  refine sld hx hb hX hbl hbA hS (j := i + 1) (by omega) hL dL_law_554 ?_
  refine lv_aload_n hx hb dL_law_555 rfl (lv_at hl 0 rfl) ?_
  refine lv_iload_n hx hb dL_law_556 rfl (lv_at hl 3 rfl) ?_
  refine lv_iconst (v := nI 2) hx hb dL_law_557 (by decide) ?_
  refine lv_iadd hx hb dL_law_558 ?_
  refine top_i (y := nI (i + 2)) (nI_add _ _) ?_
  refine sld hx hb hX hbl hbA hS (j := i + 2) (by omega) hL dL_law_559 ?_
  refine aftW_i (wa := mW cI cJ cZ g zm) (wb := xW cI cJ cZ cS ad ba ka x1) (va_runV (As := [.int (xs (i + 1)), .int (xs (i + 2))]) (rest := [.int r1]) ⟨hx, hb, hml, hown, hts⟩ (m_comes g zx zm (xs (i + 1)) (xs (i + 2)) hR _) (cwV 2 hts gL_law_X10_comes rfl rfl rfl (by decide +kernel) ⟨Nat.le_of_ble_eq_true rfl, Nat.le_of_ble_eq_true rfl⟩) (preW (cq := (RX10, TX10, 31)) (ci := 10) List.perm_append_comm hK hP hD (mW_head zm) rfl) rfl rfl hl.1 rfl (lv_room (Nat.le_of_ble_eq_true rfl)) dL_law_560 ⟨Nat.le_of_ble_eq_true rfl, Nat.le_of_ble_eq_true rfl⟩) List.perm_append_comm hP hD hS hA (fun r2 m1 H locs hw2 hP hD hS => ?_)
  have hw2 : mP_comes (xs (i + 1)) (xs (i + 2)) zm m1 r2 := hw2
  have hst := st_comes hR hw1 hw2
  refine lv_icmp_eq (tgt := 894) hx hb dL_law_563 (by decide) (fun _ => ?_) (fun c9 => absurd hst.1 c9)
  exact K x1 m1 H locs ls (va_P_perm List.perm_append_comm hP) (va_D_perm List.perm_append_comm hD) hS hst.2 hl
set_option maxHeartbeats 4000000 in
set_option maxRecDepth 100000 in
theorem lc_sure {p : Program} {l : Launch} {e : Env} {s : State} {m : MethodId} {below : List Frame} {meth : Method} {c : Code} {G : va_G} {cI cJ cZ cS : ClassId} {ad ba ka : Nat → Nat → Nat} {g : Nat → Nat} {b L i : Nat} {xs : Nat → Int32} (hC : LC p s m meth c G cI cJ cZ cS b L xs) (hi : i + 5 ≤ L) (K : LG p l e s m below meth c G cI cJ cZ cS ad ba ka g b i 894) : LG p l e s m below meth c G cI cJ cZ cS ad ba ka g b i 568 := by
  intro zx zm H locs ls hP hD hS hR hl
  obtain ⟨hx, hb, hml, hown, hts, hK, hX, hbl, hL, -, -⟩ := hC
  have hA : ∀ q : Nat, s.heap.size ≤ q → (fun q : Nat => s.heap.size ≤ q) q := fun _ h => h
  have hbA : ¬ (fun q : Nat => s.heap.size ≤ q) b := Nat.not_le.mpr hbl
  refine lv_aload_n hx hb dL_law_568 rfl (lv_at hl 1 rfl) ?_
  refine lv_aload_n hx hb dL_law_569 rfl (lv_at hl 0 rfl) ?_
  refine lv_iload_n hx hb dL_law_570 rfl (lv_at hl 3 rfl) ?_
  refine lv_iconst (v := nI 1) hx hb dL_law_571 (by decide) ?_
  refine lv_iadd hx hb dL_law_572 ?_
  refine top_i (y := nI (i + 1)) (nI_add _ _) ?_
  refine sld hx hb hX hbl hbA hS (j := i + 1) (by omega) hL dL_law_573 ?_
  refine aftW_i (wa := xW cI cJ cZ cS ad ba ka zx) (wb := mW cI cJ cZ g zm) (va_runV (As := [.int (xs (i + 1))]) (rest := []) ⟨hx, hb, hml, hown, hts⟩ (x_sure ad ba ka zx zm (xs (i + 1)) hR _) (cwV 1 hts gL_law_X9_sure rfl rfl rfl (by decide +kernel) ⟨Nat.le_of_ble_eq_true rfl, Nat.le_of_ble_eq_true rfl⟩) (preW (cq := (RX9, TX9, 11)) (ci := 9) (List.Perm.refl _) hK hP hD (xW_head zx) rfl) rfl rfl hl.1 rfl (lv_room (Nat.le_of_ble_eq_true rfl)) dL_law_574 ⟨Nat.le_of_ble_eq_true rfl, Nat.le_of_ble_eq_true rfl⟩) (List.Perm.refl _) hP hD hS hA (fun r1 x1 H locs hw1 hP hD hS => ?_)
  have hw1 : xP_sure (xs (i + 1)) zx x1 r1 := hw1
  refine lv_aload_n hx hb dL_law_577 rfl (lv_at hl 2 rfl) ?_
  refine lv_aload_n hx hb dL_law_578 rfl (lv_at hl 0 rfl) ?_
  refine lv_iload_n hx hb dL_law_579 rfl (lv_at hl 3 rfl) ?_
  refine lv_iconst (v := nI 1) hx hb dL_law_580 (by decide) ?_
  refine lv_iadd hx hb dL_law_581 ?_
  refine top_i (y := nI (i + 1)) (nI_add _ _) ?_
  refine sld hx hb hX hbl hbA hS (j := i + 1) (by omega) hL dL_law_582 ?_
  refine aftW_i (wa := mW cI cJ cZ g zm) (wb := xW cI cJ cZ cS ad ba ka x1) (va_runV (As := [.int (xs (i + 1))]) (rest := [.int r1]) ⟨hx, hb, hml, hown, hts⟩ (m_sure g zx zm (xs (i + 1)) hR _) (cwV 1 hts gL_law_X10_sure rfl rfl rfl (by decide +kernel) ⟨Nat.le_of_ble_eq_true rfl, Nat.le_of_ble_eq_true rfl⟩) (preW (cq := (RX10, TX10, 31)) (ci := 10) List.perm_append_comm hK hP hD (mW_head zm) rfl) rfl rfl hl.1 rfl (lv_room (Nat.le_of_ble_eq_true rfl)) dL_law_583 ⟨Nat.le_of_ble_eq_true rfl, Nat.le_of_ble_eq_true rfl⟩) List.perm_append_comm hP hD hS hA (fun r2 m1 H locs hw2 hP hD hS => ?_)
  have hw2 : mP_sure (xs (i + 1)) zm m1 r2 := hw2
  have hst := st_sure hR hw1 hw2
  refine lv_icmp_eq (tgt := 894) hx hb dL_law_586 (by decide) (fun _ => ?_) (fun c9 => absurd hst.1 c9)
  exact K x1 m1 H locs ls (va_P_perm List.perm_append_comm hP) (va_D_perm List.perm_append_comm hD) hS hst.2 hl
set_option maxHeartbeats 4000000 in
set_option maxRecDepth 100000 in
theorem lc_code {p : Program} {l : Launch} {e : Env} {s : State} {m : MethodId} {below : List Frame} {meth : Method} {c : Code} {G : va_G} {cI cJ cZ cS : ClassId} {ad ba ka : Nat → Nat → Nat} {g : Nat → Nat} {b L i : Nat} {xs : Nat → Int32} (hC : LC p s m meth c G cI cJ cZ cS b L xs) (hi : i + 5 ≤ L) (K : LG p l e s m below meth c G cI cJ cZ cS ad ba ka g b i 894) : LG p l e s m below meth c G cI cJ cZ cS ad ba ka g b i 591 := by
  intro zx zm H locs ls hP hD hS hR hl
  obtain ⟨hx, hb, hml, hown, hts, hK, hX, hbl, hL, -, -⟩ := hC
  have hA : ∀ q : Nat, s.heap.size ≤ q → (fun q : Nat => s.heap.size ≤ q) q := fun _ h => h
  have hbA : ¬ (fun q : Nat => s.heap.size ≤ q) b := Nat.not_le.mpr hbl
  refine lv_aload_n hx hb dL_law_591 rfl (lv_at hl 1 rfl) ?_
  refine lv_aload_n hx hb dL_law_592 rfl (lv_at hl 0 rfl) ?_
  refine lv_iload_n hx hb dL_law_593 rfl (lv_at hl 3 rfl) ?_
  refine lv_iconst (v := nI 1) hx hb dL_law_594 (by decide) ?_
  refine lv_iadd hx hb dL_law_595 ?_
  refine top_i (y := nI (i + 1)) (nI_add _ _) ?_
  refine sld hx hb hX hbl hbA hS (j := i + 1) (by omega) hL dL_law_596 ?_
  refine aftW_i (wa := xW cI cJ cZ cS ad ba ka zx) (wb := mW cI cJ cZ g zm) (va_runV (As := [.int (xs (i + 1))]) (rest := []) ⟨hx, hb, hml, hown, hts⟩ (x_code ad ba ka zx zm (xs (i + 1)) hR _) (cwV 1 hts gL_law_X9_code rfl rfl rfl (by decide +kernel) ⟨Nat.le_of_ble_eq_true rfl, Nat.le_of_ble_eq_true rfl⟩) (preW (cq := (RX9, TX9, 11)) (ci := 9) (List.Perm.refl _) hK hP hD (xW_head zx) rfl) rfl rfl hl.1 rfl (lv_room (Nat.le_of_ble_eq_true rfl)) dL_law_597 ⟨Nat.le_of_ble_eq_true rfl, Nat.le_of_ble_eq_true rfl⟩) (List.Perm.refl _) hP hD hS hA (fun r1 x1 H locs hw1 hP hD hS => ?_)
  have hw1 : xP_code (xs (i + 1)) zx x1 r1 := hw1
  refine lv_aload_n hx hb dL_law_600 rfl (lv_at hl 2 rfl) ?_
  refine lv_aload_n hx hb dL_law_601 rfl (lv_at hl 0 rfl) ?_
  refine lv_iload_n hx hb dL_law_602 rfl (lv_at hl 3 rfl) ?_
  refine lv_iconst (v := nI 1) hx hb dL_law_603 (by decide) ?_
  refine lv_iadd hx hb dL_law_604 ?_
  refine top_i (y := nI (i + 1)) (nI_add _ _) ?_
  refine sld hx hb hX hbl hbA hS (j := i + 1) (by omega) hL dL_law_605 ?_
  refine aftW_i (wa := mW cI cJ cZ g zm) (wb := xW cI cJ cZ cS ad ba ka x1) (va_runV (As := [.int (xs (i + 1))]) (rest := [.int r1]) ⟨hx, hb, hml, hown, hts⟩ (m_code g zx zm (xs (i + 1)) hR _) (cwV 1 hts gL_law_X10_code rfl rfl rfl (by decide +kernel) ⟨Nat.le_of_ble_eq_true rfl, Nat.le_of_ble_eq_true rfl⟩) (preW (cq := (RX10, TX10, 31)) (ci := 10) List.perm_append_comm hK hP hD (mW_head zm) rfl) rfl rfl hl.1 rfl (lv_room (Nat.le_of_ble_eq_true rfl)) dL_law_606 ⟨Nat.le_of_ble_eq_true rfl, Nat.le_of_ble_eq_true rfl⟩) List.perm_append_comm hP hD hS hA (fun r2 m1 H locs hw2 hP hD hS => ?_)
  have hw2 : mP_code (xs (i + 1)) zm m1 r2 := hw2
  have hst := st_code hR hw1 hw2
  refine lv_icmp_eq (tgt := 894) hx hb dL_law_609 (by decide) (fun _ => ?_) (fun c9 => absurd hst.1 c9)
  exact K x1 m1 H locs ls (va_P_perm List.perm_append_comm hP) (va_D_perm List.perm_append_comm hD) hS hst.2 hl
set_option maxHeartbeats 4000000 in
set_option maxRecDepth 100000 in
theorem lc_twoOfThree {p : Program} {l : Launch} {e : Env} {s : State} {m : MethodId} {below : List Frame} {meth : Method} {c : Code} {G : va_G} {cI cJ cZ cS : ClassId} {ad ba ka : Nat → Nat → Nat} {g : Nat → Nat} {b L i : Nat} {xs : Nat → Int32} (hC : LC p s m meth c G cI cJ cZ cS b L xs) (hi : i + 5 ≤ L) (K : LG p l e s m below meth c G cI cJ cZ cS ad ba ka g b i 894) : LG p l e s m below meth c G cI cJ cZ cS ad ba ka g b i 614 := by
  intro zx zm H locs ls hP hD hS hR hl
  obtain ⟨hx, hb, hml, hown, hts, hK, hX, hbl, hL, -, -⟩ := hC
  have hA : ∀ q : Nat, s.heap.size ≤ q → (fun q : Nat => s.heap.size ≤ q) q := fun _ h => h
  have hbA : ¬ (fun q : Nat => s.heap.size ≤ q) b := Nat.not_le.mpr hbl
  refine lv_aload_n hx hb dL_law_614 rfl (lv_at hl 1 rfl) ?_
  refine lv_aload_n hx hb dL_law_615 rfl (lv_at hl 0 rfl) ?_
  refine lv_iload_n hx hb dL_law_616 rfl (lv_at hl 3 rfl) ?_
  refine lv_iconst (v := nI 1) hx hb dL_law_617 (by decide) ?_
  refine lv_iadd hx hb dL_law_618 ?_
  refine top_i (y := nI (i + 1)) (nI_add _ _) ?_
  refine sld hx hb hX hbl hbA hS (j := i + 1) (by omega) hL dL_law_619 ?_
  refine lv_aload_n hx hb dL_law_620 rfl (lv_at hl 0 rfl) ?_
  refine lv_iload_n hx hb dL_law_621 rfl (lv_at hl 3 rfl) ?_
  refine lv_iconst (v := nI 2) hx hb dL_law_622 (by decide) ?_
  refine lv_iadd hx hb dL_law_623 ?_
  refine top_i (y := nI (i + 2)) (nI_add _ _) ?_
  refine sld hx hb hX hbl hbA hS (j := i + 2) (by omega) hL dL_law_624 ?_
  refine lv_aload_n hx hb dL_law_625 rfl (lv_at hl 0 rfl) ?_
  refine lv_iload_n hx hb dL_law_626 rfl (lv_at hl 3 rfl) ?_
  refine lv_iconst (v := nI 3) hx hb dL_law_627 (by decide) ?_
  refine lv_iadd hx hb dL_law_628 ?_
  refine top_i (y := nI (i + 3)) (nI_add _ _) ?_
  refine sld hx hb hX hbl hbA hS (j := i + 3) (by omega) hL dL_law_629 ?_
  refine lv_if_eq (tgt := 637) hx hb dL_law_630 (by decide) (fun ck => ?_) (fun ck => ?_)
  · skip
    refine lv_iconst (v := nI 0) hx hb dL_law_637 (by decide) ?_
    refine aftW_l (wa := xW cI cJ cZ cS ad ba ka zx) (wb := mW cI cJ cZ g zm) (va_runV (As := [.int (xs (i + 1)), .int (xs (i + 2)), .int (nI 0)]) (rest := []) ⟨hx, hb, hml, hown, hts⟩ (x_twoOfThree ad ba ka zx zm (xs (i + 1)) (xs (i + 2)) (nI 0) hR _) (cwV 3 hts gL_law_X9_twoOfThree rfl rfl rfl (by decide +kernel) ⟨Nat.le_of_ble_eq_true rfl, Nat.le_of_ble_eq_true rfl⟩) (preW (cq := (RX9, TX9, 11)) (ci := 9) (List.Perm.refl _) hK hP hD (xW_head zx) rfl) rfl rfl hl.1 rfl (lv_room (Nat.le_of_ble_eq_true rfl)) dL_law_638 ⟨Nat.le_of_ble_eq_true rfl, Nat.le_of_ble_eq_true rfl⟩) (List.Perm.refl _) hP hD hS hA (fun r1 x1 H locs hw1 hP hD hS => ?_)
    have hw1 : xP_twoOfThree (xs (i + 1)) (xs (i + 2)) (nI 0) zx x1 r1 := hw1
    refine lv_aload_n hx hb dL_law_641 rfl (lv_at hl 2 rfl) ?_
    refine lv_aload_n hx hb dL_law_642 rfl (lv_at hl 0 rfl) ?_
    refine lv_iload_n hx hb dL_law_643 rfl (lv_at hl 3 rfl) ?_
    refine lv_iconst (v := nI 1) hx hb dL_law_644 (by decide) ?_
    refine lv_iadd hx hb dL_law_645 ?_
    refine top_i (y := nI (i + 1)) (nI_add _ _) ?_
    refine sld hx hb hX hbl hbA hS (j := i + 1) (by omega) hL dL_law_646 ?_
    refine lv_aload_n hx hb dL_law_647 rfl (lv_at hl 0 rfl) ?_
    refine lv_iload_n hx hb dL_law_648 rfl (lv_at hl 3 rfl) ?_
    refine lv_iconst (v := nI 2) hx hb dL_law_649 (by decide) ?_
    refine lv_iadd hx hb dL_law_650 ?_
    refine top_i (y := nI (i + 2)) (nI_add _ _) ?_
    refine sld hx hb hX hbl hbA hS (j := i + 2) (by omega) hL dL_law_651 ?_
    refine lv_aload_n hx hb dL_law_652 rfl (lv_at hl 0 rfl) ?_
    refine lv_iload_n hx hb dL_law_653 rfl (lv_at hl 3 rfl) ?_
    refine lv_iconst (v := nI 3) hx hb dL_law_654 (by decide) ?_
    refine lv_iadd hx hb dL_law_655 ?_
    refine top_i (y := nI (i + 3)) (nI_add _ _) ?_
    refine sld hx hb hX hbl hbA hS (j := i + 3) (by omega) hL dL_law_656 ?_
    refine lv_if_eq (tgt := 664) hx hb dL_law_657 (by decide) (fun _ => ?_) (fun c9 => absurd ck c9)
    refine lv_iconst (v := nI 0) hx hb dL_law_664 (by decide) ?_
    refine aftW_l (wa := mW cI cJ cZ g zm) (wb := xW cI cJ cZ cS ad ba ka x1) (va_runV (As := [.int (xs (i + 1)), .int (xs (i + 2)), .int (nI 0)]) (rest := [.long r1]) ⟨hx, hb, hml, hown, hts⟩ (m_twoOfThree g zx zm (xs (i + 1)) (xs (i + 2)) (nI 0) hR _) (cwV 3 hts gL_law_X10_twoOfThree rfl rfl rfl (by decide +kernel) ⟨Nat.le_of_ble_eq_true rfl, Nat.le_of_ble_eq_true rfl⟩) (preW (cq := (RX10, TX10, 31)) (ci := 10) List.perm_append_comm hK hP hD (mW_head zm) rfl) rfl rfl hl.1 rfl (lv_room (Nat.le_of_ble_eq_true rfl)) dL_law_665 ⟨Nat.le_of_ble_eq_true rfl, Nat.le_of_ble_eq_true rfl⟩) List.perm_append_comm hP hD hS hA (fun r2 m1 H locs hw2 hP hD hS => ?_)
    have hw2 : mP_twoOfThree (xs (i + 1)) (xs (i + 2)) (nI 0) zm m1 r2 := hw2
    have hst := st_twoOfThree hR hw1 hw2
    refine W.lcmp hx hb dL_law_668 ?_
    refine lv_if_eq (tgt := 894) hx hb dL_law_669 (by decide) (fun _ => ?_) (fun c9 => absurd hst.1 (lc_eqF c9))
    exact K x1 m1 H locs ls (va_P_perm List.perm_append_comm hP) (va_D_perm List.perm_append_comm hD) hS hst.2 hl
  · skip
    refine lv_iconst (v := nI 1) hx hb dL_law_633 (by decide) ?_
    refine lv_goto (tgt := 638) hx hb dL_law_634 (by decide) ?_
    refine aftW_l (wa := xW cI cJ cZ cS ad ba ka zx) (wb := mW cI cJ cZ g zm) (va_runV (As := [.int (xs (i + 1)), .int (xs (i + 2)), .int (nI 1)]) (rest := []) ⟨hx, hb, hml, hown, hts⟩ (x_twoOfThree ad ba ka zx zm (xs (i + 1)) (xs (i + 2)) (nI 1) hR _) (cwV 3 hts gL_law_X9_twoOfThree rfl rfl rfl (by decide +kernel) ⟨Nat.le_of_ble_eq_true rfl, Nat.le_of_ble_eq_true rfl⟩) (preW (cq := (RX9, TX9, 11)) (ci := 9) (List.Perm.refl _) hK hP hD (xW_head zx) rfl) rfl rfl hl.1 rfl (lv_room (Nat.le_of_ble_eq_true rfl)) dL_law_638 ⟨Nat.le_of_ble_eq_true rfl, Nat.le_of_ble_eq_true rfl⟩) (List.Perm.refl _) hP hD hS hA (fun r1 x1 H locs hw1 hP hD hS => ?_)
    have hw1 : xP_twoOfThree (xs (i + 1)) (xs (i + 2)) (nI 1) zx x1 r1 := hw1
    refine lv_aload_n hx hb dL_law_641 rfl (lv_at hl 2 rfl) ?_
    refine lv_aload_n hx hb dL_law_642 rfl (lv_at hl 0 rfl) ?_
    refine lv_iload_n hx hb dL_law_643 rfl (lv_at hl 3 rfl) ?_
    refine lv_iconst (v := nI 1) hx hb dL_law_644 (by decide) ?_
    refine lv_iadd hx hb dL_law_645 ?_
    refine top_i (y := nI (i + 1)) (nI_add _ _) ?_
    refine sld hx hb hX hbl hbA hS (j := i + 1) (by omega) hL dL_law_646 ?_
    refine lv_aload_n hx hb dL_law_647 rfl (lv_at hl 0 rfl) ?_
    refine lv_iload_n hx hb dL_law_648 rfl (lv_at hl 3 rfl) ?_
    refine lv_iconst (v := nI 2) hx hb dL_law_649 (by decide) ?_
    refine lv_iadd hx hb dL_law_650 ?_
    refine top_i (y := nI (i + 2)) (nI_add _ _) ?_
    refine sld hx hb hX hbl hbA hS (j := i + 2) (by omega) hL dL_law_651 ?_
    refine lv_aload_n hx hb dL_law_652 rfl (lv_at hl 0 rfl) ?_
    refine lv_iload_n hx hb dL_law_653 rfl (lv_at hl 3 rfl) ?_
    refine lv_iconst (v := nI 3) hx hb dL_law_654 (by decide) ?_
    refine lv_iadd hx hb dL_law_655 ?_
    refine top_i (y := nI (i + 3)) (nI_add _ _) ?_
    refine sld hx hb hX hbl hbA hS (j := i + 3) (by omega) hL dL_law_656 ?_
    refine lv_if_eq (tgt := 664) hx hb dL_law_657 (by decide) (fun c9 => absurd c9 ck) (fun _ => ?_)
    refine lv_iconst (v := nI 1) hx hb dL_law_660 (by decide) ?_
    refine lv_goto (tgt := 665) hx hb dL_law_661 (by decide) ?_
    refine aftW_l (wa := mW cI cJ cZ g zm) (wb := xW cI cJ cZ cS ad ba ka x1) (va_runV (As := [.int (xs (i + 1)), .int (xs (i + 2)), .int (nI 1)]) (rest := [.long r1]) ⟨hx, hb, hml, hown, hts⟩ (m_twoOfThree g zx zm (xs (i + 1)) (xs (i + 2)) (nI 1) hR _) (cwV 3 hts gL_law_X10_twoOfThree rfl rfl rfl (by decide +kernel) ⟨Nat.le_of_ble_eq_true rfl, Nat.le_of_ble_eq_true rfl⟩) (preW (cq := (RX10, TX10, 31)) (ci := 10) List.perm_append_comm hK hP hD (mW_head zm) rfl) rfl rfl hl.1 rfl (lv_room (Nat.le_of_ble_eq_true rfl)) dL_law_665 ⟨Nat.le_of_ble_eq_true rfl, Nat.le_of_ble_eq_true rfl⟩) List.perm_append_comm hP hD hS hA (fun r2 m1 H locs hw2 hP hD hS => ?_)
    have hw2 : mP_twoOfThree (xs (i + 1)) (xs (i + 2)) (nI 1) zm m1 r2 := hw2
    have hst := st_twoOfThree hR hw1 hw2
    refine W.lcmp hx hb dL_law_668 ?_
    refine lv_if_eq (tgt := 894) hx hb dL_law_669 (by decide) (fun _ => ?_) (fun c9 => absurd hst.1 (lc_eqF c9))
    exact K x1 m1 H locs ls (va_P_perm List.perm_append_comm hP) (va_D_perm List.perm_append_comm hD) hS hst.2 hl
set_option maxHeartbeats 4000000 in
set_option maxRecDepth 100000 in
theorem lc_help {p : Program} {l : Launch} {e : Env} {s : State} {m : MethodId} {below : List Frame} {meth : Method} {c : Code} {G : va_G} {cI cJ cZ cS : ClassId} {ad ba ka : Nat → Nat → Nat} {g : Nat → Nat} {b L i : Nat} {xs : Nat → Int32} (hC : LC p s m meth c G cI cJ cZ cS b L xs) (hi : i + 5 ≤ L) (K : LG p l e s m below meth c G cI cJ cZ cS ad ba ka g b i 894) : LG p l e s m below meth c G cI cJ cZ cS ad ba ka g b i 674 := by
  intro zx zm H locs ls hP hD hS hR hl
  obtain ⟨hx, hb, hml, hown, hts, hK, hX, hbl, hL, -, -⟩ := hC
  have hA : ∀ q : Nat, s.heap.size ≤ q → (fun q : Nat => s.heap.size ≤ q) q := fun _ h => h
  have hbA : ¬ (fun q : Nat => s.heap.size ≤ q) b := Nat.not_le.mpr hbl
  refine lv_aload_n hx hb dL_law_674 rfl (lv_at hl 1 rfl) ?_
  refine lv_aload_n hx hb dL_law_675 rfl (lv_at hl 0 rfl) ?_
  refine lv_iload_n hx hb dL_law_676 rfl (lv_at hl 3 rfl) ?_
  refine lv_iconst (v := nI 1) hx hb dL_law_677 (by decide) ?_
  refine lv_iadd hx hb dL_law_678 ?_
  refine top_i (y := nI (i + 1)) (nI_add _ _) ?_
  refine sld hx hb hX hbl hbA hS (j := i + 1) (by omega) hL dL_law_679 ?_
  refine aftW_i (wa := xW cI cJ cZ cS ad ba ka zx) (wb := mW cI cJ cZ g zm) (va_runV (As := [.int (xs (i + 1))]) (rest := []) ⟨hx, hb, hml, hown, hts⟩ (x_help ad ba ka zx zm (xs (i + 1)) hR _) (cwV 1 hts gL_law_X9_help rfl rfl rfl (by decide +kernel) ⟨Nat.le_of_ble_eq_true rfl, Nat.le_of_ble_eq_true rfl⟩) (preW (cq := (RX9, TX9, 11)) (ci := 9) (List.Perm.refl _) hK hP hD (xW_head zx) rfl) rfl rfl hl.1 rfl (lv_room (Nat.le_of_ble_eq_true rfl)) dL_law_680 ⟨Nat.le_of_ble_eq_true rfl, Nat.le_of_ble_eq_true rfl⟩) (List.Perm.refl _) hP hD hS hA (fun r1 x1 H locs hw1 hP hD hS => ?_)
  have hw1 : xP_help (xs (i + 1)) zx x1 r1 := hw1
  refine lv_aload_n hx hb dL_law_683 rfl (lv_at hl 2 rfl) ?_
  refine lv_aload_n hx hb dL_law_684 rfl (lv_at hl 0 rfl) ?_
  refine lv_iload_n hx hb dL_law_685 rfl (lv_at hl 3 rfl) ?_
  refine lv_iconst (v := nI 1) hx hb dL_law_686 (by decide) ?_
  refine lv_iadd hx hb dL_law_687 ?_
  refine top_i (y := nI (i + 1)) (nI_add _ _) ?_
  refine sld hx hb hX hbl hbA hS (j := i + 1) (by omega) hL dL_law_688 ?_
  refine aftW_i (wa := mW cI cJ cZ g zm) (wb := xW cI cJ cZ cS ad ba ka x1) (va_runV (As := [.int (xs (i + 1))]) (rest := [.int r1]) ⟨hx, hb, hml, hown, hts⟩ (m_help g zx zm (xs (i + 1)) hR _) (cwV 1 hts gL_law_X10_help rfl rfl rfl (by decide +kernel) ⟨Nat.le_of_ble_eq_true rfl, Nat.le_of_ble_eq_true rfl⟩) (preW (cq := (RX10, TX10, 31)) (ci := 10) List.perm_append_comm hK hP hD (mW_head zm) rfl) rfl rfl hl.1 rfl (lv_room (Nat.le_of_ble_eq_true rfl)) dL_law_689 ⟨Nat.le_of_ble_eq_true rfl, Nat.le_of_ble_eq_true rfl⟩) List.perm_append_comm hP hD hS hA (fun r2 m1 H locs hw2 hP hD hS => ?_)
  have hw2 : mP_help (xs (i + 1)) zm m1 r2 := hw2
  have hst := st_help hR hw1 hw2
  refine lv_icmp_eq (tgt := 894) hx hb dL_law_692 (by decide) (fun _ => ?_) (fun c9 => absurd hst.1 c9)
  exact K x1 m1 H locs ls (va_P_perm List.perm_append_comm hP) (va_D_perm List.perm_append_comm hD) hS hst.2 hl
set_option maxHeartbeats 4000000 in
set_option maxRecDepth 100000 in
theorem lc_trace {p : Program} {l : Launch} {e : Env} {s : State} {m : MethodId} {below : List Frame} {meth : Method} {c : Code} {G : va_G} {cI cJ cZ cS : ClassId} {ad ba ka : Nat → Nat → Nat} {g : Nat → Nat} {b L i : Nat} {xs : Nat → Int32} (hC : LC p s m meth c G cI cJ cZ cS b L xs) (hi : i + 5 ≤ L) (K : LG p l e s m below meth c G cI cJ cZ cS ad ba ka g b i 894) : LG p l e s m below meth c G cI cJ cZ cS ad ba ka g b i 697 := by
  intro zx zm H locs ls hP hD hS hR hl
  obtain ⟨hx, hb, hml, hown, hts, hK, hX, hbl, hL, -, -⟩ := hC
  have hA : ∀ q : Nat, s.heap.size ≤ q → (fun q : Nat => s.heap.size ≤ q) q := fun _ h => h
  have hbA : ¬ (fun q : Nat => s.heap.size ≤ q) b := Nat.not_le.mpr hbl
  refine lv_aload_n hx hb dL_law_697 rfl (lv_at hl 1 rfl) ?_
  refine lv_aload_n hx hb dL_law_698 rfl (lv_at hl 0 rfl) ?_
  refine lv_iload_n hx hb dL_law_699 rfl (lv_at hl 3 rfl) ?_
  refine lv_iconst (v := nI 1) hx hb dL_law_700 (by decide) ?_
  refine lv_iadd hx hb dL_law_701 ?_
  refine top_i (y := nI (i + 1)) (nI_add _ _) ?_
  refine sld hx hb hX hbl hbA hS (j := i + 1) (by omega) hL dL_law_702 ?_
  refine lv_aload_n hx hb dL_law_703 rfl (lv_at hl 0 rfl) ?_
  refine lv_iload_n hx hb dL_law_704 rfl (lv_at hl 3 rfl) ?_
  refine lv_iconst (v := nI 2) hx hb dL_law_705 (by decide) ?_
  refine lv_iadd hx hb dL_law_706 ?_
  refine top_i (y := nI (i + 2)) (nI_add _ _) ?_
  refine sld hx hb hX hbl hbA hS (j := i + 2) (by omega) hL dL_law_707 ?_
  refine lv_aload_n hx hb dL_law_708 rfl (lv_at hl 0 rfl) ?_
  refine lv_iload_n hx hb dL_law_709 rfl (lv_at hl 3 rfl) ?_
  refine lv_iconst (v := nI 3) hx hb dL_law_710 (by decide) ?_
  refine lv_iadd hx hb dL_law_711 ?_
  refine top_i (y := nI (i + 3)) (nI_add _ _) ?_
  refine sld hx hb hX hbl hbA hS (j := i + 3) (by omega) hL dL_law_712 ?_
  refine lv_if_eq (tgt := 720) hx hb dL_law_713 (by decide) (fun ck => ?_) (fun ck => ?_)
  · skip
    refine lv_iconst (v := nI 0) hx hb dL_law_720 (by decide) ?_
    refine aftW_i (wa := xW cI cJ cZ cS ad ba ka zx) (wb := mW cI cJ cZ g zm) (va_runV (As := [.int (xs (i + 1)), .int (xs (i + 2)), .int (nI 0)]) (rest := []) ⟨hx, hb, hml, hown, hts⟩ (x_trace ad ba ka zx zm (xs (i + 1)) (xs (i + 2)) 0 (by decide) hR _) (cwV 3 hts gL_law_X9_trace rfl rfl rfl (by decide +kernel) ⟨Nat.le_of_ble_eq_true rfl, Nat.le_of_ble_eq_true rfl⟩) (preW (cq := (RX9, TX9, 11)) (ci := 9) (List.Perm.refl _) hK hP hD (xW_head zx) rfl) rfl rfl hl.1 rfl (lv_room (Nat.le_of_ble_eq_true rfl)) dL_law_721 ⟨Nat.le_of_ble_eq_true rfl, Nat.le_of_ble_eq_true rfl⟩) (List.Perm.refl _) hP hD hS hA (fun r1 x1 H locs hw1 hP hD hS => ?_)
    have hw1 : xP_trace (xs (i + 1)) (xs (i + 2)) 0 zx x1 r1 := hw1
    refine lv_aload_n hx hb dL_law_724 rfl (lv_at hl 2 rfl) ?_
    refine lv_aload_n hx hb dL_law_725 rfl (lv_at hl 0 rfl) ?_
    refine lv_iload_n hx hb dL_law_726 rfl (lv_at hl 3 rfl) ?_
    refine lv_iconst (v := nI 1) hx hb dL_law_727 (by decide) ?_
    refine lv_iadd hx hb dL_law_728 ?_
    refine top_i (y := nI (i + 1)) (nI_add _ _) ?_
    refine sld hx hb hX hbl hbA hS (j := i + 1) (by omega) hL dL_law_729 ?_
    refine lv_aload_n hx hb dL_law_730 rfl (lv_at hl 0 rfl) ?_
    refine lv_iload_n hx hb dL_law_731 rfl (lv_at hl 3 rfl) ?_
    refine lv_iconst (v := nI 2) hx hb dL_law_732 (by decide) ?_
    refine lv_iadd hx hb dL_law_733 ?_
    refine top_i (y := nI (i + 2)) (nI_add _ _) ?_
    refine sld hx hb hX hbl hbA hS (j := i + 2) (by omega) hL dL_law_734 ?_
    refine lv_aload_n hx hb dL_law_735 rfl (lv_at hl 0 rfl) ?_
    refine lv_iload_n hx hb dL_law_736 rfl (lv_at hl 3 rfl) ?_
    refine lv_iconst (v := nI 3) hx hb dL_law_737 (by decide) ?_
    refine lv_iadd hx hb dL_law_738 ?_
    refine top_i (y := nI (i + 3)) (nI_add _ _) ?_
    refine sld hx hb hX hbl hbA hS (j := i + 3) (by omega) hL dL_law_739 ?_
    refine lv_if_eq (tgt := 747) hx hb dL_law_740 (by decide) (fun _ => ?_) (fun c9 => absurd ck c9)
    refine lv_iconst (v := nI 0) hx hb dL_law_747 (by decide) ?_
    refine aftW_i (wa := mW cI cJ cZ g zm) (wb := xW cI cJ cZ cS ad ba ka x1) (va_runV (As := [.int (xs (i + 1)), .int (xs (i + 2)), .int (nI 0)]) (rest := [.int r1]) ⟨hx, hb, hml, hown, hts⟩ (m_trace g zx zm (xs (i + 1)) (xs (i + 2)) 0 (by decide) hR _) (cwV 3 hts gL_law_X10_trace rfl rfl rfl (by decide +kernel) ⟨Nat.le_of_ble_eq_true rfl, Nat.le_of_ble_eq_true rfl⟩) (preW (cq := (RX10, TX10, 31)) (ci := 10) List.perm_append_comm hK hP hD (mW_head zm) rfl) rfl rfl hl.1 rfl (lv_room (Nat.le_of_ble_eq_true rfl)) dL_law_748 ⟨Nat.le_of_ble_eq_true rfl, Nat.le_of_ble_eq_true rfl⟩) List.perm_append_comm hP hD hS hA (fun r2 m1 H locs hw2 hP hD hS => ?_)
    have hw2 : mP_trace (xs (i + 1)) (xs (i + 2)) 0 zm m1 r2 := hw2
    have hst := st_trace (by decide) hR hw1 hw2
    refine lv_icmp_eq (tgt := 894) hx hb dL_law_751 (by decide) (fun _ => ?_) (fun c9 => absurd hst.1 c9)
    exact K x1 m1 H locs ls (va_P_perm List.perm_append_comm hP) (va_D_perm List.perm_append_comm hD) hS hst.2 hl
  · skip
    refine lv_iconst (v := nI 1) hx hb dL_law_716 (by decide) ?_
    refine lv_goto (tgt := 721) hx hb dL_law_717 (by decide) ?_
    refine aftW_i (wa := xW cI cJ cZ cS ad ba ka zx) (wb := mW cI cJ cZ g zm) (va_runV (As := [.int (xs (i + 1)), .int (xs (i + 2)), .int (nI 1)]) (rest := []) ⟨hx, hb, hml, hown, hts⟩ (x_trace ad ba ka zx zm (xs (i + 1)) (xs (i + 2)) 1 (by decide) hR _) (cwV 3 hts gL_law_X9_trace rfl rfl rfl (by decide +kernel) ⟨Nat.le_of_ble_eq_true rfl, Nat.le_of_ble_eq_true rfl⟩) (preW (cq := (RX9, TX9, 11)) (ci := 9) (List.Perm.refl _) hK hP hD (xW_head zx) rfl) rfl rfl hl.1 rfl (lv_room (Nat.le_of_ble_eq_true rfl)) dL_law_721 ⟨Nat.le_of_ble_eq_true rfl, Nat.le_of_ble_eq_true rfl⟩) (List.Perm.refl _) hP hD hS hA (fun r1 x1 H locs hw1 hP hD hS => ?_)
    have hw1 : xP_trace (xs (i + 1)) (xs (i + 2)) 1 zx x1 r1 := hw1
    refine lv_aload_n hx hb dL_law_724 rfl (lv_at hl 2 rfl) ?_
    refine lv_aload_n hx hb dL_law_725 rfl (lv_at hl 0 rfl) ?_
    refine lv_iload_n hx hb dL_law_726 rfl (lv_at hl 3 rfl) ?_
    refine lv_iconst (v := nI 1) hx hb dL_law_727 (by decide) ?_
    refine lv_iadd hx hb dL_law_728 ?_
    refine top_i (y := nI (i + 1)) (nI_add _ _) ?_
    refine sld hx hb hX hbl hbA hS (j := i + 1) (by omega) hL dL_law_729 ?_
    refine lv_aload_n hx hb dL_law_730 rfl (lv_at hl 0 rfl) ?_
    refine lv_iload_n hx hb dL_law_731 rfl (lv_at hl 3 rfl) ?_
    refine lv_iconst (v := nI 2) hx hb dL_law_732 (by decide) ?_
    refine lv_iadd hx hb dL_law_733 ?_
    refine top_i (y := nI (i + 2)) (nI_add _ _) ?_
    refine sld hx hb hX hbl hbA hS (j := i + 2) (by omega) hL dL_law_734 ?_
    refine lv_aload_n hx hb dL_law_735 rfl (lv_at hl 0 rfl) ?_
    refine lv_iload_n hx hb dL_law_736 rfl (lv_at hl 3 rfl) ?_
    refine lv_iconst (v := nI 3) hx hb dL_law_737 (by decide) ?_
    refine lv_iadd hx hb dL_law_738 ?_
    refine top_i (y := nI (i + 3)) (nI_add _ _) ?_
    refine sld hx hb hX hbl hbA hS (j := i + 3) (by omega) hL dL_law_739 ?_
    refine lv_if_eq (tgt := 747) hx hb dL_law_740 (by decide) (fun c9 => absurd c9 ck) (fun _ => ?_)
    refine lv_iconst (v := nI 1) hx hb dL_law_743 (by decide) ?_
    refine lv_goto (tgt := 748) hx hb dL_law_744 (by decide) ?_
    refine aftW_i (wa := mW cI cJ cZ g zm) (wb := xW cI cJ cZ cS ad ba ka x1) (va_runV (As := [.int (xs (i + 1)), .int (xs (i + 2)), .int (nI 1)]) (rest := [.int r1]) ⟨hx, hb, hml, hown, hts⟩ (m_trace g zx zm (xs (i + 1)) (xs (i + 2)) 1 (by decide) hR _) (cwV 3 hts gL_law_X10_trace rfl rfl rfl (by decide +kernel) ⟨Nat.le_of_ble_eq_true rfl, Nat.le_of_ble_eq_true rfl⟩) (preW (cq := (RX10, TX10, 31)) (ci := 10) List.perm_append_comm hK hP hD (mW_head zm) rfl) rfl rfl hl.1 rfl (lv_room (Nat.le_of_ble_eq_true rfl)) dL_law_748 ⟨Nat.le_of_ble_eq_true rfl, Nat.le_of_ble_eq_true rfl⟩) List.perm_append_comm hP hD hS hA (fun r2 m1 H locs hw2 hP hD hS => ?_)
    have hw2 : mP_trace (xs (i + 1)) (xs (i + 2)) 1 zm m1 r2 := hw2
    have hst := st_trace (by decide) hR hw1 hw2
    refine lv_icmp_eq (tgt := 894) hx hb dL_law_751 (by decide) (fun _ => ?_) (fun c9 => absurd hst.1 c9)
    exact K x1 m1 H locs ls (va_P_perm List.perm_append_comm hP) (va_D_perm List.perm_append_comm hD) hS hst.2 hl
set_option maxHeartbeats 4000000 in
set_option maxRecDepth 100000 in
theorem lc_untrace {p : Program} {l : Launch} {e : Env} {s : State} {m : MethodId} {below : List Frame} {meth : Method} {c : Code} {G : va_G} {cI cJ cZ cS : ClassId} {ad ba ka : Nat → Nat → Nat} {g : Nat → Nat} {b L i : Nat} {xs : Nat → Int32} (hC : LC p s m meth c G cI cJ cZ cS b L xs) (hi : i + 5 ≤ L) (K : LG p l e s m below meth c G cI cJ cZ cS ad ba ka g b i 894) : LG p l e s m below meth c G cI cJ cZ cS ad ba ka g b i 756 := by
  intro zx zm H locs ls hP hD hS hR hl
  obtain ⟨hx, hb, hml, hown, hts, hK, hX, hbl, hL, -, -⟩ := hC
  have hA : ∀ q : Nat, s.heap.size ≤ q → (fun q : Nat => s.heap.size ≤ q) q := fun _ h => h
  have hbA : ¬ (fun q : Nat => s.heap.size ≤ q) b := Nat.not_le.mpr hbl
  refine lv_aload_n hx hb dL_law_756 rfl (lv_at hl 1 rfl) ?_
  refine aftW_i (wa := xW cI cJ cZ cS ad ba ka zx) (wb := mW cI cJ cZ g zm) (va_runV (As := []) (rest := []) ⟨hx, hb, hml, hown, hts⟩ (x_untrace ad ba ka zx zm  hR _) (cwV 0 hts gL_law_X9_untrace rfl rfl rfl (by decide +kernel) ⟨Nat.le_of_ble_eq_true rfl, Nat.le_of_ble_eq_true rfl⟩) (preW (cq := (RX9, TX9, 11)) (ci := 9) (List.Perm.refl _) hK hP hD (xW_head zx) rfl) rfl rfl hl.1 rfl (lv_room (Nat.le_of_ble_eq_true rfl)) dL_law_757 ⟨Nat.le_of_ble_eq_true rfl, Nat.le_of_ble_eq_true rfl⟩) (List.Perm.refl _) hP hD hS hA (fun r1 x1 H locs hw1 hP hD hS => ?_)
  have hw1 : xP_untrace  zx x1 r1 := hw1
  refine lv_aload_n hx hb dL_law_760 rfl (lv_at hl 2 rfl) ?_
  refine aftW_i (wa := mW cI cJ cZ g zm) (wb := xW cI cJ cZ cS ad ba ka x1) (va_runV (As := []) (rest := [.int r1]) ⟨hx, hb, hml, hown, hts⟩ (m_untrace g zx zm  hR _) (cwV 0 hts gL_law_X10_untrace rfl rfl rfl (by decide +kernel) ⟨Nat.le_of_ble_eq_true rfl, Nat.le_of_ble_eq_true rfl⟩) (preW (cq := (RX10, TX10, 31)) (ci := 10) List.perm_append_comm hK hP hD (mW_head zm) rfl) rfl rfl hl.1 rfl (lv_room (Nat.le_of_ble_eq_true rfl)) dL_law_761 ⟨Nat.le_of_ble_eq_true rfl, Nat.le_of_ble_eq_true rfl⟩) List.perm_append_comm hP hD hS hA (fun r2 m1 H locs hw2 hP hD hS => ?_)
  have hw2 : mP_untrace  zm m1 r2 := hw2
  have hst := st_untrace hR hw1 hw2
  refine lv_icmp_eq (tgt := 894) hx hb dL_law_764 (by decide) (fun _ => ?_) (fun c9 => absurd hst.1 c9)
  exact K x1 m1 H locs ls (va_P_perm List.perm_append_comm hP) (va_D_perm List.perm_append_comm hD) hS hst.2 hl
set_option maxHeartbeats 4000000 in
set_option maxRecDepth 100000 in
theorem lc_fits {p : Program} {l : Launch} {e : Env} {s : State} {m : MethodId} {below : List Frame} {meth : Method} {c : Code} {G : va_G} {cI cJ cZ cS : ClassId} {ad ba ka : Nat → Nat → Nat} {g : Nat → Nat} {b L i : Nat} {xs : Nat → Int32} (hC : LC p s m meth c G cI cJ cZ cS b L xs) (hi : i + 5 ≤ L) (K : LG p l e s m below meth c G cI cJ cZ cS ad ba ka g b i 894) : LG p l e s m below meth c G cI cJ cZ cS ad ba ka g b i 769 := by
  intro zx zm H locs ls hP hD hS hR hl
  obtain ⟨hx, hb, hml, hown, hts, hK, hX, hbl, hL, -, -⟩ := hC
  have hA : ∀ q : Nat, s.heap.size ≤ q → (fun q : Nat => s.heap.size ≤ q) q := fun _ h => h
  have hbA : ¬ (fun q : Nat => s.heap.size ≤ q) b := Nat.not_le.mpr hbl
  refine lv_aload_n hx hb dL_law_769 rfl (lv_at hl 1 rfl) ?_
  refine aftW_i (wa := xW cI cJ cZ cS ad ba ka zx) (wb := mW cI cJ cZ g zm) (va_runV (As := []) (rest := []) ⟨hx, hb, hml, hown, hts⟩ (x_fits ad ba ka zx zm  hR _) (cwV 0 hts gL_law_X9_fits rfl rfl rfl (by decide +kernel) ⟨Nat.le_of_ble_eq_true rfl, Nat.le_of_ble_eq_true rfl⟩) (preW (cq := (RX9, TX9, 11)) (ci := 9) (List.Perm.refl _) hK hP hD (xW_head zx) rfl) rfl rfl hl.1 rfl (lv_room (Nat.le_of_ble_eq_true rfl)) dL_law_770 ⟨Nat.le_of_ble_eq_true rfl, Nat.le_of_ble_eq_true rfl⟩) (List.Perm.refl _) hP hD hS hA (fun r1 x1 H locs hw1 hP hD hS => ?_)
  have hw1 : xP_fits  zx x1 r1 := hw1
  refine lv_aload_n hx hb dL_law_773 rfl (lv_at hl 2 rfl) ?_
  refine aftW_i (wa := mW cI cJ cZ g zm) (wb := xW cI cJ cZ cS ad ba ka x1) (va_runV (As := []) (rest := [.int r1]) ⟨hx, hb, hml, hown, hts⟩ (m_fits g zx zm  hR _) (cwV 0 hts gL_law_X10_fits rfl rfl rfl (by decide +kernel) ⟨Nat.le_of_ble_eq_true rfl, Nat.le_of_ble_eq_true rfl⟩) (preW (cq := (RX10, TX10, 31)) (ci := 10) List.perm_append_comm hK hP hD (mW_head zm) rfl) rfl rfl hl.1 rfl (lv_room (Nat.le_of_ble_eq_true rfl)) dL_law_774 ⟨Nat.le_of_ble_eq_true rfl, Nat.le_of_ble_eq_true rfl⟩) List.perm_append_comm hP hD hS hA (fun r2 m1 H locs hw2 hP hD hS => ?_)
  have hw2 : mP_fits  zm m1 r2 := hw2
  have hst := st_fits hR hw1 hw2
  refine lv_icmp_eq (tgt := 894) hx hb dL_law_777 (by decide) (fun _ => ?_) (fun c9 => absurd hst.1 c9)
  exact K x1 m1 H locs ls (va_P_perm List.perm_append_comm hP) (va_D_perm List.perm_append_comm hD) hS hst.2 hl
set_option maxHeartbeats 4000000 in
set_option maxRecDepth 100000 in
theorem lc_told {p : Program} {l : Launch} {e : Env} {s : State} {m : MethodId} {below : List Frame} {meth : Method} {c : Code} {G : va_G} {cI cJ cZ cS : ClassId} {ad ba ka : Nat → Nat → Nat} {g : Nat → Nat} {b L i : Nat} {xs : Nat → Int32} (hC : LC p s m meth c G cI cJ cZ cS b L xs) (hi : i + 5 ≤ L) (K : LG p l e s m below meth c G cI cJ cZ cS ad ba ka g b i 894) : LG p l e s m below meth c G cI cJ cZ cS ad ba ka g b i 782 := by
  intro zx zm H locs ls hP hD hS hR hl
  obtain ⟨hx, hb, hml, hown, hts, hK, hX, hbl, hL, -, -⟩ := hC
  have hA : ∀ q : Nat, s.heap.size ≤ q → (fun q : Nat => s.heap.size ≤ q) q := fun _ h => h
  have hbA : ¬ (fun q : Nat => s.heap.size ≤ q) b := Nat.not_le.mpr hbl
  refine lv_aload_n hx hb dL_law_782 rfl (lv_at hl 1 rfl) ?_
  refine aftW_i (wa := xW cI cJ cZ cS ad ba ka zx) (wb := mW cI cJ cZ g zm) (va_runV (As := []) (rest := []) ⟨hx, hb, hml, hown, hts⟩ (x_told ad ba ka zx zm  hR _) (cwV 0 hts gL_law_X9_told rfl rfl rfl (by decide +kernel) ⟨Nat.le_of_ble_eq_true rfl, Nat.le_of_ble_eq_true rfl⟩) (preW (cq := (RX9, TX9, 11)) (ci := 9) (List.Perm.refl _) hK hP hD (xW_head zx) rfl) rfl rfl hl.1 rfl (lv_room (Nat.le_of_ble_eq_true rfl)) dL_law_783 ⟨Nat.le_of_ble_eq_true rfl, Nat.le_of_ble_eq_true rfl⟩) (List.Perm.refl _) hP hD hS hA (fun r1 x1 H locs hw1 hP hD hS => ?_)
  have hw1 : xP_told  zx x1 r1 := hw1
  refine lv_aload_n hx hb dL_law_786 rfl (lv_at hl 2 rfl) ?_
  refine aftW_i (wa := mW cI cJ cZ g zm) (wb := xW cI cJ cZ cS ad ba ka x1) (va_runV (As := []) (rest := [.int r1]) ⟨hx, hb, hml, hown, hts⟩ (m_told g zx zm  hR _) (cwV 0 hts gL_law_X10_told rfl rfl rfl (by decide +kernel) ⟨Nat.le_of_ble_eq_true rfl, Nat.le_of_ble_eq_true rfl⟩) (preW (cq := (RX10, TX10, 31)) (ci := 10) List.perm_append_comm hK hP hD (mW_head zm) rfl) rfl rfl hl.1 rfl (lv_room (Nat.le_of_ble_eq_true rfl)) dL_law_787 ⟨Nat.le_of_ble_eq_true rfl, Nat.le_of_ble_eq_true rfl⟩) List.perm_append_comm hP hD hS hA (fun r2 m1 H locs hw2 hP hD hS => ?_)
  have hw2 : mP_told  zm m1 r2 := hw2
  have hst := st_told hR hw1 hw2
  refine lv_icmp_eq (tgt := 894) hx hb dL_law_790 (by decide) (fun _ => ?_) (fun c9 => absurd hst.1 c9)
  exact K x1 m1 H locs ls (va_P_perm List.perm_append_comm hP) (va_D_perm List.perm_append_comm hD) hS hst.2 hl
set_option maxHeartbeats 4000000 in
set_option maxRecDepth 100000 in
theorem lc_drill {p : Program} {l : Launch} {e : Env} {s : State} {m : MethodId} {below : List Frame} {meth : Method} {c : Code} {G : va_G} {cI cJ cZ cS : ClassId} {ad ba ka : Nat → Nat → Nat} {g : Nat → Nat} {b L i : Nat} {xs : Nat → Int32} (hC : LC p s m meth c G cI cJ cZ cS b L xs) (hi : i + 5 ≤ L) (K : LG p l e s m below meth c G cI cJ cZ cS ad ba ka g b i 894) : LG p l e s m below meth c G cI cJ cZ cS ad ba ka g b i 795 := by
  intro zx zm H locs ls hP hD hS hR hl
  obtain ⟨hx, hb, hml, hown, hts, hK, hX, hbl, hL, -, -⟩ := hC
  have hA : ∀ q : Nat, s.heap.size ≤ q → (fun q : Nat => s.heap.size ≤ q) q := fun _ h => h
  have hbA : ¬ (fun q : Nat => s.heap.size ≤ q) b := Nat.not_le.mpr hbl
  refine lv_aload_n hx hb dL_law_795 rfl (lv_at hl 1 rfl) ?_
  refine lv_aload_n hx hb dL_law_796 rfl (lv_at hl 0 rfl) ?_
  refine lv_iload_n hx hb dL_law_797 rfl (lv_at hl 3 rfl) ?_
  refine lv_iconst (v := nI 1) hx hb dL_law_798 (by decide) ?_
  refine lv_iadd hx hb dL_law_799 ?_
  refine top_i (y := nI (i + 1)) (nI_add _ _) ?_
  refine sld hx hb hX hbl hbA hS (j := i + 1) (by omega) hL dL_law_800 ?_
  refine lv_aload_n hx hb dL_law_801 rfl (lv_at hl 0 rfl) ?_
  refine lv_iload_n hx hb dL_law_802 rfl (lv_at hl 3 rfl) ?_
  refine lv_iconst (v := nI 2) hx hb dL_law_803 (by decide) ?_
  refine lv_iadd hx hb dL_law_804 ?_
  refine top_i (y := nI (i + 2)) (nI_add _ _) ?_
  refine sld hx hb hX hbl hbA hS (j := i + 2) (by omega) hL dL_law_805 ?_
  refine lv_aload_n hx hb dL_law_806 rfl (lv_at hl 0 rfl) ?_
  refine lv_iload_n hx hb dL_law_807 rfl (lv_at hl 3 rfl) ?_
  refine lv_iconst (v := nI 3) hx hb dL_law_808 (by decide) ?_
  refine lv_iadd hx hb dL_law_809 ?_
  refine top_i (y := nI (i + 3)) (nI_add _ _) ?_
  refine sld hx hb hX hbl hbA hS (j := i + 3) (by omega) hL dL_law_810 ?_
  refine lv_aload_n hx hb dL_law_811 rfl (lv_at hl 0 rfl) ?_
  refine lv_iload_n hx hb dL_law_812 rfl (lv_at hl 3 rfl) ?_
  refine lv_iconst (v := nI 4) hx hb dL_law_813 (by decide) ?_
  refine lv_iadd hx hb dL_law_814 ?_
  refine top_i (y := nI (i + 4)) (nI_add _ _) ?_
  refine sld hx hb hX hbl hbA hS (j := i + 4) (by omega) hL dL_law_815 ?_
  refine aftW_i (wa := xW cI cJ cZ cS ad ba ka zx) (wb := mW cI cJ cZ g zm) (va_runV (As := [.int (xs (i + 1)), .int (xs (i + 2)), .int (xs (i + 3)), .int (xs (i + 4))]) (rest := []) ⟨hx, hb, hml, hown, hts⟩ (x_drill ad ba ka zx zm (xs (i + 1)) (xs (i + 2)) (xs (i + 3)) (xs (i + 4)) hR _) (cwV 4 hts gL_law_X9_drill rfl rfl rfl (by decide +kernel) ⟨Nat.le_of_ble_eq_true rfl, Nat.le_of_ble_eq_true rfl⟩) (preW (cq := (RX9, TX9, 11)) (ci := 9) (List.Perm.refl _) hK hP hD (xW_head zx) rfl) rfl rfl hl.1 rfl (lv_room (Nat.le_of_ble_eq_true rfl)) dL_law_816 ⟨Nat.le_of_ble_eq_true rfl, Nat.le_of_ble_eq_true rfl⟩) (List.Perm.refl _) hP hD hS hA (fun r1 x1 H locs hw1 hP hD hS => ?_)
  have hw1 : xP_drill (xs (i + 1)) (xs (i + 2)) (xs (i + 3)) (xs (i + 4)) zx x1 r1 := hw1
  refine lv_aload_n hx hb dL_law_819 rfl (lv_at hl 2 rfl) ?_
  refine lv_aload_n hx hb dL_law_820 rfl (lv_at hl 0 rfl) ?_
  refine lv_iload_n hx hb dL_law_821 rfl (lv_at hl 3 rfl) ?_
  refine lv_iconst (v := nI 1) hx hb dL_law_822 (by decide) ?_
  refine lv_iadd hx hb dL_law_823 ?_
  refine top_i (y := nI (i + 1)) (nI_add _ _) ?_
  refine sld hx hb hX hbl hbA hS (j := i + 1) (by omega) hL dL_law_824 ?_
  refine lv_aload_n hx hb dL_law_825 rfl (lv_at hl 0 rfl) ?_
  refine lv_iload_n hx hb dL_law_826 rfl (lv_at hl 3 rfl) ?_
  refine lv_iconst (v := nI 2) hx hb dL_law_827 (by decide) ?_
  refine lv_iadd hx hb dL_law_828 ?_
  refine top_i (y := nI (i + 2)) (nI_add _ _) ?_
  refine sld hx hb hX hbl hbA hS (j := i + 2) (by omega) hL dL_law_829 ?_
  refine lv_aload_n hx hb dL_law_830 rfl (lv_at hl 0 rfl) ?_
  refine lv_iload_n hx hb dL_law_831 rfl (lv_at hl 3 rfl) ?_
  refine lv_iconst (v := nI 3) hx hb dL_law_832 (by decide) ?_
  refine lv_iadd hx hb dL_law_833 ?_
  refine top_i (y := nI (i + 3)) (nI_add _ _) ?_
  refine sld hx hb hX hbl hbA hS (j := i + 3) (by omega) hL dL_law_834 ?_
  refine lv_aload_n hx hb dL_law_835 rfl (lv_at hl 0 rfl) ?_
  refine lv_iload_n hx hb dL_law_836 rfl (lv_at hl 3 rfl) ?_
  refine lv_iconst (v := nI 4) hx hb dL_law_837 (by decide) ?_
  refine lv_iadd hx hb dL_law_838 ?_
  refine top_i (y := nI (i + 4)) (nI_add _ _) ?_
  refine sld hx hb hX hbl hbA hS (j := i + 4) (by omega) hL dL_law_839 ?_
  refine aftW_i (wa := mW cI cJ cZ g zm) (wb := xW cI cJ cZ cS ad ba ka x1) (va_runV (As := [.int (xs (i + 1)), .int (xs (i + 2)), .int (xs (i + 3)), .int (xs (i + 4))]) (rest := [.int r1]) ⟨hx, hb, hml, hown, hts⟩ (m_drill g zx zm (xs (i + 1)) (xs (i + 2)) (xs (i + 3)) (xs (i + 4)) hR _) (cwV 4 hts gL_law_X10_drill rfl rfl rfl (by decide +kernel) ⟨Nat.le_of_ble_eq_true rfl, Nat.le_of_ble_eq_true rfl⟩) (preW (cq := (RX10, TX10, 31)) (ci := 10) List.perm_append_comm hK hP hD (mW_head zm) rfl) rfl rfl hl.1 rfl (lv_room (Nat.le_of_ble_eq_true rfl)) dL_law_840 ⟨Nat.le_of_ble_eq_true rfl, Nat.le_of_ble_eq_true rfl⟩) List.perm_append_comm hP hD hS hA (fun r2 m1 H locs hw2 hP hD hS => ?_)
  have hw2 : mP_drill (xs (i + 1)) (xs (i + 2)) (xs (i + 3)) (xs (i + 4)) zm m1 r2 := hw2
  have hst := st_drill hR hw1 hw2
  refine lv_icmp_eq (tgt := 894) hx hb dL_law_843 (by decide) (fun _ => ?_) (fun c9 => absurd hst.1 c9)
  exact K x1 m1 H locs ls (va_P_perm List.perm_append_comm hP) (va_D_perm List.perm_append_comm hD) hS hst.2 hl
set_option maxHeartbeats 4000000 in
set_option maxRecDepth 100000 in
theorem lc_keep {p : Program} {l : Launch} {e : Env} {s : State} {m : MethodId} {below : List Frame} {meth : Method} {c : Code} {G : va_G} {cI cJ cZ cS : ClassId} {ad ba ka : Nat → Nat → Nat} {g : Nat → Nat} {b L i : Nat} {xs : Nat → Int32} (hC : LC p s m meth c G cI cJ cZ cS b L xs) (hi : i + 5 ≤ L) (K : LG p l e s m below meth c G cI cJ cZ cS ad ba ka g b i 894) : LG p l e s m below meth c G cI cJ cZ cS ad ba ka g b i 848 := by
  intro zx zm H locs ls hP hD hS hR hl
  obtain ⟨hx, hb, hml, hown, hts, hK, hX, hbl, hL, -, -⟩ := hC
  have hA : ∀ q : Nat, s.heap.size ≤ q → (fun q : Nat => s.heap.size ≤ q) q := fun _ h => h
  have hbA : ¬ (fun q : Nat => s.heap.size ≤ q) b := Nat.not_le.mpr hbl
  refine lv_aload_n hx hb dL_law_848 rfl (lv_at hl 1 rfl) ?_
  refine lv_aload_n hx hb dL_law_849 rfl (lv_at hl 0 rfl) ?_
  refine lv_iload_n hx hb dL_law_850 rfl (lv_at hl 3 rfl) ?_
  refine lv_iconst (v := nI 1) hx hb dL_law_851 (by decide) ?_
  refine lv_iadd hx hb dL_law_852 ?_
  refine top_i (y := nI (i + 1)) (nI_add _ _) ?_
  refine sld hx hb hX hbl hbA hS (j := i + 1) (by omega) hL dL_law_853 ?_
  refine aftW_i (wa := xW cI cJ cZ cS ad ba ka zx) (wb := mW cI cJ cZ g zm) (va_runV (As := [.int (xs (i + 1))]) (rest := []) ⟨hx, hb, hml, hown, hts⟩ (x_keep ad ba ka zx zm (xs (i + 1)) hR _) (cwV 1 hts gL_law_X9_keep rfl rfl rfl (by decide +kernel) ⟨Nat.le_of_ble_eq_true rfl, Nat.le_of_ble_eq_true rfl⟩) (preW (cq := (RX9, TX9, 11)) (ci := 9) (List.Perm.refl _) hK hP hD (xW_head zx) rfl) rfl rfl hl.1 rfl (lv_room (Nat.le_of_ble_eq_true rfl)) dL_law_854 ⟨Nat.le_of_ble_eq_true rfl, Nat.le_of_ble_eq_true rfl⟩) (List.Perm.refl _) hP hD hS hA (fun r1 x1 H locs hw1 hP hD hS => ?_)
  have hw1 : xP_keep (xs (i + 1)) zx x1 r1 := hw1
  refine lv_aload_n hx hb dL_law_857 rfl (lv_at hl 2 rfl) ?_
  refine lv_aload_n hx hb dL_law_858 rfl (lv_at hl 0 rfl) ?_
  refine lv_iload_n hx hb dL_law_859 rfl (lv_at hl 3 rfl) ?_
  refine lv_iconst (v := nI 1) hx hb dL_law_860 (by decide) ?_
  refine lv_iadd hx hb dL_law_861 ?_
  refine top_i (y := nI (i + 1)) (nI_add _ _) ?_
  refine sld hx hb hX hbl hbA hS (j := i + 1) (by omega) hL dL_law_862 ?_
  refine aftW_i (wa := mW cI cJ cZ g zm) (wb := xW cI cJ cZ cS ad ba ka x1) (va_runV (As := [.int (xs (i + 1))]) (rest := [.int r1]) ⟨hx, hb, hml, hown, hts⟩ (m_keep g zx zm (xs (i + 1)) hR _) (cwV 1 hts gL_law_X10_keep rfl rfl rfl (by decide +kernel) ⟨Nat.le_of_ble_eq_true rfl, Nat.le_of_ble_eq_true rfl⟩) (preW (cq := (RX10, TX10, 31)) (ci := 10) List.perm_append_comm hK hP hD (mW_head zm) rfl) rfl rfl hl.1 rfl (lv_room (Nat.le_of_ble_eq_true rfl)) dL_law_863 ⟨Nat.le_of_ble_eq_true rfl, Nat.le_of_ble_eq_true rfl⟩) List.perm_append_comm hP hD hS hA (fun r2 m1 H locs hw2 hP hD hS => ?_)
  have hw2 : mP_keep (xs (i + 1)) zm m1 r2 := hw2
  have hst := st_keep hR hw1 hw2
  refine lv_icmp_eq (tgt := 894) hx hb dL_law_866 (by decide) (fun _ => ?_) (fun c9 => absurd hst.1 c9)
  exact K x1 m1 H locs ls (va_P_perm List.perm_append_comm hP) (va_D_perm List.perm_append_comm hD) hS hst.2 hl
set_option maxHeartbeats 4000000 in
set_option maxRecDepth 100000 in
theorem lc_again {p : Program} {l : Launch} {e : Env} {s : State} {m : MethodId} {below : List Frame} {meth : Method} {c : Code} {G : va_G} {cI cJ cZ cS : ClassId} {ad ba ka : Nat → Nat → Nat} {g : Nat → Nat} {b L i : Nat} {xs : Nat → Int32} (hC : LC p s m meth c G cI cJ cZ cS b L xs) (hi : i + 5 ≤ L) (K : LG p l e s m below meth c G cI cJ cZ cS ad ba ka g b i 894) : LG p l e s m below meth c G cI cJ cZ cS ad ba ka g b i 871 := by
  intro zx zm H locs ls hP hD hS hR hl
  obtain ⟨hx, hb, hml, hown, hts, hK, hX, hbl, hL, -, -⟩ := hC
  have hA : ∀ q : Nat, s.heap.size ≤ q → (fun q : Nat => s.heap.size ≤ q) q := fun _ h => h
  have hbA : ¬ (fun q : Nat => s.heap.size ≤ q) b := Nat.not_le.mpr hbl
  refine lv_aload_n hx hb dL_law_871 rfl (lv_at hl 1 rfl) ?_
  refine lv_aload_n hx hb dL_law_872 rfl (lv_at hl 0 rfl) ?_
  refine lv_iload_n hx hb dL_law_873 rfl (lv_at hl 3 rfl) ?_
  refine lv_iconst (v := nI 1) hx hb dL_law_874 (by decide) ?_
  refine lv_iadd hx hb dL_law_875 ?_
  refine top_i (y := nI (i + 1)) (nI_add _ _) ?_
  refine sld hx hb hX hbl hbA hS (j := i + 1) (by omega) hL dL_law_876 ?_
  refine aftW_i (wa := xW cI cJ cZ cS ad ba ka zx) (wb := mW cI cJ cZ g zm) (va_runV (As := [.int (xs (i + 1))]) (rest := []) ⟨hx, hb, hml, hown, hts⟩ (x_again ad ba ka zx zm (xs (i + 1)) hR _) (cwV 1 hts gL_law_X9_again rfl rfl rfl (by decide +kernel) ⟨Nat.le_of_ble_eq_true rfl, Nat.le_of_ble_eq_true rfl⟩) (preW (cq := (RX9, TX9, 11)) (ci := 9) (List.Perm.refl _) hK hP hD (xW_head zx) rfl) rfl rfl hl.1 rfl (lv_room (Nat.le_of_ble_eq_true rfl)) dL_law_877 ⟨Nat.le_of_ble_eq_true rfl, Nat.le_of_ble_eq_true rfl⟩) (List.Perm.refl _) hP hD hS hA (fun r1 x1 H locs hw1 hP hD hS => ?_)
  have hw1 : xP_again (xs (i + 1)) zx x1 r1 := hw1
  refine lv_aload_n hx hb dL_law_880 rfl (lv_at hl 2 rfl) ?_
  refine lv_aload_n hx hb dL_law_881 rfl (lv_at hl 0 rfl) ?_
  refine lv_iload_n hx hb dL_law_882 rfl (lv_at hl 3 rfl) ?_
  refine lv_iconst (v := nI 1) hx hb dL_law_883 (by decide) ?_
  refine lv_iadd hx hb dL_law_884 ?_
  refine top_i (y := nI (i + 1)) (nI_add _ _) ?_
  refine sld hx hb hX hbl hbA hS (j := i + 1) (by omega) hL dL_law_885 ?_
  refine aftW_i (wa := mW cI cJ cZ g zm) (wb := xW cI cJ cZ cS ad ba ka x1) (va_runV (As := [.int (xs (i + 1))]) (rest := [.int r1]) ⟨hx, hb, hml, hown, hts⟩ (m_again g zx zm (xs (i + 1)) hR _) (cwV 1 hts gL_law_X10_again rfl rfl rfl (by decide +kernel) ⟨Nat.le_of_ble_eq_true rfl, Nat.le_of_ble_eq_true rfl⟩) (preW (cq := (RX10, TX10, 31)) (ci := 10) List.perm_append_comm hK hP hD (mW_head zm) rfl) rfl rfl hl.1 rfl (lv_room (Nat.le_of_ble_eq_true rfl)) dL_law_886 ⟨Nat.le_of_ble_eq_true rfl, Nat.le_of_ble_eq_true rfl⟩) List.perm_append_comm hP hD hS hA (fun r2 m1 H locs hw2 hP hD hS => ?_)
  have hw2 : mP_again (xs (i + 1)) zm m1 r2 := hw2
  have hst := st_again hR hw1 hw2
  refine lv_icmp_eq (tgt := 894) hx hb dL_law_889 (by decide) (fun _ => ?_) (fun c9 => absurd hst.1 c9)
  exact K x1 m1 H locs ls (va_P_perm List.perm_append_comm hP) (va_D_perm List.perm_append_comm hD) hS hst.2 hl
