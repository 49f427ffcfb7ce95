def ckV (own : String) (ix : Nat) (y : MethodName) (cc : ByteArray) (maxL : Nat) (ret : Option FieldType) (n : Nat) : Prop :=
  Cond.methodLink own ix y ∈ gTbl ∧ Cond.instanceMethod y ∈ gTbl ∧ Cond.selects y.cls y y ∈ gTbl ∧ Cond.initialized y.cls ∈ gTbl ∧ Cond.code y cc maxL ret ∈ gTbl ∧ (y.cls ≠ "java/lang/invoke/MethodHandle" ∧ y.cls ≠ "java/lang/invoke/VarHandle" ∧ (parseMethodDescriptor y.desc).map (fun d => d.parameters.length) = some n)
def ckS (own : String) (ix : Nat) (y : MethodName) (cc : ByteArray) (maxL : Nat) (ret : Option FieldType) (n : Nat) : Prop :=
  Cond.methodLink own ix y ∈ gTbl ∧ Cond.static y ∈ gTbl ∧ Cond.initialized y.cls ∈ gTbl ∧ Cond.code y cc maxL ret ∈ gTbl ∧ (y.cls ≠ "java/lang/invoke/MethodHandle" ∧ y.cls ≠ "java/lang/invoke/VarHandle" ∧ (parseMethodDescriptor y.desc).map (fun d => d.parameters.length) = some n)
def ckI (own : String) (ix : Nat) (y : MethodName) (cc : ByteArray) (maxL : Nat) (n : Nat) : Prop :=
  Cond.methodLink own ix y ∈ gTbl ∧ Cond.instanceMethod y ∈ gTbl ∧ y.name = "<init>" ∧ Cond.initialized y.cls ∈ gTbl ∧ Cond.code y cc maxL none ∈ gTbl ∧ (y.cls ≠ "java/lang/invoke/MethodHandle" ∧ y.cls ≠ "java/lang/invoke/VarHandle" ∧ (parseMethodDescriptor y.desc).map (fun d => d.parameters.length) = some n)
def bz (v : Int32) : Prop := narrow .boolean (.int v) = .int v ∧ fits .boolean (.int v) = true
def xQi {S : Type} (D : va_G) (tys : List (ClassId × FieldType)) (post : Int32 → S → Prop) (Wf : S → List va_W) (A : Nat → Prop) : Array Value → State → Outcome → State → Prop := va_Qi post (fun u t => xB D tys A (Wf u) t) A
def xQl {S : Type} (D : va_G) (tys : List (ClassId × FieldType)) (post : Int64 → S → Prop) (Wf : S → List va_W) (A : Nat → Prop) : Array Value → State → Outcome → State → Prop := va_Ql post (fun u t => xB D tys A (Wf u) t) A
def xQv {S : Type} (D : va_G) (tys : List (ClassId × FieldType)) (post : S → Prop) (Wf : S → List va_W) (A : Nat → Prop) : Array Value → State → Outcome → State → Prop := va_Qv post (fun u t => xB D tys A (Wf u) t) A
theorem Met_i {S : Type} {l : Launch} {y : MethodName} {cc : ByteArray} {maxL f k n lo sz : Nat} {D : va_G} {tys : List (ClassId × FieldType)} {av : List Value} {gs : List va_W} {P : Prop} {post : Int32 → S → Prop} {Wf : S → List va_W} (hy : plainName y.cls = true) (hsl : (lg_sl av).length ≤ maxL)
    (body : ∀ (p : Program) (e : Env) (s : State) (m : MethodId) (below : List Frame) (meth : Method) (c : Code) (A : Nat → Prop) (Q : State → Prop), meth.name = y.name → xC p s m av.toArray c cc y.cls maxL D tys A →
      (∀ (pc : Nat) (r : Int32) (u : S) (lv : List (Nat × Value)), decode cc pc = .ok (.ireturn, 1) → post r u → xG p l e (rmL f k n lo) s m av.toArray below meth c D A maxL Q k n pc [.int r] (Wf u) lv) → P → xG p l e (rmL f k n lo) s m av.toArray below meth c D A maxL Q 0 0 0 [] gs (lv_args 0 av)) :
    Met l y (wsY y cc maxL (some .int)) (rmL f k n lo) (xP D tys av gs sz P) (xQi D tys post Wf (va_A gs.flatten sz)) k n (va_A gs.flatten sz) := by
  refine Met.ofW (cc := cc) (maxL := maxL) (ret := (some .int)) hy rfl ?_
  intro p e s m args below meth c s₁ B hml hv
  obtain ⟨rfl, hsz, ⟨hP, hK, hD0, hO⟩, hw⟩ := hv
  have hx := B.exec
  have hb := B.bytes
  have hr := B.returns
  have hts := atoms_spec (ws := wsY y cc maxL (some .int)) B.pre
  have hlocks := B.notSynchronized
  subst hsz
  have hD := hD0.self (sz := s.heap.size)
  have hl := lv_entry av (n := maxL) hsl
  rw [lg_entry_eq]
  exact body p e s m below meth c (va_A gs.flatten s.heap.size) _ (name_of_methodNamed B.named B.method).1 ⟨⟨hx, hb, hml, findClass_of_methodNamed B.named, fun w h => hts w (List.mem_cons_of_mem _ h)⟩, hK, fun q h => Or.inr h, hO⟩
    (fun pc r u lv d hp H locs hP hD hS ls hl => W.iret (v := r) hx hb hr (fun t ht hW => ⟨⟨r, u, rfl, hp, by rw [ht]; exact hP, va_K.moved hW.alike hK, hD, va_AO.moved hW.alike hO⟩, hS.F ht⟩) hS.2.2 d) hw s.heap [] hP hD va_S.rf _ hl
theorem Met_z {S : Type} {l : Launch} {y : MethodName} {cc : ByteArray} {maxL f k n lo sz : Nat} {D : va_G} {tys : List (ClassId × FieldType)} {av : List Value} {gs : List va_W} {P : Prop} {post : Int32 → S → Prop} {Wf : S → List va_W} (hy : plainName y.cls = true) (hsl : (lg_sl av).length ≤ maxL)
    (body : ∀ (p : Program) (e : Env) (s : State) (m : MethodId) (below : List Frame) (meth : Method) (c : Code) (A : Nat → Prop) (Q : State → Prop), meth.name = y.name → xC p s m av.toArray c cc y.cls maxL D tys A →
      (∀ (pc : Nat) (r : Int32) (u : S) (lv : List (Nat × Value)), decode cc pc = .ok (.ireturn, 1) → bz r → post r u → xG p l e (rmL f k n lo) s m av.toArray below meth c D A maxL Q k n pc [.int r] (Wf u) lv) → P → xG p l e (rmL f k n lo) s m av.toArray below meth c D A maxL Q 0 0 0 [] gs (lv_args 0 av)) :
    Met l y (wsY y cc maxL (some .boolean)) (rmL f k n lo) (xP D tys av gs sz P) (xQi D tys post Wf (va_A gs.flatten sz)) k n (va_A gs.flatten sz) := by
  refine Met.ofW (cc := cc) (maxL := maxL) (ret := (some .boolean)) hy rfl ?_
  intro p e s m args below meth c s₁ B hml hv
  obtain ⟨rfl, hsz, ⟨hP, hK, hD0, hO⟩, hw⟩ := hv
  have hx := B.exec
  have hb := B.bytes
  have hr := B.returns
  have hts := atoms_spec (ws := wsY y cc maxL (some .boolean)) B.pre
  have hlocks := B.notSynchronized
  subst hsz
  have hD := hD0.self (sz := s.heap.size)
  have hl := lv_entry av (n := maxL) hsl
  rw [lg_entry_eq]
  exact body p e s m below meth c (va_A gs.flatten s.heap.size) _ (name_of_methodNamed B.named B.method).1 ⟨⟨hx, hb, hml, findClass_of_methodNamed B.named, fun w h => hts w (List.mem_cons_of_mem _ h)⟩, hK, fun q h => Or.inr h, hO⟩
    (fun pc r u lv d hz hp H locs hP hD hS ls hl => W.zret (v := r) hx hb hr hz.1 (fun t ht hW => ⟨⟨r, u, rfl, hp, by rw [ht]; exact hP, va_K.moved hW.alike hK, hD, va_AO.moved hW.alike hO⟩, hS.F ht⟩) hS.2.2 d) hw s.heap [] hP hD va_S.rf _ hl
theorem Met_l {S : Type} {l : Launch} {y : MethodName} {cc : ByteArray} {maxL f k n lo sz : Nat} {D : va_G} {tys : List (ClassId × FieldType)} {av : List Value} {gs : List va_W} {P : Prop} {post : Int64 → S → Prop} {Wf : S → List va_W} (hy : plainName y.cls = true) (hsl : (lg_sl av).length ≤ maxL)
    (body : ∀ (p : Program) (e : Env) (s : State) (m : MethodId) (below : List Frame) (meth : Method) (c : Code) (A : Nat → Prop) (Q : State → Prop), meth.name = y.name → xC p s m av.toArray c cc y.cls maxL D tys A →
      (∀ (pc : Nat) (r : Int64) (u : S) (lv : List (Nat × Value)), decode cc pc = .ok (.lreturn, 1) → post r u → xG p l e (rmL f k n lo) s m av.toArray below meth c D A maxL Q k n pc [.long r] (Wf u) lv) → P → xG p l e (rmL f k n lo) s m av.toArray below meth c D A maxL Q 0 0 0 [] gs (lv_args 0 av)) :
    Met l y (wsY y cc maxL (some .long)) (rmL f k n lo) (xP D tys av gs sz P) (xQl D tys post Wf (va_A gs.flatten sz)) k n (va_A gs.flatten sz) := by
  refine Met.ofW (cc := cc) (maxL := maxL) (ret := (some .long)) hy rfl ?_
  intro p e s m args below meth c s₁ B hml hv
  obtain ⟨rfl, hsz, ⟨hP, hK, hD0, hO⟩, hw⟩ := hv
  have hx := B.exec
  have hb := B.bytes
  have hr := B.returns
  have hts := atoms_spec (ws := wsY y cc maxL (some .long)) B.pre
  have hlocks := B.notSynchronized
  subst hsz
  have hD := hD0.self (sz := s.heap.size)
  have hl := lv_entry av (n := maxL) hsl
  rw [lg_entry_eq]
  exact body p e s m below meth c (va_A gs.flatten s.heap.size) _ (name_of_methodNamed B.named B.method).1 ⟨⟨hx, hb, hml, findClass_of_methodNamed B.named, fun w h => hts w (List.mem_cons_of_mem _ h)⟩, hK, fun q h => Or.inr h, hO⟩
    (fun pc r u lv d hp H locs hP hD hS ls hl => W.lret (v := r) hx hb hr (fun t ht hW => ⟨⟨r, u, rfl, hp, by rw [ht]; exact hP, va_K.moved hW.alike hK, hD, va_AO.moved hW.alike hO⟩, hS.F ht⟩) hS.2.2 d) hw s.heap [] hP hD va_S.rf _ hl
theorem Met_v {S : Type} {l : Launch} {y : MethodName} {cc : ByteArray} {maxL f k n lo sz : Nat} {D : va_G} {tys : List (ClassId × FieldType)} {av : List Value} {gs : List va_W} {P : Prop} {post : S → Prop} {Wf : S → List va_W} (hy : plainName y.cls = true) (hsl : (lg_sl av).length ≤ maxL)
    (body : ∀ (p : Program) (e : Env) (s : State) (m : MethodId) (below : List Frame) (meth : Method) (c : Code) (A : Nat → Prop) (Q : State → Prop), meth.name = y.name → xC p s m av.toArray c cc y.cls maxL D tys A →
      (∀ (pc : Nat) (u : S) (lv : List (Nat × Value)), decode cc pc = .ok (.return_, 1) → post u → xG p l e (rmL f k n lo) s m av.toArray below meth c D A maxL Q k n pc [] (Wf u) lv) → P → xG p l e (rmL f k n lo) s m av.toArray below meth c D A maxL Q 0 0 0 [] gs (lv_args 0 av)) :
    Met l y (wsY y cc maxL none) (rmL f k n lo) (xP D tys av gs sz P) (xQv D tys post Wf (va_A gs.flatten sz)) k n (va_A gs.flatten sz) := by
  refine Met.ofW (cc := cc) (maxL := maxL) (ret := none) hy rfl ?_
  intro p e s m args below meth c s₁ B hml hv
  obtain ⟨rfl, hsz, ⟨hP, hK, hD0, hO⟩, hw⟩ := hv
  have hx := B.exec
  have hb := B.bytes
  have hr := B.returns
  have hts := atoms_spec (ws := wsY y cc maxL none) B.pre
  have hlocks := B.notSynchronized
  subst hsz
  have hD := hD0.self (sz := s.heap.size)
  have hl := lv_entry av (n := maxL) hsl
  rw [lg_entry_eq]
  exact body p e s m below meth c (va_A gs.flatten s.heap.size) _ (name_of_methodNamed B.named B.method).1 ⟨⟨hx, hb, hml, findClass_of_methodNamed B.named, fun w h => hts w (List.mem_cons_of_mem _ h)⟩, hK, fun q h => Or.inr h, hO⟩
    (fun pc u lv d hp H locs hP hD hS ls hl => W.vret hx hb hr (fun t ht hW => ⟨⟨u, rfl, hp, by rw [ht]; exact hP, va_K.moved hW.alike hK, hD, va_AO.moved hW.alike hO⟩, hS.F ht⟩) hS.2.2 d) hw s.heap [] hP hD va_S.rf _ hl
section XC
variable {p : Program} {l : Launch} {e : Env} {R : Room} {s : State} {m : MethodId} {args : Array Value} {below : List Frame} {meth : Method} {c : Code} {cc : ByteArray} {own : String} {nL : Nat} {D : va_G} {tys : List (ClassId × FieldType)} {A : Nat → Prop} {Q : State → Prop} {kc ks pc pc' : Nat} {st st0 : List Value} {gs : List va_W} {lv : List (Nat × Value)}
variable {y : MethodName} {ycc : ByteArray} {maxL nA f lo k n ix : Nat} {a : Nat} {As : List Value} {gc gr : List va_W} {P : Prop}
theorem g_callVi {S : Type} {ret : Option FieldType} {r0 : vw_C} {fs : List Value} {ci : Nat} {g : va_W} {post : Int32 → S → Prop} {Wf : S → List va_W} (C : xC p s m args c cc own nL D tys A)
    (hM : ∀ sz, Met l y (wsY y ycc maxL ret) (rmL f k n lo) (xP D tys (.ref a :: As) gc sz P) (xQi D tys post Wf (va_A gc.flatten sz)) k n (va_A gc.flatten sz))
    (d : decode cc pc = .ok (.invokevirtual ix, 3)) (hk : ckV own ix y ycc maxL ret nA) (hR : f + 1 ≤ R.frames ∧ 8 + (maxL + 11) + lo ≤ R.locals) (hr : kc + k ≤ R.cells ∧ ks + n ≤ R.slots)
    (hrc : vwCl[ci]? = some r0) (hrn : r0.1 = y.cls) (i j : Nat) (hg : gc[i]? = some g) (hj : g[j]? = some (a, .inr (ci, fs))) (is : List Nat) (N : Nat) (hN : gs.length = N) (hi : is.isPerm (List.range N) = true) (hs : is.filterMap (fun i => gs[i]?) = gc ++ gr)
    (hst : st0 = As.reverse ++ .ref a :: st) (hn : As.length = nA) (hW : (st.map fun v => v.category).sum ≤ 8) (hp : pc + 3 = pc')
    (G' : S → List va_W) (is' : List Nat) (N2 : Nat) (hN' : ∀ u, (Wf u ++ gr).length = N2) (hi' : is'.isPerm (List.range N2) = true) (hs' : ∀ u, is'.filterMap (fun i => (Wf u ++ gr)[i]?) = G' u)
    (hw : P) (kk : ∀ (r : Int32) (u : S), post r u → xG p l e R s m args below meth c D A nL Q (kc + k) (ks + n) pc' (.int r :: st) (G' u) lv) : xG p l e R s m args below meth c D A nL Q kc ks pc st0 gs lv := by
  subst hp; subst hst; subst hN
  intro H locs hP hD hS ls hl
  have hpm := flat_perm is hi hs
  have hP2 := vP_perm hpm hP
  have hD2 := vD_perm hpm hD
  have hPc := vP_left hP2
  have hDc := vD_left hD2
  have hF : ∀ q, va_A gc.flatten H.size q → A q := fun q h => va_A_D hDc (fun q h => C.2.2.1 q (Nat.le_trans hS.1 h)) h
  obtain ⟨q, hq, -⟩ := flat_at gc i j g hg hj
  have hrecv := va_recv (ws := gc.flatten) C.2.1 hPc hrc hq
  rw [hrn] at hrecv
  refine va_calli (va_runV (As := As) (rest := st) C.1 (hM H.size) ⟨callB_of nA C.1.2.2.2.2 (goodY hk.2.2.2.2.1) rfl rfl rfl (C.1.2.2.2.2 _ hk.2.2.2.1) (C.1.2.2.2.2 _ hk.1) hk.2.2.2.2.2 hR, C.1.2.2.2.2 _ hk.2.1, C.1.2.2.2.2 _ hk.2.2.1⟩ ⟨xP_blind, hrecv, fun U hU hW => ⟨rfl, by rw [hU], ⟨by rw [hU]; exact hPc, va_K.moved hW.alike C.2.1, hDc.weaken (fun _ _ _ _ => trivial), va_AO.moved hW.alike C.2.2.2⟩, hw⟩⟩ rfl hn hl.1 rfl (lv_room hW) d hr) hS (fun q _ h => hF q h) hF (fun r u t H1 locs1 ht hvm hpo hB hz hk1 hS1 => ?_)
  obtain ⟨hP1, -, hD1, -⟩ := hB
  rw [ht] at hP1
  obtain ⟨hP3, hD3⟩ := vJoin hP2 hD2 hk1 hF hP1 hD1
  have hpm2 := flat_perm is' (by rw [hN' u]; exact hi') (show is'.filterMap (fun i => (Wf u ++ gr)[i]?) = G' u ++ [] by rw [hs' u, List.append_nil])
  rw [List.flatten_append, List.flatten_nil, List.append_nil] at hpm2
  exact kk r u hpo H1 locs1 (vP_perm hpm2 hP3) (vD_perm hpm2 hD3) hS1 ls hl
theorem g_callVl {S : Type} {ret : Option FieldType} {r0 : vw_C} {fs : List Value} {ci : Nat} {g : va_W} {post : Int64 → S → Prop} {Wf : S → List va_W} (C : xC p s m args c cc own nL D tys A)
    (hM : ∀ sz, Met l y (wsY y ycc maxL ret) (rmL f k n lo) (xP D tys (.ref a :: As) gc sz P) (xQl D tys post Wf (va_A gc.flatten sz)) k n (va_A gc.flatten sz))
    (d : decode cc pc = .ok (.invokevirtual ix, 3)) (hk : ckV own ix y ycc maxL ret nA) (hR : f + 1 ≤ R.frames ∧ 8 + (maxL + 11) + lo ≤ R.locals) (hr : kc + k ≤ R.cells ∧ ks + n ≤ R.slots)
    (hrc : vwCl[ci]? = some r0) (hrn : r0.1 = y.cls) (i j : Nat) (hg : gc[i]? = some g) (hj : g[j]? = some (a, .inr (ci, fs))) (is : List Nat) (N : Nat) (hN : gs.length = N) (hi : is.isPerm (List.range N) = true) (hs : is.filterMap (fun i => gs[i]?) = gc ++ gr)
    (hst : st0 = As.reverse ++ .ref a :: st) (hn : As.length = nA) (hW : (st.map fun v => v.category).sum ≤ 8) (hp : pc + 3 = pc')
    (G' : S → List va_W) (is' : List Nat) (N2 : Nat) (hN' : ∀ u, (Wf u ++ gr).length = N2) (hi' : is'.isPerm (List.range N2) = true) (hs' : ∀ u, is'.filterMap (fun i => (Wf u ++ gr)[i]?) = G' u)
    (hw : P) (kk : ∀ (r : Int64) (u : S), post r u → xG p l e R s m args below meth c D A nL Q (kc + k) (ks + n) pc' (.long r :: st) (G' u) lv) : xG p l e R s m args below meth c D A nL Q kc ks pc st0 gs lv := by
  subst hp; subst hst; subst hN
  intro H locs hP hD hS ls hl
  have hpm := flat_perm is hi hs
  have hP2 := vP_perm hpm hP
  have hD2 := vD_perm hpm hD
  have hPc := vP_left hP2
  have hDc := vD_left hD2
  have hF : ∀ q, va_A gc.flatten H.size q → A q := fun q h => va_A_D hDc (fun q h => C.2.2.1 q (Nat.le_trans hS.1 h)) h
  obtain ⟨q, hq, -⟩ := flat_at gc i j g hg hj
  have hrecv := va_recv (ws := gc.flatten) C.2.1 hPc hrc hq
  rw [hrn] at hrecv
  refine va_calll (va_runV (As := As) (rest := st) C.1 (hM H.size) ⟨callB_of nA C.1.2.2.2.2 (goodY hk.2.2.2.2.1) rfl rfl rfl (C.1.2.2.2.2 _ hk.2.2.2.1) (C.1.2.2.2.2 _ hk.1) hk.2.2.2.2.2 hR, C.1.2.2.2.2 _ hk.2.1, C.1.2.2.2.2 _ hk.2.2.1⟩ ⟨xP_blind, hrecv, fun U hU hW => ⟨rfl, by rw [hU], ⟨by rw [hU]; exact hPc, va_K.moved hW.alike C.2.1, hDc.weaken (fun _ _ _ _ => trivial), va_AO.moved hW.alike C.2.2.2⟩, hw⟩⟩ rfl hn hl.1 rfl (lv_room hW) d hr) hS (fun q _ h => hF q h) hF (fun r u t H1 locs1 ht hvm hpo hB hz hk1 hS1 => ?_)
  obtain ⟨hP1, -, hD1, -⟩ := hB
  rw [ht] at hP1
  obtain ⟨hP3, hD3⟩ := vJoin hP2 hD2 hk1 hF hP1 hD1
  have hpm2 := flat_perm is' (by rw [hN' u]; exact hi') (show is'.filterMap (fun i => (Wf u ++ gr)[i]?) = G' u ++ [] by rw [hs' u, List.append_nil])
  rw [List.flatten_append, List.flatten_nil, List.append_nil] at hpm2
  exact kk r u hpo H1 locs1 (vP_perm hpm2 hP3) (vD_perm hpm2 hD3) hS1 ls hl
theorem g_callVv {S : Type} {ret : Option FieldType} {r0 : vw_C} {fs : List Value} {ci : Nat} {g : va_W} {post : S → Prop} {Wf : S → List va_W} (C : xC p s m args c cc own nL D tys A)
    (hM : ∀ sz, Met l y (wsY y ycc maxL ret) (rmL f k n lo) (xP D tys (.ref a :: As) gc sz P) (xQv D tys post Wf (va_A gc.flatten sz)) k n (va_A gc.flatten sz))
    (d : decode cc pc = .ok (.invokevirtual ix, 3)) (hk : ckV own ix y ycc maxL ret nA) (hR : f + 1 ≤ R.frames ∧ 8 + (maxL + 11) + lo ≤ R.locals) (hr : kc + k ≤ R.cells ∧ ks + n ≤ R.slots)
    (hrc : vwCl[ci]? = some r0) (hrn : r0.1 = y.cls) (i j : Nat) (hg : gc[i]? = some g) (hj : g[j]? = some (a, .inr (ci, fs))) (is : List Nat) (N : Nat) (hN : gs.length = N) (hi : is.isPerm (List.range N) = true) (hs : is.filterMap (fun i => gs[i]?) = gc ++ gr)
    (hst : st0 = As.reverse ++ .ref a :: st) (hn : As.length = nA) (hW : (st.map fun v => v.category).sum ≤ 8) (hp : pc + 3 = pc')
    (G' : S → List va_W) (is' : List Nat) (N2 : Nat) (hN' : ∀ u, (Wf u ++ gr).length = N2) (hi' : is'.isPerm (List.range N2) = true) (hs' : ∀ u, is'.filterMap (fun i => (Wf u ++ gr)[i]?) = G' u)
    (hw : P) (kk : ∀ (u : S), post u → xG p l e R s m args below meth c D A nL Q (kc + k) (ks + n) pc' (st) (G' u) lv) : xG p l e R s m args below meth c D A nL Q kc ks pc st0 gs lv := by
  subst hp; subst hst; subst hN
  intro H locs hP hD hS ls hl
  have hpm := flat_perm is hi hs
  have hP2 := vP_perm hpm hP
  have hD2 := vD_perm hpm hD
  have hPc := vP_left hP2
  have hDc := vD_left hD2
  have hF : ∀ q, va_A gc.flatten H.size q → A q := fun q h => va_A_D hDc (fun q h => C.2.2.1 q (Nat.le_trans hS.1 h)) h
  obtain ⟨q, hq, -⟩ := flat_at gc i j g hg hj
  have hrecv := va_recv (ws := gc.flatten) C.2.1 hPc hrc hq
  rw [hrn] at hrecv
  refine va_callv (va_runV (As := As) (rest := st) C.1 (hM H.size) ⟨callB_of nA C.1.2.2.2.2 (goodY hk.2.2.2.2.1) rfl rfl rfl (C.1.2.2.2.2 _ hk.2.2.2.1) (C.1.2.2.2.2 _ hk.1) hk.2.2.2.2.2 hR, C.1.2.2.2.2 _ hk.2.1, C.1.2.2.2.2 _ hk.2.2.1⟩ ⟨xP_blind, hrecv, fun U hU hW => ⟨rfl, by rw [hU], ⟨by rw [hU]; exact hPc, va_K.moved hW.alike C.2.1, hDc.weaken (fun _ _ _ _ => trivial), va_AO.moved hW.alike C.2.2.2⟩, hw⟩⟩ rfl hn hl.1 rfl (lv_room hW) d hr) hS (fun q _ h => hF q h) hF (fun u t H1 locs1 ht hvm hpo hB hz hk1 hS1 => ?_)
  obtain ⟨hP1, -, hD1, -⟩ := hB
  rw [ht] at hP1
  obtain ⟨hP3, hD3⟩ := vJoin hP2 hD2 hk1 hF hP1 hD1
  have hpm2 := flat_perm is' (by rw [hN' u]; exact hi') (show is'.filterMap (fun i => (Wf u ++ gr)[i]?) = G' u ++ [] by rw [hs' u, List.append_nil])
  rw [List.flatten_append, List.flatten_nil, List.append_nil] at hpm2
  exact kk u hpo H1 locs1 (vP_perm hpm2 hP3) (vD_perm hpm2 hD3) hS1 ls hl
theorem g_callSi {S : Type} {ret : Option FieldType} {post : Int32 → S → Prop} {Wf : S → List va_W} (C : xC p s m args c cc own nL D tys A)
    (hM : ∀ sz, Met l y (wsY y ycc maxL ret) (rmL f k n lo) (xP D tys As gc sz P) (xQi D tys post Wf (va_A gc.flatten sz)) k n (va_A gc.flatten sz))
    (d : decode cc pc = .ok (.invokestatic ix, 3)) (hk : ckS own ix y ycc maxL ret nA) (hR : f + 1 ≤ R.frames ∧ 8 + (maxL + 11) + lo ≤ R.locals) (hr : kc + k ≤ R.cells ∧ ks + n ≤ R.slots)
    (is : List Nat) (N : Nat) (hN : gs.length = N) (hi : is.isPerm (List.range N) = true) (hs : is.filterMap (fun i => gs[i]?) = gc ++ gr)
    (hst : st0 = As.reverse ++ st) (hn : As.length = nA) (hW : (st.map fun v => v.category).sum ≤ 8) (hp : pc + 3 = pc')
    (G' : S → List va_W) (is' : List Nat) (N2 : Nat) (hN' : ∀ u, (Wf u ++ gr).length = N2) (hi' : is'.isPerm (List.range N2) = true) (hs' : ∀ u, is'.filterMap (fun i => (Wf u ++ gr)[i]?) = G' u)
    (hw : P) (kk : ∀ (r : Int32) (u : S), post r u → xG p l e R s m args below meth c D A nL Q (kc + k) (ks + n) pc' (.int r :: st) (G' u) lv) : xG p l e R s m args below meth c D A nL Q kc ks pc st0 gs lv := by
  subst hp; subst hst; subst hN
  intro H locs hP hD hS ls hl
  have hpm := flat_perm is hi hs
  have hP2 := vP_perm hpm hP
  have hD2 := vD_perm hpm hD
  have hPc := vP_left hP2
  have hDc := vD_left hD2
  have hF : ∀ q, va_A gc.flatten H.size q → A q := fun q h => va_A_D hDc (fun q h => C.2.2.1 q (Nat.le_trans hS.1 h)) h
  refine va_calli (va_runS (As := As) (rest := st) C.1 (hM H.size) ⟨callB_of nA C.1.2.2.2.2 (goodY hk.2.2.2.1) rfl rfl rfl (C.1.2.2.2.2 _ hk.2.2.1) (C.1.2.2.2.2 _ hk.1) hk.2.2.2.2 hR, C.1.2.2.2.2 _ hk.2.1⟩ ⟨xP_blind, fun U hU hW => ⟨rfl, by rw [hU], ⟨by rw [hU]; exact hPc, va_K.moved hW.alike C.2.1, hDc.weaken (fun _ _ _ _ => trivial), va_AO.moved hW.alike C.2.2.2⟩, hw⟩⟩ rfl hn hl.1 rfl (lv_room hW) d hr) hS (fun q _ h => hF q h) hF (fun r u t H1 locs1 ht hvm hpo hB hz hk1 hS1 => ?_)
  obtain ⟨hP1, -, hD1, -⟩ := hB
  rw [ht] at hP1
  obtain ⟨hP3, hD3⟩ := vJoin hP2 hD2 hk1 hF hP1 hD1
  have hpm2 := flat_perm is' (by rw [hN' u]; exact hi') (show is'.filterMap (fun i => (Wf u ++ gr)[i]?) = G' u ++ [] by rw [hs' u, List.append_nil])
  rw [List.flatten_append, List.flatten_nil, List.append_nil] at hpm2
  exact kk r u hpo H1 locs1 (vP_perm hpm2 hP3) (vD_perm hpm2 hD3) hS1 ls hl
theorem g_callSl {S : Type} {ret : Option FieldType} {post : Int64 → S → Prop} {Wf : S → List va_W} (C : xC p s m args c cc own nL D tys A)
    (hM : ∀ sz, Met l y (wsY y ycc maxL ret) (rmL f k n lo) (xP D tys As gc sz P) (xQl D tys post Wf (va_A gc.flatten sz)) k n (va_A gc.flatten sz))
    (d : decode cc pc = .ok (.invokestatic ix, 3)) (hk : ckS own ix y ycc maxL ret nA) (hR : f + 1 ≤ R.frames ∧ 8 + (maxL + 11) + lo ≤ R.locals) (hr : kc + k ≤ R.cells ∧ ks + n ≤ R.slots)
    (is : List Nat) (N : Nat) (hN : gs.length = N) (hi : is.isPerm (List.range N) = true) (hs : is.filterMap (fun i => gs[i]?) = gc ++ gr)
    (hst : st0 = As.reverse ++ st) (hn : As.length = nA) (hW : (st.map fun v => v.category).sum ≤ 8) (hp : pc + 3 = pc')
    (G' : S → List va_W) (is' : List Nat) (N2 : Nat) (hN' : ∀ u, (Wf u ++ gr).length = N2) (hi' : is'.isPerm (List.range N2) = true) (hs' : ∀ u, is'.filterMap (fun i => (Wf u ++ gr)[i]?) = G' u)
    (hw : P) (kk : ∀ (r : Int64) (u : S), post r u → xG p l e R s m args below meth c D A nL Q (kc + k) (ks + n) pc' (.long r :: st) (G' u) lv) : xG p l e R s m args below meth c D A nL Q kc ks pc st0 gs lv := by
  subst hp; subst hst; subst hN
  intro H locs hP hD hS ls hl
  have hpm := flat_perm is hi hs
  have hP2 := vP_perm hpm hP
  have hD2 := vD_perm hpm hD
  have hPc := vP_left hP2
  have hDc := vD_left hD2
  have hF : ∀ q, va_A gc.flatten H.size q → A q := fun q h => va_A_D hDc (fun q h => C.2.2.1 q (Nat.le_trans hS.1 h)) h
  refine va_calll (va_runS (As := As) (rest := st) C.1 (hM H.size) ⟨callB_of nA C.1.2.2.2.2 (goodY hk.2.2.2.1) rfl rfl rfl (C.1.2.2.2.2 _ hk.2.2.1) (C.1.2.2.2.2 _ hk.1) hk.2.2.2.2 hR, C.1.2.2.2.2 _ hk.2.1⟩ ⟨xP_blind, fun U hU hW => ⟨rfl, by rw [hU], ⟨by rw [hU]; exact hPc, va_K.moved hW.alike C.2.1, hDc.weaken (fun _ _ _ _ => trivial), va_AO.moved hW.alike C.2.2.2⟩, hw⟩⟩ rfl hn hl.1 rfl (lv_room hW) d hr) hS (fun q _ h => hF q h) hF (fun r u t H1 locs1 ht hvm hpo hB hz hk1 hS1 => ?_)
  obtain ⟨hP1, -, hD1, -⟩ := hB
  rw [ht] at hP1
  obtain ⟨hP3, hD3⟩ := vJoin hP2 hD2 hk1 hF hP1 hD1
  have hpm2 := flat_perm is' (by rw [hN' u]; exact hi') (show is'.filterMap (fun i => (Wf u ++ gr)[i]?) = G' u ++ [] by rw [hs' u, List.append_nil])
  rw [List.flatten_append, List.flatten_nil, List.append_nil] at hpm2
  exact kk r u hpo H1 locs1 (vP_perm hpm2 hP3) (vD_perm hpm2 hD3) hS1 ls hl
theorem g_callSv {S : Type} {ret : Option FieldType} {post : S → Prop} {Wf : S → List va_W} (C : xC p s m args c cc own nL D tys A)
    (hM : ∀ sz, Met l y (wsY y ycc maxL ret) (rmL f k n lo) (xP D tys As gc sz P) (xQv D tys post Wf (va_A gc.flatten sz)) k n (va_A gc.flatten sz))
    (d : decode cc pc = .ok (.invokestatic ix, 3)) (hk : ckS own ix y ycc maxL ret nA) (hR : f + 1 ≤ R.frames ∧ 8 + (maxL + 11) + lo ≤ R.locals) (hr : kc + k ≤ R.cells ∧ ks + n ≤ R.slots)
    (is : List Nat) (N : Nat) (hN : gs.length = N) (hi : is.isPerm (List.range N) = true) (hs : is.filterMap (fun i => gs[i]?) = gc ++ gr)
    (hst : st0 = As.reverse ++ st) (hn : As.length = nA) (hW : (st.map fun v => v.category).sum ≤ 8) (hp : pc + 3 = pc')
    (G' : S → List va_W) (is' : List Nat) (N2 : Nat) (hN' : ∀ u, (Wf u ++ gr).length = N2) (hi' : is'.isPerm (List.range N2) = true) (hs' : ∀ u, is'.filterMap (fun i => (Wf u ++ gr)[i]?) = G' u)
    (hw : P) (kk : ∀ (u : S), post u → xG p l e R s m args below meth c D A nL Q (kc + k) (ks + n) pc' (st) (G' u) lv) : xG p l e R s m args below meth c D A nL Q kc ks pc st0 gs lv := by
  subst hp; subst hst; subst hN
  intro H locs hP hD hS ls hl
  have hpm := flat_perm is hi hs
  have hP2 := vP_perm hpm hP
  have hD2 := vD_perm hpm hD
  have hPc := vP_left hP2
  have hDc := vD_left hD2
  have hF : ∀ q, va_A gc.flatten H.size q → A q := fun q h => va_A_D hDc (fun q h => C.2.2.1 q (Nat.le_trans hS.1 h)) h
  refine va_callv (va_runS (As := As) (rest := st) C.1 (hM H.size) ⟨callB_of nA C.1.2.2.2.2 (goodY hk.2.2.2.1) rfl rfl rfl (C.1.2.2.2.2 _ hk.2.2.1) (C.1.2.2.2.2 _ hk.1) hk.2.2.2.2 hR, C.1.2.2.2.2 _ hk.2.1⟩ ⟨xP_blind, fun U hU hW => ⟨rfl, by rw [hU], ⟨by rw [hU]; exact hPc, va_K.moved hW.alike C.2.1, hDc.weaken (fun _ _ _ _ => trivial), va_AO.moved hW.alike C.2.2.2⟩, hw⟩⟩ rfl hn hl.1 rfl (lv_room hW) d hr) hS (fun q _ h => hF q h) hF (fun u t H1 locs1 ht hvm hpo hB hz hk1 hS1 => ?_)
  obtain ⟨hP1, -, hD1, -⟩ := hB
  rw [ht] at hP1
  obtain ⟨hP3, hD3⟩ := vJoin hP2 hD2 hk1 hF hP1 hD1
  have hpm2 := flat_perm is' (by rw [hN' u]; exact hi') (show is'.filterMap (fun i => (Wf u ++ gr)[i]?) = G' u ++ [] by rw [hs' u, List.append_nil])
  rw [List.flatten_append, List.flatten_nil, List.append_nil] at hpm2
  exact kk u hpo H1 locs1 (vP_perm hpm2 hP3) (vD_perm hpm2 hD3) hS1 ls hl
theorem g_callIv {S : Type} {post : S → Prop} {Wf : S → List va_W} (C : xC p s m args c cc own nL D tys A)
    (hM : ∀ sz, Met l y (wsY y ycc maxL none) (rmL f k n lo) (xP D tys (.ref a :: As) gc sz P) (xQv D tys post Wf (va_A gc.flatten sz)) k n (va_A gc.flatten sz))
    (d : decode cc pc = .ok (.invokespecial ix, 3)) (hk : ckI own ix y ycc maxL nA) (hR : f + 1 ≤ R.frames ∧ 8 + (maxL + 11) + lo ≤ R.locals) (hr : kc + k ≤ R.cells ∧ ks + n ≤ R.slots)
    (is : List Nat) (N : Nat) (hN : gs.length = N) (hi : is.isPerm (List.range N) = true) (hs : is.filterMap (fun i => gs[i]?) = gc ++ gr)
    (hst : st0 = As.reverse ++ .ref a :: st) (hn : As.length = nA) (hW : (st.map fun v => v.category).sum ≤ 8) (hp : pc + 3 = pc')
    (G' : S → List va_W) (is' : List Nat) (N2 : Nat) (hN' : ∀ u, (Wf u ++ gr).length = N2) (hi' : is'.isPerm (List.range N2) = true) (hs' : ∀ u, is'.filterMap (fun i => (Wf u ++ gr)[i]?) = G' u)
    (hw : P) (kk : ∀ (u : S), post u → xG p l e R s m args below meth c D A nL Q (kc + k) (ks + n) pc' (st) (G' u) lv) : xG p l e R s m args below meth c D A nL Q kc ks pc st0 gs lv := by
  subst hp; subst hst; subst hN
  intro H locs hP hD hS ls hl
  have hpm := flat_perm is hi hs
  have hP2 := vP_perm hpm hP
  have hD2 := vD_perm hpm hD
  have hPc := vP_left hP2
  have hDc := vD_left hD2
  have hF : ∀ q, va_A gc.flatten H.size q → A q := fun q h => va_A_D hDc (fun q h => C.2.2.1 q (Nat.le_trans hS.1 h)) h
  refine va_callv (va_runI (As := As) (rest := st) C.1 (hM H.size) ⟨callB_of nA C.1.2.2.2.2 (goodY hk.2.2.2.2.1) rfl rfl rfl (C.1.2.2.2.2 _ hk.2.2.2.1) (C.1.2.2.2.2 _ hk.1) hk.2.2.2.2.2 hR, hk.2.2.1, C.1.2.2.2.2 _ hk.2.1⟩ ⟨xP_blind, fun U hU hW => ⟨rfl, by rw [hU], ⟨by rw [hU]; exact hPc, va_K.moved hW.alike C.2.1, hDc.weaken (fun _ _ _ _ => trivial), va_AO.moved hW.alike C.2.2.2⟩, hw⟩⟩ rfl hn hl.1 rfl (lv_room hW) d hr) hS (fun q _ h => hF q h) hF (fun u t H1 locs1 ht hvm hpo hB hz hk1 hS1 => ?_)
  obtain ⟨hP1, -, hD1, -⟩ := hB
  rw [ht] at hP1
  obtain ⟨hP3, hD3⟩ := vJoin hP2 hD2 hk1 hF hP1 hD1
  have hpm2 := flat_perm is' (by rw [hN' u]; exact hi') (show is'.filterMap (fun i => (Wf u ++ gr)[i]?) = G' u ++ [] by rw [hs' u, List.append_nil])
  rw [List.flatten_append, List.flatten_nil, List.append_nil] at hpm2
  exact kk u hpo H1 locs1 (vP_perm hpm2 hP3) (vD_perm hpm2 hD3) hS1 ls hl
end XC
