/-! what constructors do -/
theorem cI_eq {D : va_G} {cl : List vw_C} {tys : List (ClassId × FieldType)} {U : State} {cA cI : ClassId} {t0 : Nat} (h : va_K D cl tys U) (h0 : tys[t0]? = some (cI, .int)) (h1 : va_K D cl (tys ++ [(cA, .int)]) U) : cA = cI := by
  have e0 : U.vm.findClass ("[" ++ (FieldType.int).toString) = some cI := (h.2 t0 _ h0).2
  have e1 : U.vm.findClass ("[" ++ (FieldType.int).toString) = some cA := (h1.2 tys.length (cA, .int) (by simp)).2
  exact Option.some.inj (e1.symm.trans e0)
theorem cQ_eq {D : va_G} {cl : List vw_C} {tys : List (ClassId × FieldType)} {U : State} {cA cQ : ClassId} {n : String} {t0 : Nat} (h : va_K D cl tys U) (h0 : tys[t0]? = some (cQ, .object n)) (h1 : va_K D cl (tys ++ [(cA, .object n)]) U) : cA = cQ := by
  obtain ⟨_, _, -, -, -, e0⟩ := (h.2 t0 _ h0).2
  obtain ⟨_, _, -, -, -, e1⟩ := (h1.2 tys.length (cA, .object n) (by simp)).2
  exact Option.some.inj (e1.symm.trans e0)
section XK
variable {p : Program} {l : Launch} {e : Env} {R : Room} {s : State} {m : MethodId} {args : Array Value} {below : List Frame} {meth : Method} {c : Code} {cc : ByteArray} {own : String} {nL : Nat} {D : va_G} {tys : List (ClassId × FieldType)} {A : Nat → Prop} {Q : State → Prop} {kc ks kc' ks' pc pc' : Nat} {st : List Value} {gs gs' : List va_W} {lv lv' : List (Nat × Value)}
theorem g_fl (h : gs.flatten = gs'.flatten) (k : xG p l e R s m args below meth c D A nL Q kc ks pc st gs' lv) : xG p l e R s m args below meth c D A nL Q kc ks pc st gs lv := fun H locs hP hD hS ls hl => k H locs (h ▸ hP) (h ▸ hD) hS ls hl
theorem g_perm (h : gs.flatten.Perm gs'.flatten) (k : xG p l e R s m args below meth c D A nL Q kc ks pc st gs' lv) : xG p l e R s m args below meth c D A nL Q kc ks pc st gs lv := fun H locs hP hD hS ls hl => k H locs (vP_perm h hP) (vD_perm h hD) hS ls hl
theorem g_widen (h1 : kc ≤ kc') (h2 : ks ≤ ks') (k : xG p l e R s m args below meth c D A nL Q kc' ks' pc st gs lv) : xG p l e R s m args below meth c D A nL Q kc ks pc st gs lv := fun H locs hP hD hS ls hl => W.widen h1 h2 (k H locs hP hD hS ls hl)
theorem g_objInit {ix a : Nat} (C : xC p s m args c cc own nL D tys A) (d : decode cc pc = .ok (.invokespecial ix, 3)) (h1 : Cond.methodLink own ix objectInit ∈ gTbl) (hR : 1 ≤ R.frames ∧ (st.map fun v => v.category).sum + 12 ≤ R.locals) (hp : pc + 3 = pc') (k : xG p l e R s m args below meth c D A nL Q kc ks pc' st gs lv) : xG p l e R s m args below meth c D A nL Q kc ks pc (.ref a :: st) gs lv := by
  subst hp
  intro H locs hP hD hS ls hl
  refine W.objInit C.1.1 C.1.2.1 C.1.2.2.2.1 (C.1.2.2.2.2 _ h1) (C.1.2.2.2.2 _ im_objectInit) (C.1.2.2.2.2 _ cd_objectInit) rfl (by rw [C.1.2.2.1]; exact hl.1) rfl d hR.1 (by show 2 * 0 + _ + 12 ≤ _; omega) ?_
  exact k H locs hP hD hS ls hl
theorem g_new {Cl : String} {T : u_T} {N ci ix : Nat} {fs : List Value} (C : xC p s m args c cc own nL D tys A) (d : decode cc pc = .ok (.new ix, 3)) (hin : ∀ w ∈ u_ws Cl T N, w ∈ gTbl) (ty : Nat → FieldType) (hty : ∀ k, k < N → parseFieldDescriptor (T k).2.2.1 = some (ty k)) (hcl : Cond.classLink own ix Cl ∈ gTbl) (hia : Cond.instantiable Cl N ∈ gTbl) (hini : Cond.initialized Cl ∈ gTbl) (hc : vwCl[ci]? = some (Cl, T, N)) (hfs : ∀ j, j < N → defaultValue (ty j) = vp_V fs j) (hr : kc + 1 ≤ R.cells ∧ ks + N ≤ R.slots) (e1 : kc + 1 = kc') (e2 : ks + N = ks') (hp : pc + 3 = pc') (k : ∀ q : Nat, xG p l e R s m args below meth c D A nL Q kc' ks' pc' (.ref q :: st) (gs ++ [[(q, .inr (ci, fs))]]) lv) : xG p l e R s m args below meth c D A nL Q kc ks pc st gs lv := by
  subst hp; subst e1; subst e2
  intro H locs hP hD hS ls hl
  refine va_new C.1.1 C.1.2.1 C.1.2.2.2.2 hin ty hty C.1.2.2.2.1 (C.1.2.2.2.2 _ hcl) (C.1.2.2.2.2 _ hia) (C.1.2.2.2.2 _ hini) C.2.1 hP hD hS C.2.2.1 hc hfs hr.1 hr.2 d (fun q H1 hP hD hS => ?_)
  exact k q H1 locs (by rw [List.flatten_append]; simpa using hP) (by rw [List.flatten_append]; simpa using hD) hS ls hl
theorem g_newa {cI : ClassId} {n : Int32} {N' : Nat} (C : xC p s m args c cc own nL D tys A) (d : decode cc pc = .ok (.newarray .int, 2)) (t0 : Nat) (ht : tys[t0]? = some (cI, .int)) (hn : ¬ n < 0) (hN : n.toNatClampNeg = N') (hb : N' * 4 ≤ 536870912) (hr : kc + 1 ≤ R.cells ∧ ks + N' ≤ R.slots) (e1 : kc + 1 = kc') (e2 : ks + N' = ks') (hp : pc + 2 = pc') (k : ∀ q : Nat, xG p l e R s m args below meth c D A nL Q kc' ks' pc' (.ref q :: st) (gs ++ [[(q, .inl (cI, N', .inl (fun _ => 0)))]]) lv) : xG p l e R s m args below meth c D A nL Q kc ks pc (.int n :: st) gs lv := by
  subst hp; subst e1; subst e2
  intro H locs hP hD hS ls hl
  refine va_newa (atype := .int) (ty := .int) (a0 := (N', .inl (fun _ => 0))) C.1.1 C.1.2.1 (C.1.2.2.2.2 _ ac_int) rfl C.2.1 hP hD hS C.2.2.1 (fun _ => rfl) hn hN hb hr.1 hr.2 d (fun q cA H1 hK hP hD hS => ?_)
  have e := cI_eq C.2.1 ht hK
  subst e
  exact k q H1 locs (by rw [List.flatten_append]; simpa using hP) (by rw [List.flatten_append]; simpa using hD) hS ls hl
theorem g_newq {cQ : ClassId} {n : Int32} {N' ix : Nat} (C : xC p s m args c cc own nL D tys A) (d : decode cc pc = .ok (.anewarray ix, 3)) (hcl : Cond.classLink own ix "Percolated$Parish" ∈ gTbl) (t0 : Nat) (ht : tys[t0]? = some (cQ, .object "Percolated$Parish")) (hn : ¬ n < 0) (hN : n.toNatClampNeg = N') (hb : N' * 4 ≤ 536870912) (hr : kc + 1 ≤ R.cells ∧ ks + N' ≤ R.slots) (e1 : kc + 1 = kc') (e2 : ks + N' = ks') (hp : pc + 3 = pc') (k : ∀ q : Nat, xG p l e R s m args below meth c D A nL Q kc' ks' pc' (.ref q :: st) (gs ++ [[(q, .inl (cQ, N', .inr (.inr (.inr (.inr (fun _ => none))))))]]) lv) : xG p l e R s m args below meth c D A nL Q kc ks pc (.int n :: st) gs lv := by
  subst hp; subst e1; subst e2
  intro H locs hP hD hS ls hl
  refine va_newq C.1.1 C.1.2.1 C.1.2.2.2.1 (C.1.2.2.2.2 _ hcl) C.2.2.2 C.2.1 hP hD hS C.2.2.1 hn hN hb hr.1 hr.2 d (fun q cA H1 hK hP hD hS => ?_)
  have e := cQ_eq C.2.1 ht hK
  subst e
  exact k q H1 locs (by rw [List.flatten_append]; simpa using hP) (by rw [List.flatten_append]; simpa using hD) hS ls hl
theorem g_putF {ref Cl : String} {T : u_T} {N ci ix : Nat} {a : Nat} {fs : List Value} {g : va_W} {v : Value} {ty : FieldType} (C : xC p s m args c cc own nL D tys A) (d : decode cc pc = .ok (.putfield ix, 3)) (hin : ∀ w ∈ u_ws Cl T N, w ∈ gTbl) (ty0 : Nat → FieldType) (hty : ∀ k, k < N → parseFieldDescriptor (T k).2.2.1 = some (ty0 k)) (hnm : ∀ a, a < N → ∀ b, b < N → a ≠ b → (T a).2.1 ≠ (T b).2.1) (hc : vwCl[ci]? = some (Cl, T, N)) (i j f : Nat) (hg : gs[i]? = some g) (hj : g[j]? = some (a, .inr (ci, fs))) (hf : f < N) (hr : (T f).1 = ref) (hm : Cond.fieldLink own ix ref (T f).2.1 (T f).2.2.1 ∈ gTbl) (hfin : (T f).2.2.2 = true) (hin2 : meth.name = "<init>") (hdecl : (T f).1 = own) (hd : parseFieldDescriptor (T f).2.2.1 = some ty) (hn : narrow ty v = v) (hfit : fits ty v = true) (hlen : f < fs.length) (hgs : gs.set i (g.set j (a, .inr (ci, fs.set f v))) = gs') (hp : pc + 3 = pc') (k : xG p l e R s m args below meth c D A nL Q kc ks pc' st gs' lv) : xG p l e R s m args below meth c D A nL Q kc ks pc (v :: .ref a :: st) gs lv := by
  subst hp; subst hr; subst hgs
  intro H locs hP hD hS ls hl
  obtain ⟨q, hq, hset⟩ := flat_at gs i j g hg hj
  refine va_putF C.1.1 C.1.2.1 C.1.2.2.2.2 hin ty0 hty hnm C.1.2.2.2.1 C.2.1 hP hD hS q hq hc f hf (C.1.2.2.2.2 _ hm) (fun _ h => h) hfin hin2 hdecl hd hn hfit hlen d (fun H1 locs1 hP hD hS => ?_)
  rw [← hset] at hP hD
  exact k H1 locs1 hP hD hS ls hl
theorem g_aast {a v n ci : Nat} {cA : ClassId} {r : vw_C} {vs : List Value} {f : Nat → Option Nat} {g g2 : va_W} {x : Int32} (C : xC p s m args c cc own nL D tys A) (d : decode cc pc = .ok (.aastore, 1)) (i j i2 j2 : Nat) (hg : gs[i]? = some g) (hj : g[j]? = some (a, .inl (cA, n, .inr (.inr (.inr (.inr f)))))) (t0 : Nat) (ht : tys[t0]? = some (cA, .object r.1)) (hg2 : gs[i2]? = some g2) (hj2 : g2[j2]? = some (v, .inr (ci, vs))) (hc : vwCl[ci]? = some r) (hin : vp_in x n) (hgs : gs.set i (g.set j (a, .inl (cA, n, .inr (.inr (.inr (.inr (va_up f x.toNatClampNeg (some v)))))))) = gs') (hp : pc + 1 = pc') (k : xG p l e R s m args below meth c D A nL Q kc ks pc' st gs' lv) : xG p l e R s m args below meth c D A nL Q kc ks pc (.ref v :: .int x :: .ref a :: st) gs lv := by
  subst hp; subst hgs
  intro H locs hP hD hS ls hl
  obtain ⟨q, hq, hset⟩ := flat_at gs i j g hg hj
  obtain ⟨q2, hq2, -⟩ := flat_at gs i2 j2 g2 hg2 hj2
  refine va_astq C.1.1 C.1.2.1 C.2.1 hP hD hS q t0 q2 ci hq ht hq2 hc hin d (fun H1 locs1 hP hD hS => ?_)
  rw [← hset] at hP hD
  exact k H1 locs1 hP hD hS ls hl
/-- an array of references read with another function, the same where it has places -/
theorem g_arrq {a n : Nat} {cA : ClassId} {f f' : Nat → Option Nat} {g : va_W} (i j : Nat) (hg : gs[i]? = some g) (hj : g[j]? = some (a, .inl (cA, n, .inr (.inr (.inr (.inr f)))))) (hf : ∀ k, k < n → f k = f' k) (hgs : gs.set i (g.set j (a, .inl (cA, n, .inr (.inr (.inr (.inr f')))))) = gs') (k : xG p l e R s m args below meth c D A nL Q kc ks pc st gs' lv) : xG p l e R s m args below meth c D A nL Q kc ks pc st gs lv := by
  subst hgs
  intro H locs hP hD hS ls hl
  obtain ⟨q, hq, hset⟩ := flat_at gs i j g hg hj
  have hcell : vp_cell cA (n, .inr (.inr (.inr (.inr f)))) = vp_cell cA (n, .inr (.inr (.inr (.inr f')))) := by
    rw [vp_cell_q, vp_cell_q]
    unfold arrV
    congr 1
    apply Array.ext
    · simp
    · intro z h1 h2
      simp only [Array.getElem_ofFn]
      rw [hf z (by simpa using h1)]
  have e0 : H[a]? = some (vp_cell cA (n, .inr (.inr (.inr (.inr f))))) := hP q _ hq
  rw [hcell] at e0
  refine k H locs ?_ ?_ hS ls hl
  · rw [hset]
    exact hP.set hD hq e0 (fun _ _ => rfl)
  · rw [hset]
    exact hD.set hq
end XK
