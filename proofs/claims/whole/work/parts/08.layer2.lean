def xC (p : Program) (s : State) (m : MethodId) (args : Array Value) (c : Code) (cc : ByteArray) (own : String) (nL : Nat) (D : va_G) (tys : List (ClassId × FieldType)) (A : Nat → Prop) : Prop :=
  CallFix p m c cc nL s args gTbl own ∧ va_K D vwCl tys s ∧ (∀ q, s.heap.size ≤ q → A q) ∧ va_AO "Percolated$Parish" s
def xG (p : Program) (l : Launch) (e : Env) (R : Room) (s : State) (m : MethodId) (args : Array Value) (below : List Frame) (meth : Method) (c : Code) (D : va_G) (A : Nat → Prop) (nL : Nat) (Q : State → Prop) (kc ks pc : Nat) (st : List Value) (gs : List va_W) (lv : List (Nat × Value)) : Prop :=
  ∀ (H : Heap) (locs : List Loc), va_P D vwCl gs.flatten H → va_D A gs.flatten → va_S A s.heap H locs → ∀ ls : Array Slot, lv_has ls nL lv → W p l e R s m args below meth c H locs kc ks Q (F0 m pc ls st)
section XL
variable {p : Program} {l : Launch} {e : Env} {R : Room} {s : State} {m : MethodId} {args : Array Value} {below : List Frame} {meth : Method} {c : Code} {cc : ByteArray} {own : String} {nL : Nat} {D : va_G} {tys : List (ClassId × FieldType)} {A : Nat → Prop} {Q : State → Prop} {kc ks pc pc' : Nat} {st : List Value} {gs : List va_W} {lv lv' : List (Nat × Value)}
theorem g_iconst {n : Int} {v : Int32} (C : xC p s m args c cc own nL D tys A) (d : decode cc pc = .ok (.iconst n, 1)) (hv : Int32.ofInt n = v) (hp : pc + 1 = pc') (k : xG p l e R s m args below meth c D A nL Q kc ks pc' (.int v :: st) gs lv) : xG p l e R s m args below meth c D A nL Q kc ks pc (st) gs lv := by
  subst hp
  intro H locs hP hD hS ls hl
  exact lv_iconst C.1.1 C.1.2.1 d hv (k H locs hP hD hS ls hl)
theorem g_bipush {n : Int} {v : Int32} (C : xC p s m args c cc own nL D tys A) (d : decode cc pc = .ok (.bipush n, 2)) (hv : (Int8.ofInt n).toInt32 = v) (hp : pc + 2 = pc') (k : xG p l e R s m args below meth c D A nL Q kc ks pc' (.int v :: st) gs lv) : xG p l e R s m args below meth c D A nL Q kc ks pc (st) gs lv := by
  subst hp
  intro H locs hP hD hS ls hl
  exact lv_bipush C.1.1 C.1.2.1 d hv (k H locs hP hD hS ls hl)
theorem g_sipush {n : Int} {v : Int32} (C : xC p s m args c cc own nL D tys A) (d : decode cc pc = .ok (.sipush n, 3)) (hv : (Int16.ofInt n).toInt32 = v) (hp : pc + 3 = pc') (k : xG p l e R s m args below meth c D A nL Q kc ks pc' (.int v :: st) gs lv) : xG p l e R s m args below meth c D A nL Q kc ks pc (st) gs lv := by
  subst hp
  intro H locs hP hD hS ls hl
  exact lv_sipush C.1.1 C.1.2.1 d hv (k H locs hP hD hS ls hl)
theorem g_lconst {n : Fin 2} {v : Int64} (C : xC p s m args c cc own nL D tys A) (d : decode cc pc = .ok (.lconst n, 1)) (hv : Int64.ofNat (n : Nat) = v) (hp : pc + 1 = pc') (k : xG p l e R s m args below meth c D A nL Q kc ks pc' (.long v :: st) gs lv) : xG p l e R s m args below meth c D A nL Q kc ks pc (st) gs lv := by
  subst hp
  intro H locs hP hD hS ls hl
  exact lv_lconst C.1.1 C.1.2.1 d hv (k H locs hP hD hS ls hl)
theorem g_ldc {ix : Nat} {v : Int32} (C : xC p s m args c cc own nL D tys A) (d : decode cc pc = .ok (.ldc ix, 2)) (hm : Cond.constant own ix v ∈ gTbl) (hp : pc + 2 = pc') (k : xG p l e R s m args below meth c D A nL Q kc ks pc' (.int v :: st) gs lv) : xG p l e R s m args below meth c D A nL Q kc ks pc (st) gs lv := by
  subst hp
  intro H locs hP hD hS ls hl
  exact lv_ldc C.1.1 C.1.2.1 C.1.2.2.2.1 (C.1.2.2.2.2 _ hm) d (k H locs hP hD hS ls hl)
theorem g_ldcw {ix : Nat} {v : Int32} (C : xC p s m args c cc own nL D tys A) (d : decode cc pc = .ok (.ldc_w ix, 3)) (hm : Cond.constant own ix v ∈ gTbl) (hp : pc + 3 = pc') (k : xG p l e R s m args below meth c D A nL Q kc ks pc' (.int v :: st) gs lv) : xG p l e R s m args below meth c D A nL Q kc ks pc (st) gs lv := by
  subst hp
  intro H locs hP hD hS ls hl
  exact lv_ldcw C.1.1 C.1.2.1 C.1.2.2.2.1 (C.1.2.2.2.2 _ hm) d (k H locs hP hD hS ls hl)
theorem g_ldc2 {ix : Nat} {v : Int64} (C : xC p s m args c cc own nL D tys A) (d : decode cc pc = .ok (.ldc2_w ix, 3)) (hm : Cond.constantLong own ix v ∈ gTbl) (hp : pc + 3 = pc') (k : xG p l e R s m args below meth c D A nL Q kc ks pc' (.long v :: st) gs lv) : xG p l e R s m args below meth c D A nL Q kc ks pc (st) gs lv := by
  subst hp
  intro H locs hP hD hS ls hl
  exact lv_ldc2 C.1.1 C.1.2.1 C.1.2.2.2.1 (C.1.2.2.2.2 _ hm) d (k H locs hP hD hS ls hl)
theorem g_iload_n {k0 : Fin 4} {x : Int32} (C : xC p s m args c cc own nL D tys A) (d : decode cc pc = .ok (.iload_n k0, 1)) (j : Nat) (hj : lv[j]? = some ((k0 : Nat), .int x)) (hp : pc + 1 = pc') (k : xG p l e R s m args below meth c D A nL Q kc ks pc' (.int x :: st) gs lv) : xG p l e R s m args below meth c D A nL Q kc ks pc (st) gs lv := by
  subst hp
  intro H locs hP hD hS ls hl
  exact lv_iload_n C.1.1 C.1.2.1 d rfl (lv_at hl j hj) (k H locs hP hD hS ls hl)
theorem g_iload {i : Nat} {x : Int32} (C : xC p s m args c cc own nL D tys A) (d : decode cc pc = .ok (.iload i, 2)) (j : Nat) (hj : lv[j]? = some (i, .int x)) (hp : pc + 2 = pc') (k : xG p l e R s m args below meth c D A nL Q kc ks pc' (.int x :: st) gs lv) : xG p l e R s m args below meth c D A nL Q kc ks pc (st) gs lv := by
  subst hp
  intro H locs hP hD hS ls hl
  exact lv_iload C.1.1 C.1.2.1 d (lv_at hl j hj) (k H locs hP hD hS ls hl)
theorem g_istore_n {k0 : Fin 4} {x v : Int32} (C : xC p s m args c cc own nL D tys A) (d : decode cc pc = .ok (.istore_n k0, 1)) (hv : x = v) (hn : (k0 : Nat) < nL) (hl1 : ((k0 : Nat), Value.int v) :: lv.filter (fun q => !(q.1 == (k0 : Nat)) && !(q.1 + 1 == (k0 : Nat) && q.2.category == 2)) = lv') (hp : pc + 1 = pc') (k : xG p l e R s m args below meth c D A nL Q kc ks pc' (st) gs lv') : xG p l e R s m args below meth c D A nL Q kc ks pc (.int x :: st) gs lv := by
  subst hp
  intro H locs hP hD hS ls hl
  subst hv
  exact lv_istore_n C.1.1 C.1.2.1 d rfl hl hn hl1 (fun ls hl => k H locs hP hD hS ls hl)
theorem g_istore {i : Nat} {x v : Int32} (C : xC p s m args c cc own nL D tys A) (d : decode cc pc = .ok (.istore i, 2)) (hv : x = v) (hn : i < nL) (hl1 : (i, Value.int v) :: lv.filter (fun q => !(q.1 == i) && !(q.1 + 1 == i && q.2.category == 2)) = lv') (hp : pc + 2 = pc') (k : xG p l e R s m args below meth c D A nL Q kc ks pc' (st) gs lv') : xG p l e R s m args below meth c D A nL Q kc ks pc (.int x :: st) gs lv := by
  subst hp
  intro H locs hP hD hS ls hl
  subst hv
  exact lv_istore C.1.1 C.1.2.1 d hl hn hl1 (fun ls hl => k H locs hP hD hS ls hl)
theorem g_lload_n {k0 : Fin 4} {x : Int64} (C : xC p s m args c cc own nL D tys A) (d : decode cc pc = .ok (.lload_n k0, 1)) (j : Nat) (hj : lv[j]? = some ((k0 : Nat), .long x)) (hp : pc + 1 = pc') (k : xG p l e R s m args below meth c D A nL Q kc ks pc' (.long x :: st) gs lv) : xG p l e R s m args below meth c D A nL Q kc ks pc (st) gs lv := by
  subst hp
  intro H locs hP hD hS ls hl
  exact lv_lload_n C.1.1 C.1.2.1 d rfl (lv_at hl j hj) (k H locs hP hD hS ls hl)
theorem g_lload {i : Nat} {x : Int64} (C : xC p s m args c cc own nL D tys A) (d : decode cc pc = .ok (.lload i, 2)) (j : Nat) (hj : lv[j]? = some (i, .long x)) (hp : pc + 2 = pc') (k : xG p l e R s m args below meth c D A nL Q kc ks pc' (.long x :: st) gs lv) : xG p l e R s m args below meth c D A nL Q kc ks pc (st) gs lv := by
  subst hp
  intro H locs hP hD hS ls hl
  exact lv_lload C.1.1 C.1.2.1 d (lv_at hl j hj) (k H locs hP hD hS ls hl)
theorem g_lstore_n {k0 : Fin 4} {x v : Int64} (C : xC p s m args c cc own nL D tys A) (d : decode cc pc = .ok (.lstore_n k0, 1)) (hv : x = v) (hn : (k0 : Nat) + 1 < nL) (hl1 : ((k0 : Nat), Value.long v) :: lv.filter (fun q => !(q.1 == (k0 : Nat)) && (!(q.1 == (k0 : Nat) + 1) && !(q.1 + 1 == (k0 : Nat) && q.2.category == 2))) = lv') (hp : pc + 1 = pc') (k : xG p l e R s m args below meth c D A nL Q kc ks pc' (st) gs lv') : xG p l e R s m args below meth c D A nL Q kc ks pc (.long x :: st) gs lv := by
  subst hp
  intro H locs hP hD hS ls hl
  subst hv
  exact lv_lstore_n C.1.1 C.1.2.1 d rfl hl hn hl1 (fun ls hl => k H locs hP hD hS ls hl)
theorem g_lstore {i : Nat} {x v : Int64} (C : xC p s m args c cc own nL D tys A) (d : decode cc pc = .ok (.lstore i, 2)) (hv : x = v) (hn : i + 1 < nL) (hl1 : (i, Value.long v) :: lv.filter (fun q => !(q.1 == i) && (!(q.1 == i + 1) && !(q.1 + 1 == i && q.2.category == 2))) = lv') (hp : pc + 2 = pc') (k : xG p l e R s m args below meth c D A nL Q kc ks pc' (st) gs lv') : xG p l e R s m args below meth c D A nL Q kc ks pc (.long x :: st) gs lv := by
  subst hp
  intro H locs hP hD hS ls hl
  subst hv
  exact lv_lstore C.1.1 C.1.2.1 d hl hn hl1 (fun ls hl => k H locs hP hD hS ls hl)
theorem g_aload_n {k0 : Fin 4} {x : Nat} (C : xC p s m args c cc own nL D tys A) (d : decode cc pc = .ok (.aload_n k0, 1)) (j : Nat) (hj : lv[j]? = some ((k0 : Nat), .ref x)) (hp : pc + 1 = pc') (k : xG p l e R s m args below meth c D A nL Q kc ks pc' (.ref x :: st) gs lv) : xG p l e R s m args below meth c D A nL Q kc ks pc (st) gs lv := by
  subst hp
  intro H locs hP hD hS ls hl
  exact lv_aload_n C.1.1 C.1.2.1 d rfl (lv_at hl j hj) (k H locs hP hD hS ls hl)
theorem g_astore_n {k0 : Fin 4} {x : Nat} (C : xC p s m args c cc own nL D tys A) (d : decode cc pc = .ok (.astore_n k0, 1)) (hn : (k0 : Nat) < nL) (hl1 : ((k0 : Nat), Value.ref x) :: lv.filter (fun q => !(q.1 == (k0 : Nat)) && !(q.1 + 1 == (k0 : Nat) && q.2.category == 2)) = lv') (hp : pc + 1 = pc') (k : xG p l e R s m args below meth c D A nL Q kc ks pc' (st) gs lv') : xG p l e R s m args below meth c D A nL Q kc ks pc (.ref x :: st) gs lv := by
  subst hp
  intro H locs hP hD hS ls hl
  exact lv_astore_n C.1.1 C.1.2.1 d rfl hl hn hl1 (fun ls hl => k H locs hP hD hS ls hl)
theorem g_iinc {i j : Nat} {n : Int} {x v : Int32} (C : xC p s m args c cc own nL D tys A) (d : decode cc pc = .ok (.iinc i n, 3)) (hj : lv[j]? = some (i, .int x)) (hv : x + Int32.ofInt n = v) (hn : i < nL) (hl1 : (i, Value.int v) :: lv.filter (fun q => !(q.1 == i) && !(q.1 + 1 == i && q.2.category == 2)) = lv') (hp : pc + 3 = pc') (k : xG p l e R s m args below meth c D A nL Q kc ks pc' (st) gs lv') : xG p l e R s m args below meth c D A nL Q kc ks pc (st) gs lv := by
  subst hp
  intro H locs hP hD hS ls hl
  exact lv_iinc C.1.1 C.1.2.1 d hl hj hv hn hl1 (fun ls hl => k H locs hP hD hS ls hl)
theorem g_iadd {x y : Int32} (C : xC p s m args c cc own nL D tys A) (d : decode cc pc = .ok (.iadd, 1)) (hp : pc + 1 = pc') (k : xG p l e R s m args below meth c D A nL Q kc ks pc' (.int (x + y) :: st) gs lv) : xG p l e R s m args below meth c D A nL Q kc ks pc (.int y :: .int x :: st) gs lv := by
  subst hp
  intro H locs hP hD hS ls hl
  exact lv_iadd C.1.1 C.1.2.1 d (k H locs hP hD hS ls hl)
theorem g_isub {x y : Int32} (C : xC p s m args c cc own nL D tys A) (d : decode cc pc = .ok (.isub, 1)) (hp : pc + 1 = pc') (k : xG p l e R s m args below meth c D A nL Q kc ks pc' (.int (x - y) :: st) gs lv) : xG p l e R s m args below meth c D A nL Q kc ks pc (.int y :: .int x :: st) gs lv := by
  subst hp
  intro H locs hP hD hS ls hl
  exact lv_isub C.1.1 C.1.2.1 d (k H locs hP hD hS ls hl)
theorem g_imul {x y : Int32} (C : xC p s m args c cc own nL D tys A) (d : decode cc pc = .ok (.imul, 1)) (hp : pc + 1 = pc') (k : xG p l e R s m args below meth c D A nL Q kc ks pc' (.int (x * y) :: st) gs lv) : xG p l e R s m args below meth c D A nL Q kc ks pc (.int y :: .int x :: st) gs lv := by
  subst hp
  intro H locs hP hD hS ls hl
  exact lv_imul C.1.1 C.1.2.1 d (k H locs hP hD hS ls hl)
theorem g_iand {x y : Int32} (C : xC p s m args c cc own nL D tys A) (d : decode cc pc = .ok (.iand, 1)) (hp : pc + 1 = pc') (k : xG p l e R s m args below meth c D A nL Q kc ks pc' (.int (x &&& y) :: st) gs lv) : xG p l e R s m args below meth c D A nL Q kc ks pc (.int y :: .int x :: st) gs lv := by
  subst hp
  intro H locs hP hD hS ls hl
  exact lv_iand C.1.1 C.1.2.1 d (k H locs hP hD hS ls hl)
theorem g_ior {x y : Int32} (C : xC p s m args c cc own nL D tys A) (d : decode cc pc = .ok (.ior, 1)) (hp : pc + 1 = pc') (k : xG p l e R s m args below meth c D A nL Q kc ks pc' (.int (x ||| y) :: st) gs lv) : xG p l e R s m args below meth c D A nL Q kc ks pc (.int y :: .int x :: st) gs lv := by
  subst hp
  intro H locs hP hD hS ls hl
  exact lv_ior C.1.1 C.1.2.1 d (k H locs hP hD hS ls hl)
theorem g_ixor {x y : Int32} (C : xC p s m args c cc own nL D tys A) (d : decode cc pc = .ok (.ixor, 1)) (hp : pc + 1 = pc') (k : xG p l e R s m args below meth c D A nL Q kc ks pc' (.int (x ^^^ y) :: st) gs lv) : xG p l e R s m args below meth c D A nL Q kc ks pc (.int y :: .int x :: st) gs lv := by
  subst hp
  intro H locs hP hD hS ls hl
  exact lv_ixor C.1.1 C.1.2.1 d (k H locs hP hD hS ls hl)
theorem g_ishl {x y : Int32} (C : xC p s m args c cc own nL D tys A) (d : decode cc pc = .ok (.ishl, 1)) (hp : pc + 1 = pc') (k : xG p l e R s m args below meth c D A nL Q kc ks pc' (.int (x <<< (y &&& 31)) :: st) gs lv) : xG p l e R s m args below meth c D A nL Q kc ks pc (.int y :: .int x :: st) gs lv := by
  subst hp
  intro H locs hP hD hS ls hl
  exact lv_ishl C.1.1 C.1.2.1 d (k H locs hP hD hS ls hl)
theorem g_ishr {x y : Int32} (C : xC p s m args c cc own nL D tys A) (d : decode cc pc = .ok (.ishr, 1)) (hp : pc + 1 = pc') (k : xG p l e R s m args below meth c D A nL Q kc ks pc' (.int (x >>> (y &&& 31)) :: st) gs lv) : xG p l e R s m args below meth c D A nL Q kc ks pc (.int y :: .int x :: st) gs lv := by
  subst hp
  intro H locs hP hD hS ls hl
  exact lv_ishr C.1.1 C.1.2.1 d (k H locs hP hD hS ls hl)
theorem g_iushr {x y : Int32} (C : xC p s m args c cc own nL D tys A) (d : decode cc pc = .ok (.iushr, 1)) (hp : pc + 1 = pc') (k : xG p l e R s m args below meth c D A nL Q kc ks pc' (.int (x.toUInt32 >>> (y.toUInt32 &&& Int32.toUInt32 31)).toInt32 :: st) gs lv) : xG p l e R s m args below meth c D A nL Q kc ks pc (.int y :: .int x :: st) gs lv := by
  subst hp
  intro H locs hP hD hS ls hl
  exact lv_iushr C.1.1 C.1.2.1 d rfl (k H locs hP hD hS ls hl)
theorem g_idiv {x y : Int32} (C : xC p s m args c cc own nL D tys A) (d : decode cc pc = .ok (.idiv, 1)) (hne : ¬ y = 0) (hp : pc + 1 = pc') (k : xG p l e R s m args below meth c D A nL Q kc ks pc' (.int (x / y) :: st) gs lv) : xG p l e R s m args below meth c D A nL Q kc ks pc (.int y :: .int x :: st) gs lv := by
  subst hp
  intro H locs hP hD hS ls hl
  exact lv_idiv C.1.1 C.1.2.1 d hne (k H locs hP hD hS ls hl)
theorem g_irem {x y : Int32} (C : xC p s m args c cc own nL D tys A) (d : decode cc pc = .ok (.irem, 1)) (hne : ¬ y = 0) (hp : pc + 1 = pc') (k : xG p l e R s m args below meth c D A nL Q kc ks pc' (.int (x - x / y * y) :: st) gs lv) : xG p l e R s m args below meth c D A nL Q kc ks pc (.int y :: .int x :: st) gs lv := by
  subst hp
  intro H locs hP hD hS ls hl
  exact lv_irem C.1.1 C.1.2.1 d hne (k H locs hP hD hS ls hl)
theorem g_ineg {x : Int32} (C : xC p s m args c cc own nL D tys A) (d : decode cc pc = .ok (.ineg, 1)) (hp : pc + 1 = pc') (k : xG p l e R s m args below meth c D A nL Q kc ks pc' (.int (-x) :: st) gs lv) : xG p l e R s m args below meth c D A nL Q kc ks pc (.int x :: st) gs lv := by
  subst hp
  intro H locs hP hD hS ls hl
  exact lv_ineg C.1.1 C.1.2.1 d (k H locs hP hD hS ls hl)
theorem g_ladd {x y : Int64} (C : xC p s m args c cc own nL D tys A) (d : decode cc pc = .ok (.ladd, 1)) (hp : pc + 1 = pc') (k : xG p l e R s m args below meth c D A nL Q kc ks pc' (.long (x + y) :: st) gs lv) : xG p l e R s m args below meth c D A nL Q kc ks pc (.long y :: .long x :: st) gs lv := by
  subst hp
  intro H locs hP hD hS ls hl
  exact lv_ladd C.1.1 C.1.2.1 d (k H locs hP hD hS ls hl)
theorem g_lsub {x y : Int64} (C : xC p s m args c cc own nL D tys A) (d : decode cc pc = .ok (.lsub, 1)) (hp : pc + 1 = pc') (k : xG p l e R s m args below meth c D A nL Q kc ks pc' (.long (x - y) :: st) gs lv) : xG p l e R s m args below meth c D A nL Q kc ks pc (.long y :: .long x :: st) gs lv := by
  subst hp
  intro H locs hP hD hS ls hl
  exact lv_lsub C.1.1 C.1.2.1 d (k H locs hP hD hS ls hl)
theorem g_lmul {x y : Int64} (C : xC p s m args c cc own nL D tys A) (d : decode cc pc = .ok (.lmul, 1)) (hp : pc + 1 = pc') (k : xG p l e R s m args below meth c D A nL Q kc ks pc' (.long (x * y) :: st) gs lv) : xG p l e R s m args below meth c D A nL Q kc ks pc (.long y :: .long x :: st) gs lv := by
  subst hp
  intro H locs hP hD hS ls hl
  exact lv_lmul C.1.1 C.1.2.1 d (k H locs hP hD hS ls hl)
theorem g_ldiv {x y : Int64} (C : xC p s m args c cc own nL D tys A) (d : decode cc pc = .ok (.ldiv, 1)) (hne : ¬ y = 0) (hp : pc + 1 = pc') (k : xG p l e R s m args below meth c D A nL Q kc ks pc' (.long (x / y) :: st) gs lv) : xG p l e R s m args below meth c D A nL Q kc ks pc (.long y :: .long x :: st) gs lv := by
  subst hp
  intro H locs hP hD hS ls hl
  exact lv_ldiv C.1.1 C.1.2.1 d hne (k H locs hP hD hS ls hl)
theorem g_lrem {x y : Int64} (C : xC p s m args c cc own nL D tys A) (d : decode cc pc = .ok (.lrem, 1)) (hne : ¬ y = 0) (hp : pc + 1 = pc') (k : xG p l e R s m args below meth c D A nL Q kc ks pc' (.long (x - x / y * y) :: st) gs lv) : xG p l e R s m args below meth c D A nL Q kc ks pc (.long y :: .long x :: st) gs lv := by
  subst hp
  intro H locs hP hD hS ls hl
  exact lv_lrem C.1.1 C.1.2.1 d hne (k H locs hP hD hS ls hl)
theorem g_lcmp {x y : Int64} (C : xC p s m args c cc own nL D tys A) (d : decode cc pc = .ok (.lcmp, 1)) (hp : pc + 1 = pc') (k : xG p l e R s m args below meth c D A nL Q kc ks pc' (.int (lg_cmp x y) :: st) gs lv) : xG p l e R s m args below meth c D A nL Q kc ks pc (.long y :: .long x :: st) gs lv := by
  subst hp
  intro H locs hP hD hS ls hl
  exact W.lcmp C.1.1 C.1.2.1 d (k H locs hP hD hS ls hl)
theorem g_i2l {x : Int32} (C : xC p s m args c cc own nL D tys A) (d : decode cc pc = .ok (.i2l, 1)) (hp : pc + 1 = pc') (k : xG p l e R s m args below meth c D A nL Q kc ks pc' (.long x.toInt64 :: st) gs lv) : xG p l e R s m args below meth c D A nL Q kc ks pc (.int x :: st) gs lv := by
  subst hp
  intro H locs hP hD hS ls hl
  exact lv_i2l C.1.1 C.1.2.1 d rfl (k H locs hP hD hS ls hl)
theorem g_dup {va : Value} (C : xC p s m args c cc own nL D tys A) (d : decode cc pc = .ok (.dup, 1)) (ha : va.category = 1) (hp : pc + 1 = pc') (k : xG p l e R s m args below meth c D A nL Q kc ks pc' (va :: va :: st) gs lv) : xG p l e R s m args below meth c D A nL Q kc ks pc (va :: st) gs lv := by
  subst hp
  intro H locs hP hD hS ls hl
  exact lv_dup C.1.1 C.1.2.1 d ha (k H locs hP hD hS ls hl)
theorem g_pop {va : Value} (C : xC p s m args c cc own nL D tys A) (d : decode cc pc = .ok (.pop, 1)) (ha : va.category = 1) (hp : pc + 1 = pc') (k : xG p l e R s m args below meth c D A nL Q kc ks pc' (st) gs lv) : xG p l e R s m args below meth c D A nL Q kc ks pc (va :: st) gs lv := by
  subst hp
  intro H locs hP hD hS ls hl
  exact lv_pop C.1.1 C.1.2.1 d ha (k H locs hP hD hS ls hl)
theorem g_dup2 {va vb : Value} (C : xC p s m args c cc own nL D tys A) (d : decode cc pc = .ok (.dup2, 1)) (ha : va.category = 1) (hb : vb.category = 1) (hp : pc + 1 = pc') (k : xG p l e R s m args below meth c D A nL Q kc ks pc' (va :: vb :: va :: vb :: st) gs lv) : xG p l e R s m args below meth c D A nL Q kc ks pc (va :: vb :: st) gs lv := by
  subst hp
  intro H locs hP hD hS ls hl
  exact lv_dup2_11 C.1.1 C.1.2.1 d ha hb (k H locs hP hD hS ls hl)
theorem g_goto {off : Int} (C : xC p s m args c cc own nL D tys A) (d : decode cc pc = .ok (.goto off, 3)) (ht : (pc : Int) + off = (pc' : Int)) (hp : pc' = pc') (k : xG p l e R s m args below meth c D A nL Q kc ks pc' (st) gs lv) : xG p l e R s m args below meth c D A nL Q kc ks pc (st) gs lv := by
  skip
  intro H locs hP hD hS ls hl
  exact lv_goto C.1.1 C.1.2.1 d ht (k H locs hP hD hS ls hl)
theorem g_ifnonnull {x : Nat} {off : Int} (C : xC p s m args c cc own nL D tys A) (d : decode cc pc = .ok (.ifnonnull off, 3)) (ht : (pc : Int) + off = (pc' : Int)) (hp : pc' = pc') (k : xG p l e R s m args below meth c D A nL Q kc ks pc' (st) gs lv) : xG p l e R s m args below meth c D A nL Q kc ks pc (.ref x :: st) gs lv := by
  skip
  intro H locs hP hD hS ls hl
  exact lv_ifnonnull C.1.1 C.1.2.1 d ht (k H locs hP hD hS ls hl)
theorem g_ifnull {x : Nat} {off : Int} (C : xC p s m args c cc own nL D tys A) (d : decode cc pc = .ok (.ifnull off, 3)) (hp : pc + 3 = pc') (k : xG p l e R s m args below meth c D A nL Q kc ks pc' (st) gs lv) : xG p l e R s m args below meth c D A nL Q kc ks pc (.ref x :: st) gs lv := by
  subst hp
  intro H locs hP hD hS ls hl
  exact lv_ifnull C.1.1 C.1.2.1 d (k H locs hP hD hS ls hl)
theorem g_if_eq {x : Int32} {off : Int} {tgt : Nat} {A1 B1 : Prop} (C : xC p s m args c cc own nL D tys A) (d : decode cc pc = .ok (.ifCond .eq off, 3)) (ht : (pc : Int) + off = (tgt : Int)) (hp : pc + 3 = pc') (hw : (x = 0 → A1) ∧ (¬ x = 0 → B1)) (kt : x = 0 → A1 → xG p l e R s m args below meth c D A nL Q kc ks tgt st gs lv) (kf : ¬ x = 0 → B1 → xG p l e R s m args below meth c D A nL Q kc ks pc' st gs lv) : xG p l e R s m args below meth c D A nL Q kc ks pc (.int x :: st) gs lv := by
  subst hp
  intro H locs hP hD hS ls hl
  exact lv_if_eq C.1.1 C.1.2.1 d ht (fun h => kt h (hw.1 h) H locs hP hD hS ls hl) (fun h => kf h (hw.2 h) H locs hP hD hS ls hl)
theorem g_if_ne {x : Int32} {off : Int} {tgt : Nat} {A1 B1 : Prop} (C : xC p s m args c cc own nL D tys A) (d : decode cc pc = .ok (.ifCond .ne off, 3)) (ht : (pc : Int) + off = (tgt : Int)) (hp : pc + 3 = pc') (hw : (x = 0 → A1) ∧ (¬ x = 0 → B1)) (kt : ¬ x = 0 → B1 → xG p l e R s m args below meth c D A nL Q kc ks tgt st gs lv) (kf : x = 0 → A1 → xG p l e R s m args below meth c D A nL Q kc ks pc' st gs lv) : xG p l e R s m args below meth c D A nL Q kc ks pc (.int x :: st) gs lv := by
  subst hp
  intro H locs hP hD hS ls hl
  exact lv_if_ne C.1.1 C.1.2.1 d ht (fun h => kt h (hw.2 h) H locs hP hD hS ls hl) (fun h => kf h (hw.1 h) H locs hP hD hS ls hl)
theorem g_if_lt {x : Int32} {off : Int} {tgt : Nat} {A1 B1 : Prop} (C : xC p s m args c cc own nL D tys A) (d : decode cc pc = .ok (.ifCond .lt off, 3)) (ht : (pc : Int) + off = (tgt : Int)) (hp : pc + 3 = pc') (hw : (x < 0 → A1) ∧ (¬ x < 0 → B1)) (kt : x < 0 → A1 → xG p l e R s m args below meth c D A nL Q kc ks tgt st gs lv) (kf : ¬ x < 0 → B1 → xG p l e R s m args below meth c D A nL Q kc ks pc' st gs lv) : xG p l e R s m args below meth c D A nL Q kc ks pc (.int x :: st) gs lv := by
  subst hp
  intro H locs hP hD hS ls hl
  exact lv_if_lt C.1.1 C.1.2.1 d ht (fun h => kt h (hw.1 h) H locs hP hD hS ls hl) (fun h => kf h (hw.2 h) H locs hP hD hS ls hl)
theorem g_if_ge {x : Int32} {off : Int} {tgt : Nat} {A1 B1 : Prop} (C : xC p s m args c cc own nL D tys A) (d : decode cc pc = .ok (.ifCond .ge off, 3)) (ht : (pc : Int) + off = (tgt : Int)) (hp : pc + 3 = pc') (hw : (0 ≤ x → A1) ∧ (¬ 0 ≤ x → B1)) (kt : 0 ≤ x → A1 → xG p l e R s m args below meth c D A nL Q kc ks tgt st gs lv) (kf : ¬ 0 ≤ x → B1 → xG p l e R s m args below meth c D A nL Q kc ks pc' st gs lv) : xG p l e R s m args below meth c D A nL Q kc ks pc (.int x :: st) gs lv := by
  subst hp
  intro H locs hP hD hS ls hl
  exact lv_if_ge C.1.1 C.1.2.1 d ht (fun h => kt h (hw.1 h) H locs hP hD hS ls hl) (fun h => kf h (hw.2 h) H locs hP hD hS ls hl)
theorem g_if_gt {x : Int32} {off : Int} {tgt : Nat} {A1 B1 : Prop} (C : xC p s m args c cc own nL D tys A) (d : decode cc pc = .ok (.ifCond .gt off, 3)) (ht : (pc : Int) + off = (tgt : Int)) (hp : pc + 3 = pc') (hw : (0 < x → A1) ∧ (¬ 0 < x → B1)) (kt : 0 < x → A1 → xG p l e R s m args below meth c D A nL Q kc ks tgt st gs lv) (kf : ¬ 0 < x → B1 → xG p l e R s m args below meth c D A nL Q kc ks pc' st gs lv) : xG p l e R s m args below meth c D A nL Q kc ks pc (.int x :: st) gs lv := by
  subst hp
  intro H locs hP hD hS ls hl
  exact lv_if_gt C.1.1 C.1.2.1 d ht (fun h => kt h (hw.1 h) H locs hP hD hS ls hl) (fun h => kf h (hw.2 h) H locs hP hD hS ls hl)
theorem g_if_le {x : Int32} {off : Int} {tgt : Nat} {A1 B1 : Prop} (C : xC p s m args c cc own nL D tys A) (d : decode cc pc = .ok (.ifCond .le off, 3)) (ht : (pc : Int) + off = (tgt : Int)) (hp : pc + 3 = pc') (hw : (x ≤ 0 → A1) ∧ (¬ x ≤ 0 → B1)) (kt : x ≤ 0 → A1 → xG p l e R s m args below meth c D A nL Q kc ks tgt st gs lv) (kf : ¬ x ≤ 0 → B1 → xG p l e R s m args below meth c D A nL Q kc ks pc' st gs lv) : xG p l e R s m args below meth c D A nL Q kc ks pc (.int x :: st) gs lv := by
  subst hp
  intro H locs hP hD hS ls hl
  exact lv_if_le C.1.1 C.1.2.1 d ht (fun h => kt h (hw.1 h) H locs hP hD hS ls hl) (fun h => kf h (hw.2 h) H locs hP hD hS ls hl)
theorem g_icmp_eq {x y : Int32} {off : Int} {tgt : Nat} {A1 B1 : Prop} (C : xC p s m args c cc own nL D tys A) (d : decode cc pc = .ok (.if_icmp .eq off, 3)) (ht : (pc : Int) + off = (tgt : Int)) (hp : pc + 3 = pc') (hw : (x = y → A1) ∧ (¬ x = y → B1)) (kt : x = y → A1 → xG p l e R s m args below meth c D A nL Q kc ks tgt st gs lv) (kf : ¬ x = y → B1 → xG p l e R s m args below meth c D A nL Q kc ks pc' st gs lv) : xG p l e R s m args below meth c D A nL Q kc ks pc (.int y :: .int x :: st) gs lv := by
  subst hp
  intro H locs hP hD hS ls hl
  exact lv_icmp_eq C.1.1 C.1.2.1 d ht (fun h => kt h (hw.1 h) H locs hP hD hS ls hl) (fun h => kf h (hw.2 h) H locs hP hD hS ls hl)
theorem g_icmp_ne {x y : Int32} {off : Int} {tgt : Nat} {A1 B1 : Prop} (C : xC p s m args c cc own nL D tys A) (d : decode cc pc = .ok (.if_icmp .ne off, 3)) (ht : (pc : Int) + off = (tgt : Int)) (hp : pc + 3 = pc') (hw : (x = y → A1) ∧ (¬ x = y → B1)) (kt : ¬ x = y → B1 → xG p l e R s m args below meth c D A nL Q kc ks tgt st gs lv) (kf : x = y → A1 → xG p l e R s m args below meth c D A nL Q kc ks pc' st gs lv) : xG p l e R s m args below meth c D A nL Q kc ks pc (.int y :: .int x :: st) gs lv := by
  subst hp
  intro H locs hP hD hS ls hl
  exact lv_icmp_ne C.1.1 C.1.2.1 d ht (fun h => kt h (hw.2 h) H locs hP hD hS ls hl) (fun h => kf h (hw.1 h) H locs hP hD hS ls hl)
theorem g_icmp_lt {x y : Int32} {off : Int} {tgt : Nat} {A1 B1 : Prop} (C : xC p s m args c cc own nL D tys A) (d : decode cc pc = .ok (.if_icmp .lt off, 3)) (ht : (pc : Int) + off = (tgt : Int)) (hp : pc + 3 = pc') (hw : (x < y → A1) ∧ (¬ x < y → B1)) (kt : x < y → A1 → xG p l e R s m args below meth c D A nL Q kc ks tgt st gs lv) (kf : ¬ x < y → B1 → xG p l e R s m args below meth c D A nL Q kc ks pc' st gs lv) : xG p l e R s m args below meth c D A nL Q kc ks pc (.int y :: .int x :: st) gs lv := by
  subst hp
  intro H locs hP hD hS ls hl
  exact lv_icmp_lt C.1.1 C.1.2.1 d ht (fun h => kt h (hw.1 h) H locs hP hD hS ls hl) (fun h => kf h (hw.2 h) H locs hP hD hS ls hl)
theorem g_icmp_ge {x y : Int32} {off : Int} {tgt : Nat} {A1 B1 : Prop} (C : xC p s m args c cc own nL D tys A) (d : decode cc pc = .ok (.if_icmp .ge off, 3)) (ht : (pc : Int) + off = (tgt : Int)) (hp : pc + 3 = pc') (hw : (y ≤ x → A1) ∧ (¬ y ≤ x → B1)) (kt : y ≤ x → A1 → xG p l e R s m args below meth c D A nL Q kc ks tgt st gs lv) (kf : ¬ y ≤ x → B1 → xG p l e R s m args below meth c D A nL Q kc ks pc' st gs lv) : xG p l e R s m args below meth c D A nL Q kc ks pc (.int y :: .int x :: st) gs lv := by
  subst hp
  intro H locs hP hD hS ls hl
  exact lv_icmp_ge C.1.1 C.1.2.1 d ht (fun h => kt h (hw.1 h) H locs hP hD hS ls hl) (fun h => kf h (hw.2 h) H locs hP hD hS ls hl)
theorem g_icmp_gt {x y : Int32} {off : Int} {tgt : Nat} {A1 B1 : Prop} (C : xC p s m args c cc own nL D tys A) (d : decode cc pc = .ok (.if_icmp .gt off, 3)) (ht : (pc : Int) + off = (tgt : Int)) (hp : pc + 3 = pc') (hw : (y < x → A1) ∧ (¬ y < x → B1)) (kt : y < x → A1 → xG p l e R s m args below meth c D A nL Q kc ks tgt st gs lv) (kf : ¬ y < x → B1 → xG p l e R s m args below meth c D A nL Q kc ks pc' st gs lv) : xG p l e R s m args below meth c D A nL Q kc ks pc (.int y :: .int x :: st) gs lv := by
  subst hp
  intro H locs hP hD hS ls hl
  exact lv_icmp_gt C.1.1 C.1.2.1 d ht (fun h => kt h (hw.1 h) H locs hP hD hS ls hl) (fun h => kf h (hw.2 h) H locs hP hD hS ls hl)
theorem g_icmp_le {x y : Int32} {off : Int} {tgt : Nat} {A1 B1 : Prop} (C : xC p s m args c cc own nL D tys A) (d : decode cc pc = .ok (.if_icmp .le off, 3)) (ht : (pc : Int) + off = (tgt : Int)) (hp : pc + 3 = pc') (hw : (x ≤ y → A1) ∧ (¬ x ≤ y → B1)) (kt : x ≤ y → A1 → xG p l e R s m args below meth c D A nL Q kc ks tgt st gs lv) (kf : ¬ x ≤ y → B1 → xG p l e R s m args below meth c D A nL Q kc ks pc' st gs lv) : xG p l e R s m args below meth c D A nL Q kc ks pc (.int y :: .int x :: st) gs lv := by
  subst hp
  intro H locs hP hD hS ls hl
  exact lv_icmp_le C.1.1 C.1.2.1 d ht (fun h => kt h (hw.1 h) H locs hP hD hS ls hl) (fun h => kf h (hw.2 h) H locs hP hD hS ls hl)
theorem g_tswIn {lo hi dflt : Int} {offs : Array Int} {len : Nat} {x : Int32} {off : Int} (C : xC p s m args c cc own nL D tys A) (d : decode cc pc = .ok (.tableswitch dflt lo hi offs, len)) (v : Int32) (hx : x = v) (h1 : decide (lo ≤ v.toInt) = true) (h2 : decide (v.toInt ≤ hi) = true) (ho : offs[(v.toInt - lo).toNat]? = some off) (ht : (pc : Int) + off = (pc' : Int)) (k : xG p l e R s m args below meth c D A nL Q kc ks pc' st gs lv) : xG p l e R s m args below meth c D A nL Q kc ks pc (.int x :: st) gs lv := by
  subst hx
  intro H locs hP hD hS ls hl
  exact lv_tableIn C.1.1 C.1.2.1 d (Int.not_lt.mpr (of_decide_eq_true h1)) (Int.not_lt.mpr (of_decide_eq_true h2)) ho ht (k H locs hP hD hS ls hl)
theorem g_tswOut {lo hi dflt : Int} {offs : Array Int} {len : Nat} {x : Int32} (C : xC p s m args c cc own nL D tys A) (d : decode cc pc = .ok (.tableswitch dflt lo hi offs, len)) (h : x.toInt < lo ∨ hi < x.toInt) (ht : (pc : Int) + dflt = (pc' : Int)) (k : xG p l e R s m args below meth c D A nL Q kc ks pc' st gs lv) : xG p l e R s m args below meth c D A nL Q kc ks pc (.int x :: st) gs lv := by
  intro H locs hP hD hS ls hl
  exact lv_tableOut C.1.1 C.1.2.1 d h ht (k H locs hP hD hS ls hl)
theorem g_lsw {dflt : Int} {ps : Array (Int × Int)} {len : Nat} {x : Int32} {off : Int} (C : xC p s m args c cc own nL D tys A) (d : decode cc pc = .ok (.lookupswitch dflt ps, len)) (hs : (ps.toList.zip (ps.toList.drop 1)).all (fun (a, next) => a.1 < next.1) = true) (ho : Op.lookupswitch.offset ps.toList dflt x.toInt = off) (ht : (pc : Int) + off = (pc' : Int)) (k : xG p l e R s m args below meth c D A nL Q kc ks pc' st gs lv) : xG p l e R s m args below meth c D A nL Q kc ks pc (.int x :: st) gs lv := by
  intro H locs hP hD hS ls hl
  exact lv_lookup C.1.1 C.1.2.1 d hs ho ht (k H locs hP hD hS ls hl)
theorem g_get {ref Cl : String} {T : u_T} {N ci ix : Nat} {a : Nat} {fs : List Value} {g : va_W} {v : Value} (C : xC p s m args c cc own nL D tys A) (d : decode cc pc = .ok (.getfield ix, 3)) (hin : ∀ w ∈ u_ws Cl T N, w ∈ gTbl) (hc : vwCl[ci]? = some (Cl, T, N)) (i j f : Nat) (hg : gs[i]? = some g) (hj : g[j]? = some (a, .inr (ci, fs))) (hf : f < N) (hr : (T f).1 = ref) (hm : Cond.fieldLink own ix ref (T f).2.1 (T f).2.2.1 ∈ gTbl) (hv : fs[f]? = some v) (hp : pc + 3 = pc') (k : xG p l e R s m args below meth c D A nL Q kc ks pc' (v :: st) gs lv) : xG p l e R s m args below meth c D A nL Q kc ks pc (.ref a :: st) gs lv := by
  subst hp; subst hr
  intro H locs hP hD hS ls hl
  obtain ⟨q, hq, -⟩ := flat_at gs i j g hg hj
  exact va_get C.1.1 C.1.2.1 C.1.2.2.2.2 hin C.1.2.2.2.1 C.2.1 hP q hq hc f hf (C.1.2.2.2.2 _ hm) (fun _ h => h) hv d (k H locs hP hD hS ls hl)
theorem g_put {ref Cl : String} {T : u_T} {N ci ix : Nat} {a : Nat} {fs : List Value} {g : va_W} {gs' : List va_W} {v v' : Value} {ty : FieldType} (C : xC p s m args c cc own nL D tys A) (d : decode cc pc = .ok (.putfield ix, 3)) (hin : ∀ w ∈ u_ws Cl T N, w ∈ gTbl) (ty0 : Nat → FieldType) (hty : ∀ k, k < N → parseFieldDescriptor (T k).2.2.1 = some (ty0 k)) (hnm : ∀ a, a < N → ∀ b, b < N → a ≠ b → (T a).2.1 ≠ (T b).2.1) (hc : vwCl[ci]? = some (Cl, T, N)) (i j f : Nat) (hg : gs[i]? = some g) (hj : g[j]? = some (a, .inr (ci, fs))) (hf : f < N) (hr : (T f).1 = ref) (hm : Cond.fieldLink own ix ref (T f).2.1 (T f).2.2.1 ∈ gTbl) (hfin : (T f).2.2.2 = false) (hd : parseFieldDescriptor (T f).2.2.1 = some ty) (hv : v = v') (hn : narrow ty v' = v') (hfit : fits ty v' = true) (hlen : f < fs.length) (hgs : gs.set i (g.set j (a, .inr (ci, fs.set f v'))) = gs') (hp : pc + 3 = pc') (k : xG p l e R s m args below meth c D A nL Q kc ks pc' st gs' lv) : xG p l e R s m args below meth c D A nL Q kc ks pc (v :: .ref a :: st) gs lv := by
  subst hp; subst hr; subst hv; subst hgs
  intro H locs hP hD hS ls hl
  obtain ⟨q, hq, hset⟩ := flat_at gs i j g hg hj
  refine va_put C.1.1 C.1.2.1 C.1.2.2.2.2 hin ty0 hty hnm C.1.2.2.2.1 C.2.1 hP hD hS q hq hc f hf (C.1.2.2.2.2 _ hm) (fun _ h => h) hfin hd hn hfit hlen d (fun H1 locs1 hP hD hS => ?_)
  rw [← hset] at hP hD
  exact k H1 locs1 hP hD hS ls hl
theorem g_iald {a : Nat} {cA : ClassId} {n : Nat} {f : Nat → Int32} {g : va_W} {x : Int32} (C : xC p s m args c cc own nL D tys A) (d : decode cc pc = .ok (.iaload, 1)) (i j : Nat) (hg : gs[i]? = some g) (hj : g[j]? = some (a, .inl (cA, n, .inl f))) (t0 : Nat) (ht : tys[t0]? = some (cA, .int)) (hin : vp_in x n) (hp : pc + 1 = pc') (k : xG p l e R s m args below meth c D A nL Q kc ks pc' (.int (f x.toNatClampNeg) :: st) gs lv) : xG p l e R s m args below meth c D A nL Q kc ks pc (.int x :: .ref a :: st) gs lv := by
  subst hp
  intro H locs hP hD hS ls hl
  obtain ⟨q, hq, -⟩ := flat_at gs i j g hg hj
  exact va_iald C.1.1 C.1.2.1 C.2.1 hP q t0 hq ht hin d (k H locs hP hD hS ls hl)
theorem g_iast {a : Nat} {cA : ClassId} {n : Nat} {f f' : Nat → Int32} {g : va_W} {gs' : List va_W} {x y : Int32} (C : xC p s m args c cc own nL D tys A) (d : decode cc pc = .ok (.iastore, 1)) (i j : Nat) (hg : gs[i]? = some g) (hj : g[j]? = some (a, .inl (cA, n, .inl f))) (t0 : Nat) (ht : tys[t0]? = some (cA, .int)) (hin : vp_in x n) (hf : upd f x.toNatClampNeg y = f') (hgs : gs.set i (g.set j (a, .inl (cA, n, .inl f'))) = gs') (hp : pc + 1 = pc') (k : xG p l e R s m args below meth c D A nL Q kc ks pc' st gs' lv) : xG p l e R s m args below meth c D A nL Q kc ks pc (.int y :: .int x :: .ref a :: st) gs lv := by
  subst hp; subst hf; subst hgs
  intro H locs hP hD hS ls hl
  obtain ⟨q, hq, hset⟩ := flat_at gs i j g hg hj
  refine va_iast C.1.1 C.1.2.1 C.2.1 hP hD hS q t0 hq ht hin d (fun H1 locs1 hP hD hS => ?_)
  rw [← hset] at hP hD
  exact k H1 locs1 hP hD hS ls hl
theorem g_aald {a : Nat} {cA : ClassId} {Cl : String} {n : Nat} {f : Nat → Option Nat} {g : va_W} {x : Int32} {b : Nat} (C : xC p s m args c cc own nL D tys A) (d : decode cc pc = .ok (.aaload, 1)) (i j : Nat) (hg : gs[i]? = some g) (hj : g[j]? = some (a, .inl (cA, n, .inr (.inr (.inr (.inr f)))))) (t0 : Nat) (ht : tys[t0]? = some (cA, .object Cl)) (hin : vp_in x n) (hb : f x.toNatClampNeg = some b) (hp : pc + 1 = pc') (k : xG p l e R s m args below meth c D A nL Q kc ks pc' (.ref b :: st) gs lv) : xG p l e R s m args below meth c D A nL Q kc ks pc (.int x :: .ref a :: st) gs lv := by
  subst hp
  intro H locs hP hD hS ls hl
  obtain ⟨q, hq, -⟩ := flat_at gs i j g hg hj
  refine va_aldq C.1.1 C.1.2.1 C.2.1 hP q t0 hq ht hin d ?_
  rw [hb]
  exact (k H locs hP hD hS ls hl)
theorem g_alen {a : Nat} {cA : ClassId} {x : vp_A} {ty : FieldType} {g : va_W} {v : Int32} (C : xC p s m args c cc own nL D tys A) (d : decode cc pc = .ok (.arraylength, 1)) (i j : Nat) (hg : gs[i]? = some g) (hj : g[j]? = some (a, .inl (cA, x))) (t0 : Nat) (ht : tys[t0]? = some (cA, ty)) (hv : Int32.ofNat x.1 = v) (hp : pc + 1 = pc') (k : xG p l e R s m args below meth c D A nL Q kc ks pc' (.int v :: st) gs lv) : xG p l e R s m args below meth c D A nL Q kc ks pc (.ref a :: st) gs lv := by
  subst hp
  intro H locs hP hD hS ls hl
  obtain ⟨q, hq, -⟩ := flat_at gs i j g hg hj
  exact va_alen C.1.1 C.1.2.1 C.2.1 hP q t0 hq ht hv d (k H locs hP hD hS ls hl)
theorem g_mmin {x y : Int32} {ix : Nat} (C : xC p s m args c cc own nL D tys A) (d : decode cc pc = .ok (.invokestatic ix, 3)) (h1 : Cond.methodLink own ix Lib.Math.min.name ∈ gTbl) (h2 : Cond.static Lib.Math.min.name ∈ gTbl) (h3 : Cond.initialized "java/lang/Math" ∈ gTbl) (h4 : Cond.code Lib.Math.min.name Lib.Math.min.code 2 (some .int) ∈ gTbl) (hR : 1 ≤ R.frames ∧ (st.map fun v => v.category).sum + 13 ≤ R.locals) (hr : kc ≤ R.cells ∧ ks ≤ R.slots) (hp : pc + 3 = pc') (k : xG p l e R s m args below meth c D A nL Q kc ks pc' (.int (if y < x then y else x) :: st) gs lv) : xG p l e R s m args below meth c D A nL Q kc ks pc (.int y :: .int x :: st) gs lv := by
  subst hp
  intro H locs hP hD hS ls hl
  exact va_mmin C.1.1 C.1.2.1 (C.1.2.2.1.trans hl.1.symm) C.1.2.2.2.1 (C.1.2.2.2.2 _ h1) (C.1.2.2.2.2 _ h2) (C.1.2.2.2.2 _ h3) (C.1.2.2.2.2 _ h4) hR.1 hR.2 hr.1 hr.2 d (k H locs hP hD hS ls hl)
theorem g_mmax {x y : Int32} {ix : Nat} (C : xC p s m args c cc own nL D tys A) (d : decode cc pc = .ok (.invokestatic ix, 3)) (h1 : Cond.methodLink own ix Lib.Math.max.name ∈ gTbl) (h2 : Cond.static Lib.Math.max.name ∈ gTbl) (h3 : Cond.initialized "java/lang/Math" ∈ gTbl) (h4 : Cond.code Lib.Math.max.name Lib.Math.max.code 2 (some .int) ∈ gTbl) (hR : 1 ≤ R.frames ∧ (st.map fun v => v.category).sum + 13 ≤ R.locals) (hr : kc ≤ R.cells ∧ ks ≤ R.slots) (hp : pc + 3 = pc') (k : xG p l e R s m args below meth c D A nL Q kc ks pc' (.int (if x < y then y else x) :: st) gs lv) : xG p l e R s m args below meth c D A nL Q kc ks pc (.int y :: .int x :: st) gs lv := by
  subst hp
  intro H locs hP hD hS ls hl
  exact va_mmax C.1.1 C.1.2.1 (C.1.2.2.1.trans hl.1.symm) C.1.2.2.2.1 (C.1.2.2.2.2 _ h1) (C.1.2.2.2.2 _ h2) (C.1.2.2.2.2 _ h3) (C.1.2.2.2.2 _ h4) hR.1 hR.2 hr.1 hr.2 d (k H locs hP hD hS ls hl)
theorem g_copy {ix : Nat} {a0 a : Nat} {c0 c1 : ClassId} {n0 n1 : Nat} {f g f' : Nat → Int32} {g0 g1 : va_W} {gs' : List va_W} {sp dp n : Int32} (C : xC p s m args c cc own nL D tys A) (d : decode cc pc = .ok (.invokestatic ix, 3)) (h1 : Cond.methodLink own ix arraycopyName ∈ gTbl) (h2 : Cond.native arraycopyName ∈ gTbl) (h3 : Cond.static arraycopyName ∈ gTbl) (h4 : Cond.initialized "java/lang/System" ∈ gTbl) (i0 j0 i j : Nat) (hg0 : gs[i0]? = some g0) (hj0 : g0[j0]? = some (a0, .inl (c0, n0, .inl f))) (hg1 : gs[i]? = some g1) (hj1 : g1[j]? = some (a, .inl (c1, n1, .inl g))) (t0 t1 : Nat) (ht0 : tys[t0]? = some (c0, .int)) (ht1 : tys[t1]? = some (c1, .int)) (z1 : ¬ sp < 0) (z2 : ¬ dp < 0) (z3 : ¬ n < 0) (z4 : sp.toNatClampNeg + n.toNatClampNeg ≤ n0) (z5 : dp.toNatClampNeg + n.toNatClampNeg ≤ n1) (hR : 1 ≤ R.frames ∧ (st.map fun v => v.category).sum + (nativeFrameWords "java/lang/System" "arraycopy" 5 + 11) ≤ R.locals) (hf : va_cpy f g sp.toNatClampNeg dp.toNatClampNeg n.toNatClampNeg = f') (hgs : gs.set i (g1.set j (a, .inl (c1, n1, .inl f'))) = gs') (hp : pc + 3 = pc') (k : xG p l e R s m args below meth c D A nL Q kc ks pc' st gs' lv) : xG p l e R s m args below meth c D A nL Q kc ks pc (.int n :: .int dp :: .ref a :: .int sp :: .ref a0 :: st) gs lv := by
  subst hp; subst hf; subst hgs
  intro H locs hP hD hS ls hl
  obtain ⟨q0, hq0, -⟩ := flat_at gs i0 j0 g0 hg0 hj0
  obtain ⟨q, hq, hset⟩ := flat_at gs i j g1 hg1 hj1
  refine va_copyi C.1.1 C.1.2.1 (C.1.2.2.1.trans hl.1.symm) C.1.2.2.2.1 (C.1.2.2.2.2 _ h1) (C.1.2.2.2.2 _ h2) (C.1.2.2.2.2 _ h3) (C.1.2.2.2.2 _ h4) C.2.1 hP hD hS q0 q t0 t1 hq0 hq ht0 ht1 rfl z1 z2 z3 z4 z5 (fun _ _ => rfl) hR.1 hR.2 d (fun H1 locs1 hP hD hS => ?_)
  rw [← hset] at hP hD
  exact k H1 locs1 hP hD hS ls hl
/-- fewer, or other, locals in another order; groups in another order -/
theorem g_lv (ks0 : List Nat) (h : lv_pick lv ks0 = lv') (k : xG p l e R s m args below meth c D A nL Q kc ks pc st gs lv') : xG p l e R s m args below meth c D A nL Q kc ks pc st gs lv := fun H locs hP hD hS ls hl => k H locs hP hD hS ls (lv_sub hl ks0 h)
theorem g_gs {gs' : List va_W} (is : List Nat) (hi : is.isPerm (List.range gs.length) = true) (h : is.filterMap (fun i => gs[i]?) = gs') (k : xG p l e R s m args below meth c D A nL Q kc ks pc st gs' lv) : xG p l e R s m args below meth c D A nL Q kc ks pc st gs lv := fun H locs hP hD hS ls hl =>
  have hp := (perm_idx is hi h).flatten
  k H locs (vP_perm hp hP) (vD_perm hp hD) hS ls hl
/-- what has been written lies in cells that the walk made -/
theorem g_eq {st' : List Value} {gs' : List va_W} (h1 : st = st') (h2 : gs = gs') (h3 : lv = lv') (k : xG p l e R s m args below meth c D A nL Q kc ks pc st' gs' lv') : xG p l e R s m args below meth c D A nL Q kc ks pc st gs lv := by subst h1; subst h2; subst h3; exact k
end XL
