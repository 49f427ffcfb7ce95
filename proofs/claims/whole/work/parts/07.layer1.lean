/-! worlds in groups: a world is a list of groups of cells, and what a method needs is some of the groups -/
abbrev tyL (cI cQ : ClassId) : List (ClassId × FieldType) := [(cI, .int), (cQ, .object "Percolated$Parish")]
def wsY (y : MethodName) (cc : ByteArray) (n : Nat) (r : Option FieldType) : List Cond := .code y cc n r :: gTbl
abbrev rmL (f k n lo : Nat) : Room := { frames := f, cells := k, slots := n, locals := lo }
theorem goodY {y : MethodName} {cc : ByteArray} {n : Nat} {r : Option FieldType} (h : Cond.code y cc n r ∈ gTbl) : GoodIn gTbl (wsY y cc n r) := fun w hw => by
  rcases List.mem_cons.mp hw with rfl | hw
  · exact ⟨h, good_of_word (gTbl_good _ h)⟩
  · exact ⟨hw, good_of_word (gTbl_good _ hw)⟩
theorem vP_mem {D : va_G} {cl : List vw_C} {ws : va_W} {H : Heap} (h : va_P D cl ws H) {q : Nat × va_E} (hq : q ∈ ws) : va_at D cl q H := by
  obtain ⟨i, hi⟩ := List.getElem?_of_mem hq
  exact h i q hi
theorem vP_of {D : va_G} {cl : List vw_C} {ws : va_W} {H : Heap} (h : ∀ q, q ∈ ws → va_at D cl q H) : va_P D cl ws H := fun _ q hk => h q (List.mem_of_getElem? hk)
theorem vP_perm {D : va_G} {cl : List vw_C} {ws ws' : va_W} {H : Heap} (hp : ws.Perm ws') (h : va_P D cl ws H) : va_P D cl ws' H := vP_of fun _ hq => vP_mem h (hp.mem_iff.mpr hq)
theorem vD_iff {A : Nat → Prop} {ws : va_W} : va_D A ws ↔ ws.Pairwise (fun a b => a.1 ≠ b.1) ∧ ∀ q, q ∈ ws → A q.1 := by
  constructor
  · intro h
    refine ⟨List.pairwise_iff_getElem.mpr fun i j hi hj hij e => ?_, fun q hq => ?_⟩
    · have := h.1 i j ws[i] ws[j] (List.getElem?_eq_getElem hi) (List.getElem?_eq_getElem hj) e
      omega
    · obtain ⟨i, hi⟩ := List.getElem?_of_mem hq
      exact h.2 i q hi
  · intro h
    refine ⟨fun i j p q hi hj e => ?_, fun k q hk => h.2 q (List.mem_of_getElem? hk)⟩
    obtain ⟨hi1, rfl⟩ := List.getElem?_eq_some_iff.mp hi
    obtain ⟨hj1, rfl⟩ := List.getElem?_eq_some_iff.mp hj
    have h1 := List.pairwise_iff_getElem.mp h.1
    rcases Nat.lt_trichotomy i j with z | z | z
    · exact absurd e (h1 i j hi1 hj1 z)
    · exact z
    · exact absurd e.symm (h1 j i hj1 hi1 z)
theorem vD_perm {A : Nat → Prop} {ws ws' : va_W} (hp : ws.Perm ws') (h : va_D A ws) : va_D A ws' := by
  obtain ⟨h1, h2⟩ := vD_iff.mp h
  exact vD_iff.mpr ⟨(hp.pairwise_iff (fun h e => h e.symm)).mp h1, fun q hq => h2 q (hp.mem_iff.mpr hq)⟩
theorem vD_left {A : Nat → Prop} {w1 w2 : va_W} (h : va_D A (w1 ++ w2)) : va_D A w1 := by
  obtain ⟨h1, h2⟩ := vD_iff.mp h
  exact vD_iff.mpr ⟨(List.pairwise_append.mp h1).1, fun q hq => h2 q (List.mem_append_left _ hq)⟩
theorem vP_left {D : va_G} {cl : List vw_C} {w1 w2 : va_W} {H : Heap} (h : va_P D cl (w1 ++ w2) H) : va_P D cl w1 H := vP_of fun _ hq => vP_mem h (List.mem_append_left _ hq)
/-- the callee's cells beside the rest, which is unchanged -/
theorem vJoin {A0 : Nat → Prop} {D : va_G} {cl : List vw_C} {wc wr w1 : va_W} {H H1 : Heap} (hP : va_P D cl (wc ++ wr) H) (hD : va_D A0 (wc ++ wr)) (hk : ∀ q : Nat, q < H.size → ¬ va_A wc H.size q → H1[q]? = H[q]?) (hF : ∀ q, va_A wc H.size q → A0 q) (hP1 : va_P D cl w1 H1) (hD1 : va_D (va_A wc H.size) w1) : va_P D cl (w1 ++ wr) H1 ∧ va_D A0 (w1 ++ wr) := by
  obtain ⟨d1, d2⟩ := vD_iff.mp hD
  obtain ⟨e1, e2⟩ := vD_iff.mp hD1
  obtain ⟨p1, p2, p3⟩ := List.pairwise_append.mp d1
  have apart : ∀ q, q ∈ wr → q.1 < H.size ∧ ¬ va_A wc H.size q.1 := by
    intro q hq
    have hl := (vP_mem hP (List.mem_append_right _ hq)).lt
    refine ⟨hl, fun h => ?_⟩
    rcases h with ⟨k, e, h⟩ | h
    · exact p3 _ (List.mem_of_getElem? h) _ hq rfl
    · omega
  refine ⟨vP_of fun q hq => ?_, vD_iff.mpr ⟨List.pairwise_append.mpr ⟨e1, p2, fun a ha b hb e => ?_⟩, fun q hq => ?_⟩⟩
  · rcases List.mem_append.mp hq with h | h
    · exact vP_mem hP1 h
    · exact (vP_mem hP (List.mem_append_right _ h)).kept (hk q.1 (apart q h).1 (apart q h).2)
  · exact (apart b hb).2 (by rw [← e]; exact e2 a ha)
  · rcases List.mem_append.mp hq with h | h
    · exact hF _ (e2 q h)
    · exact d2 q (List.mem_append_right _ h)
theorem range_eq {n : Nat} {α : Type} (l : List α) (h : l.length = n) : (List.range n).filterMap (fun i => l[i]?) = l := by
  subst h
  induction l with
  | nil => rfl
  | cons a l ih =>
    rw [List.length_cons, List.range_succ_eq_map, List.filterMap_cons]
    simp only [List.getElem?_cons_zero, List.filterMap_map]
    exact congrArg (a :: ·) ih
theorem perm_idx {α : Type} {l l' : List α} (is : List Nat) (hp : is.isPerm (List.range l.length) = true) (hs : is.filterMap (fun i => l[i]?) = l') : l.Perm l' := by
  have h1 := (List.isPerm_iff.mp hp).filterMap (fun i => l[i]?)
  rw [hs, range_eq l rfl] at h1
  exact h1.symm
theorem flat_perm {gs gc gr : List va_W} (is : List Nat) (hp : is.isPerm (List.range gs.length) = true) (hs : is.filterMap (fun i => gs[i]?) = gc ++ gr) : gs.flatten.Perm (gc.flatten ++ gr.flatten) := by
  rw [← List.flatten_append]
  exact (perm_idx is hp hs).flatten
theorem flat_at {x : Nat × va_E} : ∀ (gs : List va_W) (i j : Nat) (g : va_W), gs[i]? = some g → g[j]? = some x → ∃ k : Nat, gs.flatten[k]? = some x ∧ ∀ y, (gs.set i (g.set j y)).flatten = gs.flatten.set k y
  | [], i, j, g, h, _ => by simp at h
  | g0 :: gs, 0, j, g, h, hj => by
    rw [List.getElem?_cons_zero] at h
    cases h
    have hl := (List.getElem?_eq_some_iff.mp hj).1
    refine ⟨j, by rw [List.flatten_cons, List.getElem?_append_left hl]; exact hj, fun y => ?_⟩
    rw [List.set_cons_zero, List.flatten_cons, List.flatten_cons, List.set_append, if_pos hl]
  | g0 :: gs, i + 1, j, g, h, hj => by
    rw [List.getElem?_cons_succ] at h
    obtain ⟨k, h1, h2⟩ := flat_at gs i j g h hj
    refine ⟨g0.length + k, ?_, fun y => ?_⟩
    · rw [List.flatten_cons, List.getElem?_append_right (by omega), Nat.add_sub_cancel_left]
      exact h1
    · rw [List.set_cons_succ, List.flatten_cons, List.flatten_cons, h2 y, List.set_append, if_neg (by omega), Nat.add_sub_cancel_left]
theorem va_A_perm {w w' : va_W} {sz q : Nat} (hp : w.Perm w') (h : va_A w sz q) : va_A w' sz q := by
  rcases h with ⟨k, e, h⟩ | h
  · obtain ⟨i, hi⟩ := List.getElem?_of_mem (hp.mem_iff.mp (List.mem_of_getElem? h))
    exact Or.inl ⟨i, e, hi⟩
  · exact Or.inr h
theorem va_A_D {A : Nat → Prop} {w : va_W} {sz : Nat} (hD : va_D A w) (hA : ∀ q, sz ≤ q → A q) {q : Nat} (h : va_A w sz q) : A q := by
  rcases h with ⟨k, e, h⟩ | h
  · exact hD.2 k _ h
  · exact hA q h
/-! the words of the answer: a method's start and end over groups -/
def xB (D : va_G) (tys : List (ClassId × FieldType)) (A : Nat → Prop) (gs : List va_W) (t : State) : Prop := va_P D vwCl gs.flatten t.heap ∧ va_K D vwCl tys t ∧ va_D A gs.flatten ∧ va_AO "Percolated$Parish" t
def xP (D : va_G) (tys : List (ClassId × FieldType)) (av : List Value) (gs : List va_W) (sz : Nat) (P : Prop) : Array Value → State → Prop := va_Pc av (fun U => U.heap.size = sz ∧ xB D tys (fun _ => True) gs U ∧ P)
theorem xB_moved {D : va_G} {tys : List (ClassId × FieldType)} {A : Nat → Prop} {gs : List va_W} {u U : State} (hvm : u.vm.Alike U.vm) (hh : U.heap = u.heap) (h : xB D tys A gs u) : xB D tys A gs U := ⟨by rw [hh]; exact h.1, va_K.moved hvm h.2.1, h.2.2.1, va_AO.moved hvm h.2.2.2⟩
theorem xP_blind {D : va_G} {tys : List (ClassId × FieldType)} {av : List Value} {gs : List va_W} {sz : Nat} {P : Prop} : FrameBlind (xP D tys av gs sz P) := fun a U g mk q => by
  obtain ⟨q0, q1, qB, qP⟩ := q
  exact ⟨q0, q1, xB_moved (u := U) (U := U.calling g mk a) (Vm.Alike.refl U.vm) rfl qB, qP⟩
/-- loops, joins -/
def lpN {σ : Type} (F : (σ → Prop) → σ → Prop) : Nat → σ → Prop
  | 0, _ => False
  | n + 1, s => F (lpN F n) s
theorem lpN_ind {σ : Type} {F : (σ → Prop) → σ → Prop} {G : σ → Prop} (h : ∀ (K : σ → Prop) (s : σ), (∀ s', K s' → G s') → F K s → G s) : ∀ (n : Nat) (s : σ), lpN F n s → G s
  | 0, _, hw => hw.elim
  | n + 1, s, hw => h (lpN F n) s (lpN_ind h n) hw
/-- a loop's end by a measure and an invariant -/
theorem lpN_ok {σ : Type} {F : (σ → Prop) → σ → Prop} (I : Nat → σ → Prop) (h : ∀ (K : σ → Prop) (m : Nat) (s : σ), I m s → (∀ m' s', m' < m → I m' s' → K s') → F K s) : ∀ (n m : Nat) (s : σ), m < n → I m s → lpN F n s
  | 0, _, _, hm, _ => absurd hm (Nat.not_lt_zero _)
  | n + 1, m, s, hm, hi => h (lpN F n) m s hi (fun m' s' h1 h2 => lpN_ok I h n m' s' (by omega) h2)
def jn {α : Type} (r : α → Prop) (F : (α → Prop) → Prop) : Prop := F r
theorem jn_el {α : Type} {r : α → Prop} {F : (α → Prop) → Prop} {Goal : Prop} (h : jn r F) (G : α → Prop) (h1 : ∀ x, r x → G x) (h2 : ∀ J : α → Prop, (∀ x, J x → G x) → F J → Goal) : Goal := h2 r h1 h
def nm {α : Type} (e : α) (F : α → Prop) : Prop := F e
theorem nm_el {α : Type} {e : α} {F : α → Prop} {Goal : Prop} (h : nm e F) (k : ∀ v, v = e → F v → Goal) : Goal := k e rfl h
theorem nm_in {α : Type} {e : α} {F : α → Prop} (k : ∀ v, v = e → F v) : nm e F := k e rfl
