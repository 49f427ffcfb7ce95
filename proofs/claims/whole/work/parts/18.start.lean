/-! THE CLAIM OUT OF ONE WALK OF THE LAW'S BODY. Your part is whole_start (and what it stands on); all else here is the same for every law, but numbers. -/
def R_law : String := "PercolatedLaw"
def lw_P (b : Addr) (xs : List Int32) (args : Array Value) (s : State) : Prop := args = #[.ref b] ∧ s.IntsAt b xs ∧ xs.length ≤ 2560 ∧ (Jvm.Cond.and given_1 narrow_1).before args s = true
def lw_Q (_ : Array Value) (s : State) (o : Outcome) (t : State) : Prop := o = .returned (some (.int 1)) ∧ Framed s o t [] 600000 7302250
def lw_Z (below : List Frame) (a : Array Value) (s : State) : State → Prop := fun t => ∃ o, t.status = .running ∧ Ended t below o ∧ lw_Q a s o t
/-- the law's own end, with 1 on the stack, nothing written that was there before, its room as the claim has it -/
theorem lw_ret {p : Program} {l : Launch} {e : Env} {s : State} {m : MethodId} {below : List Frame} {meth : Method} {c : Code} {b : Nat} (hx : p.tables.exec = Jvm.exec) (hb : c.code = code) (hr : meth.sig.returnType = ret) (hlocks : meth.locks = false) {pc : Nat} {H : Heap} {ls : Array Slot} (hdg : decode code pc = .ok (.ireturn, 1)) : W p l e room_1 s m #[Value.ref b] below meth c H [] 600000 7302250 (lw_Z below #[Value.ref b] s) (F0 m pc ls [.int 1]) := by
  intro T hT X
  obtain ⟨fs, hret, hrun, hended, hW, hframe⟩ := X.leave (v := some (.int 1)) (hlocks := hlocks) (fun h => by rw [hr] at h; cases h)
  have hmeth' : T.vm.method? m = some meth := X.method'
  refine ⟨T.setFrames fs, ?_, .returned (some (.int 1)), hrun, hended, rfl, ⟨_, rfl⟩, hW, hframe⟩
  jvm_step X.here [X.here.top, hx, hb, hdg, hmeth', hr, ret, narrow_b1]
  (try refine ⟨rfl, ?_⟩); (try refine ⟨rfl, ?_⟩)
  first | (intro acts; rw [hret _ acts rfl rfl rfl]) | rw [hret _ _ rfl rfl rfl]
  exact Steps.refl _
/-- what holds at the law's entry: the machine, the code, the tables' words (any of lw_tbl by 'hts w (by decide +kernel)'), the script of L ints xs at the cell b, what the Statement gives of the start (any of its parts by flat_of_before) -/
def lw_At (p : Program) (s : State) (m : MethodId) (meth : Method) (c : Code) (b L : Nat) (xs : Nat → Int32) : Prop :=
  p.tables.exec = Jvm.exec ∧ c.code = code ∧ meth.sig.returnType = ret ∧ c.maxLocals = 4 ∧ s.vm.findClass R_law = some m.cls ∧ (∀ w ∈ lw_tbl, w.before #[Value.ref b] s = true) ∧ va_X b L xs s s.heap ∧ b < s.heap.size ∧ meth.locks = false ∧ (Jvm.Cond.and given_1 narrow_1).before #[Value.ref b] s = true
theorem ao_parish : Cond.arrayOver (.object "Percolated$Parish") ∈ lw_tbl := in_1 (List.mem_of_getElem? (i := 64) (by decide +kernel))
theorem pms_0 : ([0] : List Nat).isPerm (List.range 1) = true := by decide +kernel
theorem pms_16 : ([0, 1, 2, 3, 4, 5, 6, 7, 8, 9, 10, 11, 12, 13, 14, 15] : List Nat).isPerm (List.range 16) = true := by decide +kernel
theorem pms_17 : ([16, 0, 1, 2, 3, 4, 5, 6, 7, 8, 9, 10, 11, 12, 13, 14, 15] : List Nat).isPerm (List.range 17) = true := by decide +kernel
theorem pms_28 : ([12, 13, 14, 15, 16, 17, 18, 19, 20, 21, 22, 23, 24, 25, 26, 27, 0, 1, 2, 3, 4, 5, 6, 7, 8, 9, 10, 11] : List Nat).isPerm (List.range 28) = true := by decide +kernel
set_option maxHeartbeats 4000000 in
set_option maxRecDepth 100000 in
theorem whole_of {p : Program} {e : Env} {s : State} {m : MethodId} {below : List Frame} {meth : Method} {c : Code} (l : Launch) {b L : Nat} {xs : Nat → Int32} (hL : L ≤ 2560) (C0 : lw_At p s m meth c b L xs) {I : CS → MS → Prop} (H : okAll I) (h0 : I (tZ, tZ, tZ, (0, 0), (fun _ => tZ), lZ, lZ, (fun _ => 0), 0) (tZ, 0, lZ, qZ, (0, 0, none), 0, 0, lZ, 0, (fun _ => 0), (fun _ => 0), (fun _ => 0), (fun _ => 0), (fun _ => 0), (fun _ => 0), (fun _ => 0))) : W p l e room_1 s m #[Value.ref b] below meth c s.heap [] 0 0 (lw_Z below #[Value.ref b] s) (entryFrame m ([Value.ref b] : List Value).toArray 4) := by
  obtain ⟨hx, hb, hr, hml, hown, hts, hX, hbl, hlocks, hgv⟩ := id C0
  have htg : ∀ w ∈ gTbl, w.before #[Value.ref b] s = true := fun w h => hts w (gTbl_in w h)
  have hA : ∀ q : Nat, s.heap.size ≤ q → (fun q : Nat => s.heap.size ≤ q) q := fun _ h => h
  have hbA : ¬ (fun q : Nat => s.heap.size ≤ q) b := Nat.not_le.mpr hbl
  obtain ⟨c1, iS1, hKn1⟩ := u_known (C := RX1) (T := TX1) (N := 2) (n := 2) htg inw_X1 (htg _ ia_X1)
  obtain ⟨c2, iS2, hKn2⟩ := u_known (C := RX2) (T := TX2) (N := 2) (n := 2) htg inw_X2 (htg _ ia_X2)
  obtain ⟨c3, iS3, hKn3⟩ := u_known (C := RX3) (T := TX3) (N := 10) (n := 10) htg inw_X3 (htg _ ia_X3)
  obtain ⟨c4, iS4, hKn4⟩ := u_known (C := RX4) (T := TX4) (N := 3) (n := 3) htg inw_X4 (htg _ ia_X4)
  obtain ⟨c5, iS5, hKn5⟩ := u_known (C := RX5) (T := TX5) (N := 8) (n := 8) htg inw_X5 (htg _ ia_X5)
  obtain ⟨c6, iS6, hKn6⟩ := u_known (C := RX6) (T := TX6) (N := 34) (n := 34) htg inw_X6 (htg _ ia_X6)
  obtain ⟨dC, dI, hKc⟩ : ∃ (dC : Nat → ClassId) (dI : Nat → Nat → Nat), ∀ (k : Nat) (q : vw_C), vwCl[k]? = some q → u_Kn s q.1 q.2.1 q.2.2 (dC k) (dI k) := by
    refine ⟨fun k => [c1, c2, c3, c4, c5, c6].getD k c1, fun k => [iS1, iS2, iS3, iS4, iS5, iS6].getD k iS1, ?_⟩
    intro k q hq
    match k, hq with
    | 0, hq => cases hq; exact hKn1
    | 1, hq => cases hq; exact hKn2
    | 2, hq => cases hq; exact hKn3
    | 3, hq => cases hq; exact hKn4
    | 4, hq => cases hq; exact hKn5
    | 5, hq => cases hq; exact hKn6
    | k + 6, hq => simp [vwCl] at hq
  obtain ⟨cI, kI, compI, i1, i2, i3⟩ := Cond.arrayClass_spec (htg _ ac_int)
  have hAO : va_AO "Percolated$Parish" s := hts _ ao_parish
  obtain ⟨compQ, cQ, kQ, j1, j2, j3, j4, j5⟩ := Cond.arrayOver_spec hAO
  have hK : va_K (dC, dI) vwCl (tyL cI cQ) s := by
    refine ⟨hKc, fun k q h => ?_⟩
    match k, h with
    | 0, h => cases h; exact ⟨fun n z => ⟨fun k h => (by cases h), kI, i2, compI, i3⟩, i1⟩
    | 1, h => cases h; exact ⟨fun n z => ⟨fun k h => (by cases h), kQ, j3, compQ, j4⟩, kQ, compQ, j3, j4, j1, j5⟩
    | k + 2, h => simp [tyL] at h
  have C : xC p s m #[Value.ref b] c cL_law RL 4 (dC, dI) (tyL cI cQ) (fun q : Nat => s.heap.size ≤ q) := ⟨⟨hx, hb, hml, hown, htg⟩, hK, hA, hAO⟩
  have hl := lv_entry ([.ref b]) (n := 4) (Nat.le_of_ble_eq_true rfl)
  rw [lg_entry_eq]
  have K : xG p l e room_1 s m #[Value.ref b] below meth c (dC, dI) (fun q : Nat => s.heap.size ≤ q) 4 (lw_Z below #[Value.ref b] s) 0 0 0 [] [] [(0, .ref b)] := by
    refine g_new (fs := [.null, .null, .null, .null, .null, .null, .null, .int 0]) (ci := 4) (kc' := 1) (ks' := 8) C dL_law_0 inw_X5 tyX5 tyX5_ok cl_L_7 ia_X5 in_X5 rfl hfs_X5 ⟨Nat.le_of_ble_eq_true rfl, Nat.le_of_ble_eq_true rfl⟩ rfl rfl rfl (fun q1 => ?_)
    refine g_dup C dL_law_3 rfl rfl ?_
    refine g_callIv (As := []) (gr := []) C (c_X5_init l (dC, dI) cI cQ q1) dL_law_4 ⟨ml_L_9, kI_X5_init⟩ ⟨Nat.le_of_ble_eq_true rfl, Nat.le_of_ble_eq_true rfl⟩ ⟨Nat.le_of_ble_eq_true rfl, Nat.le_of_ble_eq_true rfl⟩ [0] 1 rfl pms_0 rfl rfl rfl (Nat.le_of_ble_eq_true rfl) rfl (fun (u : (Nat → Nat) × (Nat → Nat) × (Nat → Nat) × (Nat → Nat) × (Nat → Nat → Nat) × (Nat → Nat) × (Nat → Nat) × Nat) => WX5 cI cQ q1 u.1 u.2.1 u.2.2.1 u.2.2.2.1 u.2.2.2.2.1 u.2.2.2.2.2.1 u.2.2.2.2.2.2.1 u.2.2.2.2.2.2.2 tZ tZ tZ (0, 0) (fun _ => tZ) lZ lZ (fun _ => 0) 0) [0, 1, 2, 3, 4, 5, 6, 7, 8, 9, 10, 11, 12, 13, 14, 15] 16 (fun _ => rfl) pms_16 (fun _ => rfl) trivial (fun u _ => ?_)
    refine g_astore_n C dL_law_7 (Nat.le_of_ble_eq_true rfl) (lv' := [(1, .ref q1), (0, .ref b)]) rfl rfl ?_
    refine g_new (fs := [.int 0, .null, .null, .null, .null, .int 0, .int 0, .int 0, .int 0, .int 0, .null, .int 0, .null, .int 0, .int 0, .int 0, .int 0, .null, .null, .null, .null, .null, .int 0, .int 0, .int 0, .null, .null, .null, .int 0, .null, .null, .int 0, .null, .int 0]) (ci := 5) (kc' := 64) (ks' := 678) C dL_law_8 inw_X6 tyX6 tyX6_ok cl_L_10 ia_X6 in_X6 rfl hfs_X6 ⟨Nat.le_of_ble_eq_true rfl, Nat.le_of_ble_eq_true rfl⟩ rfl rfl rfl (fun q2 => ?_)
    refine g_dup C dL_law_11 rfl rfl ?_
    refine g_callIv (As := []) (gr := WX5 cI cQ q1 u.1 u.2.1 u.2.2.1 u.2.2.2.1 u.2.2.2.2.1 u.2.2.2.2.2.1 u.2.2.2.2.2.2.1 u.2.2.2.2.2.2.2 tZ tZ tZ (0, 0) (fun _ => tZ) lZ lZ (fun _ => 0) 0) C (c_X6_init l (dC, dI) cI cQ q2) dL_law_12 ⟨ml_L_12, kI_X6_init⟩ ⟨Nat.le_of_ble_eq_true rfl, Nat.le_of_ble_eq_true rfl⟩ ⟨Nat.le_of_ble_eq_true rfl, Nat.le_of_ble_eq_true rfl⟩ [16, 0, 1, 2, 3, 4, 5, 6, 7, 8, 9, 10, 11, 12, 13, 14, 15] 17 rfl pms_17 rfl rfl rfl (Nat.le_of_ble_eq_true rfl) rfl (fun (d : Nat → Nat) => WL cI cQ q1 u.1 u.2.1 u.2.2.1 u.2.2.2.1 u.2.2.2.2.1 u.2.2.2.2.2.1 u.2.2.2.2.2.2.1 u.2.2.2.2.2.2.2 q2 d (tZ, tZ, tZ, (0, 0), (fun _ => tZ), lZ, lZ, (fun _ => 0), 0) (tZ, 0, lZ, qZ, (0, 0, none), 0, 0, lZ, 0, (fun _ => 0), (fun _ => 0), (fun _ => 0), (fun _ => 0), (fun _ => 0), (fun _ => 0), (fun _ => 0))) [12, 13, 14, 15, 16, 17, 18, 19, 20, 21, 22, 23, 24, 25, 26, 27, 0, 1, 2, 3, 4, 5, 6, 7, 8, 9, 10, 11] 28 (fun _ => rfl) pms_28 (fun _ => rfl) trivial (fun d _ => ?_)
    refine g_astore_n C dL_law_15 (Nat.le_of_ble_eq_true rfl) (lv' := [(2, .ref q2), (1, .ref q1), (0, .ref b)]) rfl rfl ?_
    refine g_iconst (v := 0) C dL_law_16 rfl rfl ?_
    refine g_istore_n (v := 0) C dL_law_17 rfl (Nat.le_of_ble_eq_true rfl) (lv' := [(3, .int 0), (2, .ref q2), (1, .ref q1), (0, .ref b)]) rfl rfl ?_
    refine g_lv (lv' := [(0, .ref b), (1, .ref q1), (2, .ref q2), (3, .int (nI 0))]) [3, 2, 1, 0] rfl ?_
    refine law_loop q1 u.1 u.2.1 u.2.2.1 u.2.2.2.1 u.2.2.2.2.1 u.2.2.2.2.2.1 u.2.2.2.2.2.2.1 u.2.2.2.2.2.2.2 q2 d C hX hbl hbA H hL ?_ L 0 (tZ, tZ, tZ, (0, 0), (fun _ => tZ), lZ, lZ, (fun _ => 0), 0) (tZ, 0, lZ, qZ, (0, 0, none), 0, 0, lZ, 0, (fun _ => 0), (fun _ => 0), (fun _ => 0), (fun _ => 0), (fun _ => 0), (fun _ => 0), (fun _ => 0)) (by omega) (by omega) h0
    intro S T lv
    refine g_iconst (v := 1) C dL_law_1249 rfl rfl ?_
    intro H1 locs hP hD hS ls hl
    refine va_forget (fun q hq => hS.2.2 q hq) ?_
    refine W.widen (k := 600000) (n := 7302250) (Nat.le_of_ble_eq_true rfl) (Nat.le_of_ble_eq_true rfl) ?_
    exact lw_ret hx hb hr hlocks dL_law_1250
  exact K s.heap [] (fun k q h => by simp at h) ⟨fun i j p q h => by simp at h, fun k q h => by simp at h⟩ va_S.rf _ hl
