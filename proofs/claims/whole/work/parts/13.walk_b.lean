theorem pm_1_9_0_2_3_4_5_6_7_8 : ([1, 9, 0, 2, 3, 4, 5, 6, 7, 8] : List Nat).isPerm (List.range 10) = true := by decide +kernel
theorem pm_2_0_3_4_5_6_7_8_9_1 : ([2, 0, 3, 4, 5, 6, 7, 8, 9, 1] : List Nat).isPerm (List.range 10) = true := by decide +kernel
theorem pm_2_9_0_1_3_4_5_6_7_8 : ([2, 9, 0, 1, 3, 4, 5, 6, 7, 8] : List Nat).isPerm (List.range 10) = true := by decide +kernel
theorem pm_2_3_0_4_5_6_7_8_9_1 : ([2, 3, 0, 4, 5, 6, 7, 8, 9, 1] : List Nat).isPerm (List.range 10) = true := by decide +kernel
theorem pm_3_9_0_1_2_4_5_6_7_8 : ([3, 9, 0, 1, 2, 4, 5, 6, 7, 8] : List Nat).isPerm (List.range 10) = true := by decide +kernel
theorem pm_2_3_4_0_5_6_7_8_9_1 : ([2, 3, 4, 0, 5, 6, 7, 8, 9, 1] : List Nat).isPerm (List.range 10) = true := by decide +kernel
theorem pm_4_9_0_1_2_3_5_6_7_8 : ([4, 9, 0, 1, 2, 3, 5, 6, 7, 8] : List Nat).isPerm (List.range 10) = true := by decide +kernel
theorem pm_2_3_4_5_0_6_7_8_9_1 : ([2, 3, 4, 5, 0, 6, 7, 8, 9, 1] : List Nat).isPerm (List.range 10) = true := by decide +kernel
theorem pm_5_9_0_1_2_3_4_6_7_8 : ([5, 9, 0, 1, 2, 3, 4, 6, 7, 8] : List Nat).isPerm (List.range 10) = true := by decide +kernel
theorem pm_2_3_4_5_6_0_7_8_9_1 : ([2, 3, 4, 5, 6, 0, 7, 8, 9, 1] : List Nat).isPerm (List.range 10) = true := by decide +kernel
theorem pm_6_9_0_1_2_3_4_5_7_8 : ([6, 9, 0, 1, 2, 3, 4, 5, 7, 8] : List Nat).isPerm (List.range 10) = true := by decide +kernel
theorem pm_2_3_4_5_6_7_0_8_9_1 : ([2, 3, 4, 5, 6, 7, 0, 8, 9, 1] : List Nat).isPerm (List.range 10) = true := by decide +kernel
theorem pm_7_9_0_1_2_3_4_5_6_8 : ([7, 9, 0, 1, 2, 3, 4, 5, 6, 8] : List Nat).isPerm (List.range 10) = true := by decide +kernel
theorem pm_2_3_4_5_6_7_8_0_9_1 : ([2, 3, 4, 5, 6, 7, 8, 0, 9, 1] : List Nat).isPerm (List.range 10) = true := by decide +kernel
theorem pm_8_9_0_1_2_3_4_5_6_7 : ([8, 9, 0, 1, 2, 3, 4, 5, 6, 7] : List Nat).isPerm (List.range 10) = true := by decide +kernel
theorem pm_2_3_4_5_6_7_8_9_0_1 : ([2, 3, 4, 5, 6, 7, 8, 9, 0, 1] : List Nat).isPerm (List.range 10) = true := by decide +kernel
theorem pm_9_1_0_2_3_4_5_6_7_8 : ([9, 1, 0, 2, 3, 4, 5, 6, 7, 8] : List Nat).isPerm (List.range 10) = true := by decide +kernel
theorem pm_2_1_3_4_5_6_7_8_9_0 : ([2, 1, 3, 4, 5, 6, 7, 8, 9, 0] : List Nat).isPerm (List.range 10) = true := by decide +kernel
theorem pm_9_2_0_1_3_4_5_6_7_8 : ([9, 2, 0, 1, 3, 4, 5, 6, 7, 8] : List Nat).isPerm (List.range 10) = true := by decide +kernel
theorem pm_2_3_1_4_5_6_7_8_9_0 : ([2, 3, 1, 4, 5, 6, 7, 8, 9, 0] : List Nat).isPerm (List.range 10) = true := by decide +kernel
theorem pm_9_3_0_1_2_4_5_6_7_8 : ([9, 3, 0, 1, 2, 4, 5, 6, 7, 8] : List Nat).isPerm (List.range 10) = true := by decide +kernel
theorem pm_2_3_4_1_5_6_7_8_9_0 : ([2, 3, 4, 1, 5, 6, 7, 8, 9, 0] : List Nat).isPerm (List.range 10) = true := by decide +kernel
theorem pm_9_4_0_1_2_3_5_6_7_8 : ([9, 4, 0, 1, 2, 3, 5, 6, 7, 8] : List Nat).isPerm (List.range 10) = true := by decide +kernel
theorem pm_2_3_4_5_1_6_7_8_9_0 : ([2, 3, 4, 5, 1, 6, 7, 8, 9, 0] : List Nat).isPerm (List.range 10) = true := by decide +kernel
theorem pm_9_5_0_1_2_3_4_6_7_8 : ([9, 5, 0, 1, 2, 3, 4, 6, 7, 8] : List Nat).isPerm (List.range 10) = true := by decide +kernel
theorem pm_2_3_4_5_6_1_7_8_9_0 : ([2, 3, 4, 5, 6, 1, 7, 8, 9, 0] : List Nat).isPerm (List.range 10) = true := by decide +kernel
theorem pm_9_6_0_1_2_3_4_5_7_8 : ([9, 6, 0, 1, 2, 3, 4, 5, 7, 8] : List Nat).isPerm (List.range 10) = true := by decide +kernel
theorem pm_2_3_4_5_6_7_1_8_9_0 : ([2, 3, 4, 5, 6, 7, 1, 8, 9, 0] : List Nat).isPerm (List.range 10) = true := by decide +kernel
theorem pm_9_7_0_1_2_3_4_5_6_8 : ([9, 7, 0, 1, 2, 3, 4, 5, 6, 8] : List Nat).isPerm (List.range 10) = true := by decide +kernel
theorem pm_2_3_4_5_6_7_8_1_9_0 : ([2, 3, 4, 5, 6, 7, 8, 1, 9, 0] : List Nat).isPerm (List.range 10) = true := by decide +kernel
theorem pm_9_8_0_1_2_3_4_5_6_7 : ([9, 8, 0, 1, 2, 3, 4, 5, 6, 7] : List Nat).isPerm (List.range 10) = true := by decide +kernel
theorem pm_2_3_4_5_6_7_8_9_1_0 : ([2, 3, 4, 5, 6, 7, 8, 9, 1, 0] : List Nat).isPerm (List.range 10) = true := by decide +kernel
set_option maxRecDepth 100000 in
def p_X4_size (hh : HT) (post : Int32 → Prop) : Prop := (fun (hh_la : Int32) (hh_sz : Int32) => post hh_sz) hh.1 hh.2
set_option maxHeartbeats 4000000 in
set_option maxRecDepth 100000 in
theorem w_X4_size {p : Program} {l : Launch} {e : Env} {s : State} {mi : MethodId} {args : Array Value} {below : List Frame} {meth : Method} {co : Code} {D : va_G} {cI cQ : ClassId} {A : Nat → Prop} {Q : State → Prop} (a : Nat → Nat) (b : Nat → Nat → Nat) (hh : HT) {post : Int32 → Prop} (C : xC p s mi args co cX4_size RX4 1 D (tyL cI cQ) A) (hret : ∀ (pc : Nat) (r : Int32) (u : Unit) (lv : List (Nat × Value)), decode cX4_size pc = .ok (.ireturn, 1) → post r → xG p l e (rmL 0 0 0 0) s mi args below meth co D A 1 Q 0 0 pc [.int r] [gPas cQ a b hh] lv) (hw : p_X4_size hh post) : xG p l e (rmL 0 0 0 0) s mi args below meth co D A 1 Q 0 0 0 [] [gPas cQ a b hh] [(0, .ref (a 0))] := by
  unfold p_X4_size at hw
  obtain ⟨hh_la, hh_sz⟩ := hh
  try dsimp only at hw
  show xG p l e (rmL 0 0 0 0) s mi args below meth co D A 1 Q 0 0 0 [] [gPas cQ a b (hh_la, hh_sz)] [(0, .ref (a 0))]
  refine g_aload_n C dX4_size_0 0 rfl rfl ?_
  refine g_get (v := .int hh_sz) (ci := 3) C dX4_size_1 inw_X4 rfl 0 0 2 rfl rfl (Nat.le_of_ble_eq_true rfl) rfl fl_X4_18 rfl rfl ?_
  exact hret 4 hh_sz () _ dX4_size_4 hw
set_option maxRecDepth 100000 in
theorem c_X4_size (l : Launch) (D : va_G) (cI cQ : ClassId) (a : Nat → Nat) (b : Nat → Nat → Nat) (hh : HT) (post : Int32 → Prop) (sz : Nat) : Met l yX4_size (wsY yX4_size cX4_size 1 (some .int)) (rmL 0 0 0 0) (xP D (tyL cI cQ) [.ref (a 0)] [gPas cQ a b hh] sz (p_X4_size hh post)) (xQi D (tyL cI cQ) (fun (r : Int32) (_ : Unit) => post r) (fun (u : Unit) => [gPas cQ a b hh]) (va_A [gPas cQ a b hh].flatten sz)) 0 0 (va_A [gPas cQ a b hh].flatten sz) :=
  Met_i pn_X4 (Nat.le_of_ble_eq_true rfl) (fun p e s mi below meth co A Q _ C hret hw => w_X4_size a b hh C hret hw)
theorem kV_X4_size : Cond.instanceMethod yX4_size ∈ gTbl ∧ Cond.selects yX4_size.cls yX4_size yX4_size ∈ gTbl ∧ Cond.initialized yX4_size.cls ∈ gTbl ∧ Cond.code yX4_size cX4_size 1 (some .int) ∈ gTbl ∧ (yX4_size.cls ≠ "java/lang/invoke/MethodHandle" ∧ yX4_size.cls ≠ "java/lang/invoke/VarHandle" ∧ (parseMethodDescriptor yX4_size.desc).map (fun d => d.parameters.length) = some 0) := ⟨im_X4_size, sl_X4_size, in_X4, cd_X4_size, (by decide +kernel)⟩
set_option maxRecDepth 100000 in
def p_X4_forget (hh : HT) (post : HT → Prop) : Prop := (fun (hh_la : Int32) (hh_sz : Int32) => post (hh_la, (0 : Int32))) hh.1 hh.2
set_option maxHeartbeats 4000000 in
set_option maxRecDepth 100000 in
theorem w_X4_forget {p : Program} {l : Launch} {e : Env} {s : State} {mi : MethodId} {args : Array Value} {below : List Frame} {meth : Method} {co : Code} {D : va_G} {cI cQ : ClassId} {A : Nat → Prop} {Q : State → Prop} (a : Nat → Nat) (b : Nat → Nat → Nat) (hh : HT) {post : HT → Prop} (C : xC p s mi args co cX4_forget RX4 1 D (tyL cI cQ) A) (hret : ∀ (pc : Nat) (u : HT) (lv : List (Nat × Value)), decode cX4_forget pc = .ok (.return_, 1) → post u → xG p l e (rmL 0 0 0 0) s mi args below meth co D A 1 Q 0 0 pc [] [gPas cQ a b u] lv) (hw : p_X4_forget hh post) : xG p l e (rmL 0 0 0 0) s mi args below meth co D A 1 Q 0 0 0 [] [gPas cQ a b hh] [(0, .ref (a 0))] := by
  unfold p_X4_forget at hw
  obtain ⟨hh_la, hh_sz⟩ := hh
  try dsimp only at hw
  show xG p l e (rmL 0 0 0 0) s mi args below meth co D A 1 Q 0 0 0 [] [gPas cQ a b (hh_la, hh_sz)] [(0, .ref (a 0))]
  refine g_aload_n C dX4_forget_0 0 rfl rfl ?_
  refine g_iconst (v := 0) C dX4_forget_1 rfl rfl ?_
  refine g_put (v' := .int (0 : Int32)) (ty := .int) (ci := 3) (gs' := [gPas cQ a b (hh_la, (0 : Int32))]) C dX4_forget_2 inw_X4 tyX4 tyX4_ok nmX4 rfl 0 0 2 rfl rfl (Nat.le_of_ble_eq_true rfl) rfl fl_X4_18 rfl fd_I rfl rfl rfl (Nat.le_of_ble_eq_true rfl) rfl rfl ?_
  exact hret 5 (hh_la, (0 : Int32)) _ dX4_forget_5 hw
set_option maxRecDepth 100000 in
theorem c_X4_forget (l : Launch) (D : va_G) (cI cQ : ClassId) (a : Nat → Nat) (b : Nat → Nat → Nat) (hh : HT) (post : HT → Prop) (sz : Nat) : Met l yX4_forget (wsY yX4_forget cX4_forget 1 none) (rmL 0 0 0 0) (xP D (tyL cI cQ) [.ref (a 0)] [gPas cQ a b hh] sz (p_X4_forget hh post)) (xQv D (tyL cI cQ) post (fun (u : HT) => [gPas cQ a b u]) (va_A [gPas cQ a b hh].flatten sz)) 0 0 (va_A [gPas cQ a b hh].flatten sz) :=
  Met_v pn_X4 (Nat.le_of_ble_eq_true rfl) (fun p e s mi below meth co A Q _ C hret hw => w_X4_forget a b hh C hret hw)
theorem kV_X4_forget : Cond.instanceMethod yX4_forget ∈ gTbl ∧ Cond.selects yX4_forget.cls yX4_forget yX4_forget ∈ gTbl ∧ Cond.initialized yX4_forget.cls ∈ gTbl ∧ Cond.code yX4_forget cX4_forget 1 none ∈ gTbl ∧ (yX4_forget.cls ≠ "java/lang/invoke/MethodHandle" ∧ yX4_forget.cls ≠ "java/lang/invoke/VarHandle" ∧ (parseMethodDescriptor yX4_forget.desc).map (fun d => d.parameters.length) = some 0) := ⟨im_X4_forget, sl_X4_forget, in_X4, cd_X4_forget, (by decide +kernel)⟩
set_option maxRecDepth 100000 in
def p_X4_keep (hh : HT) (P : (Nat → PT)) (to : PT) (post : HT × (Nat → PT) → Prop) : Prop := (fun (hh_la : Int32) (hh_sz : Int32) => nm (((hh_la + (1 : Int32)) - (hh_la + (1 : Int32)) / (8 : Int32) * (8 : Int32)) : Int32) (fun (v1 : Int32) => nm ((if (hh_sz + (1 : Int32)) < (8 : Int32) then (hh_sz + (1 : Int32)) else (8 : Int32)) : Int32) (fun (v2 : Int32) => (vp_in v1 8 ∧ p_X3_become (P (v1).toNatClampNeg) to (fun (u3 : PT) => (fun (Pu4 : PT) => post ((v1, v2), (va_up P (v1).toNatClampNeg Pu4))) u3))))) hh.1 hh.2
set_option maxHeartbeats 4000000 in
set_option maxRecDepth 100000 in
theorem w_X4_keep {p : Program} {l : Launch} {e : Env} {s : State} {mi : MethodId} {args : Array Value} {below : List Frame} {meth : Method} {co : Code} {D : va_G} {cI cQ : ClassId} {A : Nat → Prop} {Q : State → Prop} (a : Nat → Nat) (b : Nat → Nat → Nat) (ao : Nat → Nat) (hh : HT) (P : (Nat → PT)) (to : PT) {post : HT × (Nat → PT) → Prop} (C : xC p s mi args co cX4_keep RX4 3 D (tyL cI cQ) A) (hret : ∀ (pc : Nat) (u : HT × (Nat → PT)) (lv : List (Nat × Value)), decode cX4_keep pc = .ok (.return_, 1) → post u → xG p l e (rmL 2 0 0 61) s mi args below meth co D A 3 Q 0 0 pc [] [gPas cQ a b u.1, gPar cI (b 0) (u.2 0), gPar cI (b 1) (u.2 1), gPar cI (b 2) (u.2 2), gPar cI (b 3) (u.2 3), gPar cI (b 4) (u.2 4), gPar cI (b 5) (u.2 5), gPar cI (b 6) (u.2 6), gPar cI (b 7) (u.2 7), gPar cI ao to] lv) (hw : p_X4_keep hh P to post) : xG p l e (rmL 2 0 0 61) s mi args below meth co D A 3 Q 0 0 0 [] [gPas cQ a b hh, gPar cI (b 0) (P 0), gPar cI (b 1) (P 1), gPar cI (b 2) (P 2), gPar cI (b 3) (P 3), gPar cI (b 4) (P 4), gPar cI (b 5) (P 5), gPar cI (b 6) (P 6), gPar cI (b 7) (P 7), gPar cI ao to] [(0, .ref (a 0)), (1, .ref (ao 0))] := by
  unfold p_X4_keep at hw
  obtain ⟨hh_la, hh_sz⟩ := hh
  try dsimp only at hw
  show xG p l e (rmL 2 0 0 61) s mi args below meth co D A 3 Q 0 0 0 [] [gPas cQ a b (hh_la, hh_sz), gPar cI (b 0) (P 0), gPar cI (b 1) (P 1), gPar cI (b 2) (P 2), gPar cI (b 3) (P 3), gPar cI (b 4) (P 4), gPar cI (b 5) (P 5), gPar cI (b 6) (P 6), gPar cI (b 7) (P 7), gPar cI ao to] [(0, .ref (a 0)), (1, .ref (ao 0))]
  refine g_aload_n C dX4_keep_0 0 rfl rfl ?_
  refine g_aload_n C dX4_keep_1 0 rfl rfl ?_
  refine g_get (v := .int hh_la) (ci := 3) C dX4_keep_2 inw_X4 rfl 0 0 1 rfl rfl (Nat.le_of_ble_eq_true rfl) rfl fl_X4_22 rfl rfl ?_
  refine g_iconst (v := 1) C dX4_keep_5 rfl rfl ?_
  refine g_iadd C dX4_keep_6 rfl ?_
  refine g_bipush (v := 8) C dX4_keep_7 (by decide) rfl ?_
  refine g_irem C dX4_keep_9 (by decide) rfl ?_
  refine nm_el hw (fun v1 ev1 hw => ?_)
  refine g_put (v' := .int v1) (ty := .int) (ci := 3) (gs' := [gPas cQ a b (v1, hh_sz), gPar cI (b 0) (P 0), gPar cI (b 1) (P 1), gPar cI (b 2) (P 2), gPar cI (b 3) (P 3), gPar cI (b 4) (P 4), gPar cI (b 5) (P 5), gPar cI (b 6) (P 6), gPar cI (b 7) (P 7), gPar cI ao to]) C dX4_keep_10 inw_X4 tyX4 tyX4_ok nmX4 rfl 0 0 1 rfl rfl (Nat.le_of_ble_eq_true rfl) rfl fl_X4_22 rfl fd_I (congrArg Value.int ev1.symm) rfl rfl (Nat.le_of_ble_eq_true rfl) rfl rfl ?_
  refine g_aload_n C dX4_keep_13 0 rfl rfl ?_
  refine g_bipush (v := 8) C dX4_keep_14 (by decide) rfl ?_
  refine g_aload_n C dX4_keep_16 0 rfl rfl ?_
  refine g_get (v := .int hh_sz) (ci := 3) C dX4_keep_17 inw_X4 rfl 0 0 2 rfl rfl (Nat.le_of_ble_eq_true rfl) rfl fl_X4_18 rfl rfl ?_
  refine g_iconst (v := 1) C dX4_keep_20 rfl rfl ?_
  refine g_iadd C dX4_keep_21 rfl ?_
  refine g_mmin C dX4_keep_22 ml_X4_25 sm_J9_min_7cf53 in_J9 cd_min ⟨Nat.le_of_ble_eq_true rfl, Nat.le_of_ble_eq_true rfl⟩ ⟨Nat.le_of_ble_eq_true rfl, Nat.le_of_ble_eq_true rfl⟩ rfl ?_
  refine nm_el hw (fun v2 ev2 hw => ?_)
  refine g_put (v' := .int v2) (ty := .int) (ci := 3) (gs' := [gPas cQ a b (v1, v2), gPar cI (b 0) (P 0), gPar cI (b 1) (P 1), gPar cI (b 2) (P 2), gPar cI (b 3) (P 3), gPar cI (b 4) (P 4), gPar cI (b 5) (P 5), gPar cI (b 6) (P 6), gPar cI (b 7) (P 7), gPar cI ao to]) C dX4_keep_25 inw_X4 tyX4 tyX4_ok nmX4 rfl 0 0 2 rfl rfl (Nat.le_of_ble_eq_true rfl) rfl fl_X4_18 rfl fd_I (congrArg Value.int ev2.symm) rfl rfl (Nat.le_of_ble_eq_true rfl) rfl rfl ?_
  refine g_aload_n C dX4_keep_28 0 rfl rfl ?_
  refine g_get (v := .ref (a 1)) (ci := 3) C dX4_keep_29 inw_X4 rfl 0 0 0 rfl rfl (Nat.le_of_ble_eq_true rfl) rfl fl_X4_11 rfl rfl ?_
  refine g_aload_n C dX4_keep_32 0 rfl rfl ?_
  refine g_get (v := .int v1) (ci := 3) C dX4_keep_33 inw_X4 rfl 0 0 1 rfl rfl (Nat.le_of_ble_eq_true rfl) rfl fl_X4_22 rfl rfl ?_
  have hi36 := hw.1
  replace hw := hw.2
  obtain ⟨j36, hj36, hjn36⟩ : ∃ j, (v1).toNatClampNeg = j ∧ j < 8 := ⟨_, rfl, Nat.not_le.mp fun q => hi36 (Or.inr q)⟩
  rw [hj36] at hw
  match j36, hjn36 with
  | 0, _ =>
    refine g_aald (b := b 0 0) (f := fun k => some (b k 0)) C dX4_keep_36 0 1 rfl rfl 1 rfl hi36 (by rw [hj36]) rfl ?_
    refine g_astore_n C dX4_keep_37 (Nat.le_of_ble_eq_true rfl) (lv' := [(2, .ref (b 0 0)), (0, .ref (a 0)), (1, .ref (ao 0))]) rfl rfl ?_
    refine g_aload_n C dX4_keep_38 0 rfl rfl ?_
    refine g_ifnull C dX4_keep_39 rfl ?_
    refine g_aload_n C dX4_keep_42 0 rfl rfl ?_
    refine g_aload_n C dX4_keep_43 2 rfl rfl ?_
    refine g_callVv (As := [.ref (ao 0)]) (gr := [gPas cQ a b (v1, v2), gPar cI (b 1) (P 1), gPar cI (b 2) (P 2), gPar cI (b 3) (P 3), gPar cI (b 4) (P 4), gPar cI (b 5) (P 5), gPar cI (b 6) (P 6), gPar cI (b 7) (P 7)]) C (c_X3_become l D cI cQ (b 0) ao (P 0) to  _) dX4_keep_44 ⟨ml_X4_31, kV_X3_become⟩ ⟨Nat.le_of_ble_eq_true rfl, Nat.le_of_ble_eq_true rfl⟩ ⟨Nat.le_refl _, Nat.le_refl _⟩ rfl rfl 0 0 rfl rfl [1, 9, 0, 2, 3, 4, 5, 6, 7, 8] 10 rfl pm_1_9_0_2_3_4_5_6_7_8 rfl rfl rfl (Nat.le_of_ble_eq_true rfl) rfl (fun (u : PT) => [gPas cQ a b (v1, v2), gPar cI (b 0) ((va_up P 0 u) 0), gPar cI (b 1) ((va_up P 0 u) 1), gPar cI (b 2) ((va_up P 0 u) 2), gPar cI (b 3) ((va_up P 0 u) 3), gPar cI (b 4) ((va_up P 0 u) 4), gPar cI (b 5) ((va_up P 0 u) 5), gPar cI (b 6) ((va_up P 0 u) 6), gPar cI (b 7) ((va_up P 0 u) 7), gPar cI ao to]) [2, 0, 3, 4, 5, 6, 7, 8, 9, 1] (fun _ => rfl) pm_2_0_3_4_5_6_7_8_9_1 (fun _ => rfl) hw (fun u105 hw => ?_)
    obtain ⟨Pu106, rfl⟩ : ∃ z, z = u105 := ⟨_, rfl⟩
    exact hret 47 ((v1, v2), (va_up P 0 Pu106)) _ dX4_keep_47 hw
  | 1, _ =>
    refine g_aald (b := b 1 0) (f := fun k => some (b k 0)) C dX4_keep_36 0 1 rfl rfl 1 rfl hi36 (by rw [hj36]) rfl ?_
    refine g_astore_n C dX4_keep_37 (Nat.le_of_ble_eq_true rfl) (lv' := [(2, .ref (b 1 0)), (0, .ref (a 0)), (1, .ref (ao 0))]) rfl rfl ?_
    refine g_aload_n C dX4_keep_38 0 rfl rfl ?_
    refine g_ifnull C dX4_keep_39 rfl ?_
    refine g_aload_n C dX4_keep_42 0 rfl rfl ?_
    refine g_aload_n C dX4_keep_43 2 rfl rfl ?_
    refine g_callVv (As := [.ref (ao 0)]) (gr := [gPas cQ a b (v1, v2), gPar cI (b 0) (P 0), gPar cI (b 2) (P 2), gPar cI (b 3) (P 3), gPar cI (b 4) (P 4), gPar cI (b 5) (P 5), gPar cI (b 6) (P 6), gPar cI (b 7) (P 7)]) C (c_X3_become l D cI cQ (b 1) ao (P 1) to  _) dX4_keep_44 ⟨ml_X4_31, kV_X3_become⟩ ⟨Nat.le_of_ble_eq_true rfl, Nat.le_of_ble_eq_true rfl⟩ ⟨Nat.le_refl _, Nat.le_refl _⟩ rfl rfl 0 0 rfl rfl [2, 9, 0, 1, 3, 4, 5, 6, 7, 8] 10 rfl pm_2_9_0_1_3_4_5_6_7_8 rfl rfl rfl (Nat.le_of_ble_eq_true rfl) rfl (fun (u : PT) => [gPas cQ a b (v1, v2), gPar cI (b 0) ((va_up P 1 u) 0), gPar cI (b 1) ((va_up P 1 u) 1), gPar cI (b 2) ((va_up P 1 u) 2), gPar cI (b 3) ((va_up P 1 u) 3), gPar cI (b 4) ((va_up P 1 u) 4), gPar cI (b 5) ((va_up P 1 u) 5), gPar cI (b 6) ((va_up P 1 u) 6), gPar cI (b 7) ((va_up P 1 u) 7), gPar cI ao to]) [2, 3, 0, 4, 5, 6, 7, 8, 9, 1] (fun _ => rfl) pm_2_3_0_4_5_6_7_8_9_1 (fun _ => rfl) hw (fun u205 hw => ?_)
    obtain ⟨Pu206, rfl⟩ : ∃ z, z = u205 := ⟨_, rfl⟩
    exact hret 47 ((v1, v2), (va_up P 1 Pu206)) _ dX4_keep_47 hw
  | 2, _ =>
    refine g_aald (b := b 2 0) (f := fun k => some (b k 0)) C dX4_keep_36 0 1 rfl rfl 1 rfl hi36 (by rw [hj36]) rfl ?_
    refine g_astore_n C dX4_keep_37 (Nat.le_of_ble_eq_true rfl) (lv' := [(2, .ref (b 2 0)), (0, .ref (a 0)), (1, .ref (ao 0))]) rfl rfl ?_
    refine g_aload_n C dX4_keep_38 0 rfl rfl ?_
    refine g_ifnull C dX4_keep_39 rfl ?_
    refine g_aload_n C dX4_keep_42 0 rfl rfl ?_
    refine g_aload_n C dX4_keep_43 2 rfl rfl ?_
    refine g_callVv (As := [.ref (ao 0)]) (gr := [gPas cQ a b (v1, v2), gPar cI (b 0) (P 0), gPar cI (b 1) (P 1), gPar cI (b 3) (P 3), gPar cI (b 4) (P 4), gPar cI (b 5) (P 5), gPar cI (b 6) (P 6), gPar cI (b 7) (P 7)]) C (c_X3_become l D cI cQ (b 2) ao (P 2) to  _) dX4_keep_44 ⟨ml_X4_31, kV_X3_become⟩ ⟨Nat.le_of_ble_eq_true rfl, Nat.le_of_ble_eq_true rfl⟩ ⟨Nat.le_refl _, Nat.le_refl _⟩ rfl rfl 0 0 rfl rfl [3, 9, 0, 1, 2, 4, 5, 6, 7, 8] 10 rfl pm_3_9_0_1_2_4_5_6_7_8 rfl rfl rfl (Nat.le_of_ble_eq_true rfl) rfl (fun (u : PT) => [gPas cQ a b (v1, v2), gPar cI (b 0) ((va_up P 2 u) 0), gPar cI (b 1) ((va_up P 2 u) 1), gPar cI (b 2) ((va_up P 2 u) 2), gPar cI (b 3) ((va_up P 2 u) 3), gPar cI (b 4) ((va_up P 2 u) 4), gPar cI (b 5) ((va_up P 2 u) 5), gPar cI (b 6) ((va_up P 2 u) 6), gPar cI (b 7) ((va_up P 2 u) 7), gPar cI ao to]) [2, 3, 4, 0, 5, 6, 7, 8, 9, 1] (fun _ => rfl) pm_2_3_4_0_5_6_7_8_9_1 (fun _ => rfl) hw (fun u305 hw => ?_)
    obtain ⟨Pu306, rfl⟩ : ∃ z, z = u305 := ⟨_, rfl⟩
    exact hret 47 ((v1, v2), (va_up P 2 Pu306)) _ dX4_keep_47 hw
  | 3, _ =>
    refine g_aald (b := b 3 0) (f := fun k => some (b k 0)) C dX4_keep_36 0 1 rfl rfl 1 rfl hi36 (by rw [hj36]) rfl ?_
    refine g_astore_n C dX4_keep_37 (Nat.le_of_ble_eq_true rfl) (lv' := [(2, .ref (b 3 0)), (0, .ref (a 0)), (1, .ref (ao 0))]) rfl rfl ?_
    refine g_aload_n C dX4_keep_38 0 rfl rfl ?_
    refine g_ifnull C dX4_keep_39 rfl ?_
    refine g_aload_n C dX4_keep_42 0 rfl rfl ?_
    refine g_aload_n C dX4_keep_43 2 rfl rfl ?_
    refine g_callVv (As := [.ref (ao 0)]) (gr := [gPas cQ a b (v1, v2), gPar cI (b 0) (P 0), gPar cI (b 1) (P 1), gPar cI (b 2) (P 2), gPar cI (b 4) (P 4), gPar cI (b 5) (P 5), gPar cI (b 6) (P 6), gPar cI (b 7) (P 7)]) C (c_X3_become l D cI cQ (b 3) ao (P 3) to  _) dX4_keep_44 ⟨ml_X4_31, kV_X3_become⟩ ⟨Nat.le_of_ble_eq_true rfl, Nat.le_of_ble_eq_true rfl⟩ ⟨Nat.le_refl _, Nat.le_refl _⟩ rfl rfl 0 0 rfl rfl [4, 9, 0, 1, 2, 3, 5, 6, 7, 8] 10 rfl pm_4_9_0_1_2_3_5_6_7_8 rfl rfl rfl (Nat.le_of_ble_eq_true rfl) rfl (fun (u : PT) => [gPas cQ a b (v1, v2), gPar cI (b 0) ((va_up P 3 u) 0), gPar cI (b 1) ((va_up P 3 u) 1), gPar cI (b 2) ((va_up P 3 u) 2), gPar cI (b 3) ((va_up P 3 u) 3), gPar cI (b 4) ((va_up P 3 u) 4), gPar cI (b 5) ((va_up P 3 u) 5), gPar cI (b 6) ((va_up P 3 u) 6), gPar cI (b 7) ((va_up P 3 u) 7), gPar cI ao to]) [2, 3, 4, 5, 0, 6, 7, 8, 9, 1] (fun _ => rfl) pm_2_3_4_5_0_6_7_8_9_1 (fun _ => rfl) hw (fun u405 hw => ?_)
    obtain ⟨Pu406, rfl⟩ : ∃ z, z = u405 := ⟨_, rfl⟩
    exact hret 47 ((v1, v2), (va_up P 3 Pu406)) _ dX4_keep_47 hw
  | 4, _ =>
    refine g_aald (b := b 4 0) (f := fun k => some (b k 0)) C dX4_keep_36 0 1 rfl rfl 1 rfl hi36 (by rw [hj36]) rfl ?_
    refine g_astore_n C dX4_keep_37 (Nat.le_of_ble_eq_true rfl) (lv' := [(2, .ref (b 4 0)), (0, .ref (a 0)), (1, .ref (ao 0))]) rfl rfl ?_
    refine g_aload_n C dX4_keep_38 0 rfl rfl ?_
    refine g_ifnull C dX4_keep_39 rfl ?_
    refine g_aload_n C dX4_keep_42 0 rfl rfl ?_
    refine g_aload_n C dX4_keep_43 2 rfl rfl ?_
    refine g_callVv (As := [.ref (ao 0)]) (gr := [gPas cQ a b (v1, v2), gPar cI (b 0) (P 0), gPar cI (b 1) (P 1), gPar cI (b 2) (P 2), gPar cI (b 3) (P 3), gPar cI (b 5) (P 5), gPar cI (b 6) (P 6), gPar cI (b 7) (P 7)]) C (c_X3_become l D cI cQ (b 4) ao (P 4) to  _) dX4_keep_44 ⟨ml_X4_31, kV_X3_become⟩ ⟨Nat.le_of_ble_eq_true rfl, Nat.le_of_ble_eq_true rfl⟩ ⟨Nat.le_refl _, Nat.le_refl _⟩ rfl rfl 0 0 rfl rfl [5, 9, 0, 1, 2, 3, 4, 6, 7, 8] 10 rfl pm_5_9_0_1_2_3_4_6_7_8 rfl rfl rfl (Nat.le_of_ble_eq_true rfl) rfl (fun (u : PT) => [gPas cQ a b (v1, v2), gPar cI (b 0) ((va_up P 4 u) 0), gPar cI (b 1) ((va_up P 4 u) 1), gPar cI (b 2) ((va_up P 4 u) 2), gPar cI (b 3) ((va_up P 4 u) 3), gPar cI (b 4) ((va_up P 4 u) 4), gPar cI (b 5) ((va_up P 4 u) 5), gPar cI (b 6) ((va_up P 4 u) 6), gPar cI (b 7) ((va_up P 4 u) 7), gPar cI ao to]) [2, 3, 4, 5, 6, 0, 7, 8, 9, 1] (fun _ => rfl) pm_2_3_4_5_6_0_7_8_9_1 (fun _ => rfl) hw (fun u505 hw => ?_)
    obtain ⟨Pu506, rfl⟩ : ∃ z, z = u505 := ⟨_, rfl⟩
    exact hret 47 ((v1, v2), (va_up P 4 Pu506)) _ dX4_keep_47 hw
  | 5, _ =>
    refine g_aald (b := b 5 0) (f := fun k => some (b k 0)) C dX4_keep_36 0 1 rfl rfl 1 rfl hi36 (by rw [hj36]) rfl ?_
    refine g_astore_n C dX4_keep_37 (Nat.le_of_ble_eq_true rfl) (lv' := [(2, .ref (b 5 0)), (0, .ref (a 0)), (1, .ref (ao 0))]) rfl rfl ?_
    refine g_aload_n C dX4_keep_38 0 rfl rfl ?_
    refine g_ifnull C dX4_keep_39 rfl ?_
    refine g_aload_n C dX4_keep_42 0 rfl rfl ?_
    refine g_aload_n C dX4_keep_43 2 rfl rfl ?_
    refine g_callVv (As := [.ref (ao 0)]) (gr := [gPas cQ a b (v1, v2), gPar cI (b 0) (P 0), gPar cI (b 1) (P 1), gPar cI (b 2) (P 2), gPar cI (b 3) (P 3), gPar cI (b 4) (P 4), gPar cI (b 6) (P 6), gPar cI (b 7) (P 7)]) C (c_X3_become l D cI cQ (b 5) ao (P 5) to  _) dX4_keep_44 ⟨ml_X4_31, kV_X3_become⟩ ⟨Nat.le_of_ble_eq_true rfl, Nat.le_of_ble_eq_true rfl⟩ ⟨Nat.le_refl _, Nat.le_refl _⟩ rfl rfl 0 0 rfl rfl [6, 9, 0, 1, 2, 3, 4, 5, 7, 8] 10 rfl pm_6_9_0_1_2_3_4_5_7_8 rfl rfl rfl (Nat.le_of_ble_eq_true rfl) rfl (fun (u : PT) => [gPas cQ a b (v1, v2), gPar cI (b 0) ((va_up P 5 u) 0), gPar cI (b 1) ((va_up P 5 u) 1), gPar cI (b 2) ((va_up P 5 u) 2), gPar cI (b 3) ((va_up P 5 u) 3), gPar cI (b 4) ((va_up P 5 u) 4), gPar cI (b 5) ((va_up P 5 u) 5), gPar cI (b 6) ((va_up P 5 u) 6), gPar cI (b 7) ((va_up P 5 u) 7), gPar cI ao to]) [2, 3, 4, 5, 6, 7, 0, 8, 9, 1] (fun _ => rfl) pm_2_3_4_5_6_7_0_8_9_1 (fun _ => rfl) hw (fun u605 hw => ?_)
    obtain ⟨Pu606, rfl⟩ : ∃ z, z = u605 := ⟨_, rfl⟩
    exact hret 47 ((v1, v2), (va_up P 5 Pu606)) _ dX4_keep_47 hw
  | 6, _ =>
    refine g_aald (b := b 6 0) (f := fun k => some (b k 0)) C dX4_keep_36 0 1 rfl rfl 1 rfl hi36 (by rw [hj36]) rfl ?_
    refine g_astore_n C dX4_keep_37 (Nat.le_of_ble_eq_true rfl) (lv' := [(2, .ref (b 6 0)), (0, .ref (a 0)), (1, .ref (ao 0))]) rfl rfl ?_
    refine g_aload_n C dX4_keep_38 0 rfl rfl ?_
    refine g_ifnull C dX4_keep_39 rfl ?_
    refine g_aload_n C dX4_keep_42 0 rfl rfl ?_
    refine g_aload_n C dX4_keep_43 2 rfl rfl ?_
    refine g_callVv (As := [.ref (ao 0)]) (gr := [gPas cQ a b (v1, v2), gPar cI (b 0) (P 0), gPar cI (b 1) (P 1), gPar cI (b 2) (P 2), gPar cI (b 3) (P 3), gPar cI (b 4) (P 4), gPar cI (b 5) (P 5), gPar cI (b 7) (P 7)]) C (c_X3_become l D cI cQ (b 6) ao (P 6) to  _) dX4_keep_44 ⟨ml_X4_31, kV_X3_become⟩ ⟨Nat.le_of_ble_eq_true rfl, Nat.le_of_ble_eq_true rfl⟩ ⟨Nat.le_refl _, Nat.le_refl _⟩ rfl rfl 0 0 rfl rfl [7, 9, 0, 1, 2, 3, 4, 5, 6, 8] 10 rfl pm_7_9_0_1_2_3_4_5_6_8 rfl rfl rfl (Nat.le_of_ble_eq_true rfl) rfl (fun (u : PT) => [gPas cQ a b (v1, v2), gPar cI (b 0) ((va_up P 6 u) 0), gPar cI (b 1) ((va_up P 6 u) 1), gPar cI (b 2) ((va_up P 6 u) 2), gPar cI (b 3) ((va_up P 6 u) 3), gPar cI (b 4) ((va_up P 6 u) 4), gPar cI (b 5) ((va_up P 6 u) 5), gPar cI (b 6) ((va_up P 6 u) 6), gPar cI (b 7) ((va_up P 6 u) 7), gPar cI ao to]) [2, 3, 4, 5, 6, 7, 8, 0, 9, 1] (fun _ => rfl) pm_2_3_4_5_6_7_8_0_9_1 (fun _ => rfl) hw (fun u705 hw => ?_)
    obtain ⟨Pu706, rfl⟩ : ∃ z, z = u705 := ⟨_, rfl⟩
    exact hret 47 ((v1, v2), (va_up P 6 Pu706)) _ dX4_keep_47 hw
  | 7, _ =>
    refine g_aald (b := b 7 0) (f := fun k => some (b k 0)) C dX4_keep_36 0 1 rfl rfl 1 rfl hi36 (by rw [hj36]) rfl ?_
    refine g_astore_n C dX4_keep_37 (Nat.le_of_ble_eq_true rfl) (lv' := [(2, .ref (b 7 0)), (0, .ref (a 0)), (1, .ref (ao 0))]) rfl rfl ?_
    refine g_aload_n C dX4_keep_38 0 rfl rfl ?_
    refine g_ifnull C dX4_keep_39 rfl ?_
    refine g_aload_n C dX4_keep_42 0 rfl rfl ?_
    refine g_aload_n C dX4_keep_43 2 rfl rfl ?_
    refine g_callVv (As := [.ref (ao 0)]) (gr := [gPas cQ a b (v1, v2), gPar cI (b 0) (P 0), gPar cI (b 1) (P 1), gPar cI (b 2) (P 2), gPar cI (b 3) (P 3), gPar cI (b 4) (P 4), gPar cI (b 5) (P 5), gPar cI (b 6) (P 6)]) C (c_X3_become l D cI cQ (b 7) ao (P 7) to  _) dX4_keep_44 ⟨ml_X4_31, kV_X3_become⟩ ⟨Nat.le_of_ble_eq_true rfl, Nat.le_of_ble_eq_true rfl⟩ ⟨Nat.le_refl _, Nat.le_refl _⟩ rfl rfl 0 0 rfl rfl [8, 9, 0, 1, 2, 3, 4, 5, 6, 7] 10 rfl pm_8_9_0_1_2_3_4_5_6_7 rfl rfl rfl (Nat.le_of_ble_eq_true rfl) rfl (fun (u : PT) => [gPas cQ a b (v1, v2), gPar cI (b 0) ((va_up P 7 u) 0), gPar cI (b 1) ((va_up P 7 u) 1), gPar cI (b 2) ((va_up P 7 u) 2), gPar cI (b 3) ((va_up P 7 u) 3), gPar cI (b 4) ((va_up P 7 u) 4), gPar cI (b 5) ((va_up P 7 u) 5), gPar cI (b 6) ((va_up P 7 u) 6), gPar cI (b 7) ((va_up P 7 u) 7), gPar cI ao to]) [2, 3, 4, 5, 6, 7, 8, 9, 0, 1] (fun _ => rfl) pm_2_3_4_5_6_7_8_9_0_1 (fun _ => rfl) hw (fun u805 hw => ?_)
    obtain ⟨Pu806, rfl⟩ : ∃ z, z = u805 := ⟨_, rfl⟩
    exact hret 47 ((v1, v2), (va_up P 7 Pu806)) _ dX4_keep_47 hw
set_option maxRecDepth 100000 in
theorem c_X4_keep (l : Launch) (D : va_G) (cI cQ : ClassId) (a : Nat → Nat) (b : Nat → Nat → Nat) (ao : Nat → Nat) (hh : HT) (P : (Nat → PT)) (to : PT) (post : HT × (Nat → PT) → Prop) (sz : Nat) : Met l yX4_keep (wsY yX4_keep cX4_keep 3 none) (rmL 2 0 0 61) (xP D (tyL cI cQ) [.ref (a 0), .ref (ao 0)] [gPas cQ a b hh, gPar cI (b 0) (P 0), gPar cI (b 1) (P 1), gPar cI (b 2) (P 2), gPar cI (b 3) (P 3), gPar cI (b 4) (P 4), gPar cI (b 5) (P 5), gPar cI (b 6) (P 6), gPar cI (b 7) (P 7), gPar cI ao to] sz (p_X4_keep hh P to post)) (xQv D (tyL cI cQ) post (fun (u : HT × (Nat → PT)) => [gPas cQ a b u.1, gPar cI (b 0) (u.2 0), gPar cI (b 1) (u.2 1), gPar cI (b 2) (u.2 2), gPar cI (b 3) (u.2 3), gPar cI (b 4) (u.2 4), gPar cI (b 5) (u.2 5), gPar cI (b 6) (u.2 6), gPar cI (b 7) (u.2 7), gPar cI ao to]) (va_A [gPas cQ a b hh, gPar cI (b 0) (P 0), gPar cI (b 1) (P 1), gPar cI (b 2) (P 2), gPar cI (b 3) (P 3), gPar cI (b 4) (P 4), gPar cI (b 5) (P 5), gPar cI (b 6) (P 6), gPar cI (b 7) (P 7), gPar cI ao to].flatten sz)) 0 0 (va_A [gPas cQ a b hh, gPar cI (b 0) (P 0), gPar cI (b 1) (P 1), gPar cI (b 2) (P 2), gPar cI (b 3) (P 3), gPar cI (b 4) (P 4), gPar cI (b 5) (P 5), gPar cI (b 6) (P 6), gPar cI (b 7) (P 7), gPar cI ao to].flatten sz) :=
  Met_v pn_X4 (Nat.le_of_ble_eq_true rfl) (fun p e s mi below meth co A Q _ C hret hw => w_X4_keep a b ao hh P to C hret hw)
theorem kV_X4_keep : Cond.instanceMethod yX4_keep ∈ gTbl ∧ Cond.selects yX4_keep.cls yX4_keep yX4_keep ∈ gTbl ∧ Cond.initialized yX4_keep.cls ∈ gTbl ∧ Cond.code yX4_keep cX4_keep 3 none ∈ gTbl ∧ (yX4_keep.cls ≠ "java/lang/invoke/MethodHandle" ∧ yX4_keep.cls ≠ "java/lang/invoke/VarHandle" ∧ (parseMethodDescriptor yX4_keep.desc).map (fun d => d.parameters.length) = some 1) := ⟨im_X4_keep, sl_X4_keep, in_X4, cd_X4_keep, (by decide +kernel)⟩
set_option maxRecDepth 100000 in
def p_X4_giveLatest (hh : HT) (P : (Nat → PT)) (to : PT) (post : Int32 → HT × PT → Prop) : Prop := (fun (hh_la : Int32) (hh_sz : Int32) => ((hh_sz = 0 → post (0 : Int32) ((hh_la, hh_sz), to)) ∧ (¬ hh_sz = 0 → (vp_in hh_la 8 ∧ p_X3_become to (P (hh_la).toNatClampNeg) (fun (u1 : PT) => (fun (tov2 : PT) => nm ((((hh_la + (8 : Int32)) - (1 : Int32)) - ((hh_la + (8 : Int32)) - (1 : Int32)) / (8 : Int32) * (8 : Int32)) : Int32) (fun (v3 : Int32) => nm ((hh_sz - (1 : Int32)) : Int32) (fun (v4 : Int32) => post (1 : Int32) ((v3, v4), tov2)))) u1))))) hh.1 hh.2
set_option maxHeartbeats 4000000 in
set_option maxRecDepth 100000 in
theorem w_X4_giveLatest {p : Program} {l : Launch} {e : Env} {s : State} {mi : MethodId} {args : Array Value} {below : List Frame} {meth : Method} {co : Code} {D : va_G} {cI cQ : ClassId} {A : Nat → Prop} {Q : State → Prop} (a : Nat → Nat) (b : Nat → Nat → Nat) (ao : Nat → Nat) (hh : HT) (P : (Nat → PT)) (to : PT) {post : Int32 → HT × PT → Prop} (C : xC p s mi args co cX4_giveLatest RX4 2 D (tyL cI cQ) A) (hret : ∀ (pc : Nat) (r : Int32) (u : HT × PT) (lv : List (Nat × Value)), decode cX4_giveLatest pc = .ok (.ireturn, 1) → bz r → post r u → xG p l e (rmL 2 0 0 61) s mi args below meth co D A 2 Q 0 0 pc [.int r] [gPas cQ a b u.1, gPar cI (b 0) (P 0), gPar cI (b 1) (P 1), gPar cI (b 2) (P 2), gPar cI (b 3) (P 3), gPar cI (b 4) (P 4), gPar cI (b 5) (P 5), gPar cI (b 6) (P 6), gPar cI (b 7) (P 7), gPar cI ao u.2] lv) (hw : p_X4_giveLatest hh P to post) : xG p l e (rmL 2 0 0 61) s mi args below meth co D A 2 Q 0 0 0 [] [gPas cQ a b hh, gPar cI (b 0) (P 0), gPar cI (b 1) (P 1), gPar cI (b 2) (P 2), gPar cI (b 3) (P 3), gPar cI (b 4) (P 4), gPar cI (b 5) (P 5), gPar cI (b 6) (P 6), gPar cI (b 7) (P 7), gPar cI ao to] [(0, .ref (a 0)), (1, .ref (ao 0))] := by
  unfold p_X4_giveLatest at hw
  obtain ⟨hh_la, hh_sz⟩ := hh
  try dsimp only at hw
  show xG p l e (rmL 2 0 0 61) s mi args below meth co D A 2 Q 0 0 0 [] [gPas cQ a b (hh_la, hh_sz), gPar cI (b 0) (P 0), gPar cI (b 1) (P 1), gPar cI (b 2) (P 2), gPar cI (b 3) (P 3), gPar cI (b 4) (P 4), gPar cI (b 5) (P 5), gPar cI (b 6) (P 6), gPar cI (b 7) (P 7), gPar cI ao to] [(0, .ref (a 0)), (1, .ref (ao 0))]
  refine g_aload_n C dX4_giveLatest_0 0 rfl rfl ?_
  refine g_get (v := .int hh_sz) (ci := 3) C dX4_giveLatest_1 inw_X4 rfl 0 0 2 rfl rfl (Nat.le_of_ble_eq_true rfl) rfl fl_X4_18 rfl rfl ?_
  refine g_if_eq (tgt := 11) C dX4_giveLatest_4 (by decide) rfl hw (fun _ hw => ?_) (fun _ hw => ?_)
  · refine g_iconst (v := 0) C dX4_giveLatest_11 rfl rfl ?_
    exact hret 12 (0 : Int32) ((hh_la, hh_sz), to) _ dX4_giveLatest_12 ⟨rfl, rfl⟩ hw
  · refine g_aload_n C dX4_giveLatest_7 1 rfl rfl ?_
    refine g_ifnonnull (pc' := 13) C dX4_giveLatest_8 (by decide) rfl ?_
    refine g_aload_n C dX4_giveLatest_13 1 rfl rfl ?_
    refine g_aload_n C dX4_giveLatest_14 0 rfl rfl ?_
    refine g_get (v := .ref (a 1)) (ci := 3) C dX4_giveLatest_15 inw_X4 rfl 0 0 0 rfl rfl (Nat.le_of_ble_eq_true rfl) rfl fl_X4_11 rfl rfl ?_
    refine g_aload_n C dX4_giveLatest_18 0 rfl rfl ?_
    refine g_get (v := .int hh_la) (ci := 3) C dX4_giveLatest_19 inw_X4 rfl 0 0 1 rfl rfl (Nat.le_of_ble_eq_true rfl) rfl fl_X4_22 rfl rfl ?_
    have hi22 := hw.1
    replace hw := hw.2
    obtain ⟨j22, hj22, hjn22⟩ : ∃ j, (hh_la).toNatClampNeg = j ∧ j < 8 := ⟨_, rfl, Nat.not_le.mp fun q => hi22 (Or.inr q)⟩
    rw [hj22] at hw
    match j22, hjn22 with
    | 0, _ =>
      refine g_aald (b := b 0 0) (f := fun k => some (b k 0)) C dX4_giveLatest_22 0 1 rfl rfl 1 rfl hi22 (by rw [hj22]) rfl ?_
      refine g_callVv (As := [.ref (b 0 0)]) (gr := [gPas cQ a b (hh_la, hh_sz), gPar cI (b 1) (P 1), gPar cI (b 2) (P 2), gPar cI (b 3) (P 3), gPar cI (b 4) (P 4), gPar cI (b 5) (P 5), gPar cI (b 6) (P 6), gPar cI (b 7) (P 7)]) C (c_X3_become l D cI cQ ao (b 0) to (P 0)  _) dX4_giveLatest_23 ⟨ml_X4_31, kV_X3_become⟩ ⟨Nat.le_of_ble_eq_true rfl, Nat.le_of_ble_eq_true rfl⟩ ⟨Nat.le_refl _, Nat.le_refl _⟩ rfl rfl 0 0 rfl rfl [9, 1, 0, 2, 3, 4, 5, 6, 7, 8] 10 rfl pm_9_1_0_2_3_4_5_6_7_8 rfl rfl rfl (Nat.le_of_ble_eq_true rfl) rfl (fun (u : PT) => [gPas cQ a b (hh_la, hh_sz), gPar cI (b 0) (P 0), gPar cI (b 1) (P 1), gPar cI (b 2) (P 2), gPar cI (b 3) (P 3), gPar cI (b 4) (P 4), gPar cI (b 5) (P 5), gPar cI (b 6) (P 6), gPar cI (b 7) (P 7), gPar cI ao u]) [2, 1, 3, 4, 5, 6, 7, 8, 9, 0] (fun _ => rfl) pm_2_1_3_4_5_6_7_8_9_0 (fun _ => rfl) hw (fun u105 hw => ?_)
      obtain ⟨tov106, rfl⟩ : ∃ z, z = u105 := ⟨_, rfl⟩
      refine g_aload_n C dX4_giveLatest_26 0 rfl rfl ?_
      refine g_aload_n C dX4_giveLatest_27 0 rfl rfl ?_
      refine g_get (v := .int hh_la) (ci := 3) C dX4_giveLatest_28 inw_X4 rfl 0 0 1 rfl rfl (Nat.le_of_ble_eq_true rfl) rfl fl_X4_22 rfl rfl ?_
      refine g_bipush (v := 8) C dX4_giveLatest_31 (by decide) rfl ?_
      refine g_iadd C dX4_giveLatest_33 rfl ?_
      refine g_iconst (v := 1) C dX4_giveLatest_34 rfl rfl ?_
      refine g_isub C dX4_giveLatest_35 rfl ?_
      refine g_bipush (v := 8) C dX4_giveLatest_36 (by decide) rfl ?_
      refine g_irem C dX4_giveLatest_38 (by decide) rfl ?_
      refine nm_el hw (fun v107 ev107 hw => ?_)
      refine g_put (v' := .int v107) (ty := .int) (ci := 3) (gs' := [gPas cQ a b (v107, hh_sz), gPar cI (b 0) (P 0), gPar cI (b 1) (P 1), gPar cI (b 2) (P 2), gPar cI (b 3) (P 3), gPar cI (b 4) (P 4), gPar cI (b 5) (P 5), gPar cI (b 6) (P 6), gPar cI (b 7) (P 7), gPar cI ao tov106]) C dX4_giveLatest_39 inw_X4 tyX4 tyX4_ok nmX4 rfl 0 0 1 rfl rfl (Nat.le_of_ble_eq_true rfl) rfl fl_X4_22 rfl fd_I (congrArg Value.int ev107.symm) rfl rfl (Nat.le_of_ble_eq_true rfl) rfl rfl ?_
      refine g_aload_n C dX4_giveLatest_42 0 rfl rfl ?_
      refine g_dup C dX4_giveLatest_43 rfl rfl ?_
      refine g_get (v := .int hh_sz) (ci := 3) C dX4_giveLatest_44 inw_X4 rfl 0 0 2 rfl rfl (Nat.le_of_ble_eq_true rfl) rfl fl_X4_18 rfl rfl ?_
      refine g_iconst (v := 1) C dX4_giveLatest_47 rfl rfl ?_
      refine g_isub C dX4_giveLatest_48 rfl ?_
      refine nm_el hw (fun v108 ev108 hw => ?_)
      refine g_put (v' := .int v108) (ty := .int) (ci := 3) (gs' := [gPas cQ a b (v107, v108), gPar cI (b 0) (P 0), gPar cI (b 1) (P 1), gPar cI (b 2) (P 2), gPar cI (b 3) (P 3), gPar cI (b 4) (P 4), gPar cI (b 5) (P 5), gPar cI (b 6) (P 6), gPar cI (b 7) (P 7), gPar cI ao tov106]) C dX4_giveLatest_49 inw_X4 tyX4 tyX4_ok nmX4 rfl 0 0 2 rfl rfl (Nat.le_of_ble_eq_true rfl) rfl fl_X4_18 rfl fd_I (congrArg Value.int ev108.symm) rfl rfl (Nat.le_of_ble_eq_true rfl) rfl rfl ?_
      refine g_iconst (v := 1) C dX4_giveLatest_52 rfl rfl ?_
      exact hret 53 (1 : Int32) ((v107, v108), tov106) _ dX4_giveLatest_53 ⟨rfl, rfl⟩ hw
    | 1, _ =>
      refine g_aald (b := b 1 0) (f := fun k => some (b k 0)) C dX4_giveLatest_22 0 1 rfl rfl 1 rfl hi22 (by rw [hj22]) rfl ?_
      refine g_callVv (As := [.ref (b 1 0)]) (gr := [gPas cQ a b (hh_la, hh_sz), gPar cI (b 0) (P 0), gPar cI (b 2) (P 2), gPar cI (b 3) (P 3), gPar cI (b 4) (P 4), gPar cI (b 5) (P 5), gPar cI (b 6) (P 6), gPar cI (b 7) (P 7)]) C (c_X3_become l D cI cQ ao (b 1) to (P 1)  _) dX4_giveLatest_23 ⟨ml_X4_31, kV_X3_become⟩ ⟨Nat.le_of_ble_eq_true rfl, Nat.le_of_ble_eq_true rfl⟩ ⟨Nat.le_refl _, Nat.le_refl _⟩ rfl rfl 0 0 rfl rfl [9, 2, 0, 1, 3, 4, 5, 6, 7, 8] 10 rfl pm_9_2_0_1_3_4_5_6_7_8 rfl rfl rfl (Nat.le_of_ble_eq_true rfl) rfl (fun (u : PT) => [gPas cQ a b (hh_la, hh_sz), gPar cI (b 0) (P 0), gPar cI (b 1) (P 1), gPar cI (b 2) (P 2), gPar cI (b 3) (P 3), gPar cI (b 4) (P 4), gPar cI (b 5) (P 5), gPar cI (b 6) (P 6), gPar cI (b 7) (P 7), gPar cI ao u]) [2, 3, 1, 4, 5, 6, 7, 8, 9, 0] (fun _ => rfl) pm_2_3_1_4_5_6_7_8_9_0 (fun _ => rfl) hw (fun u205 hw => ?_)
      obtain ⟨tov206, rfl⟩ : ∃ z, z = u205 := ⟨_, rfl⟩
      refine g_aload_n C dX4_giveLatest_26 0 rfl rfl ?_
      refine g_aload_n C dX4_giveLatest_27 0 rfl rfl ?_
      refine g_get (v := .int hh_la) (ci := 3) C dX4_giveLatest_28 inw_X4 rfl 0 0 1 rfl rfl (Nat.le_of_ble_eq_true rfl) rfl fl_X4_22 rfl rfl ?_
      refine g_bipush (v := 8) C dX4_giveLatest_31 (by decide) rfl ?_
      refine g_iadd C dX4_giveLatest_33 rfl ?_
      refine g_iconst (v := 1) C dX4_giveLatest_34 rfl rfl ?_
      refine g_isub C dX4_giveLatest_35 rfl ?_
      refine g_bipush (v := 8) C dX4_giveLatest_36 (by decide) rfl ?_
      refine g_irem C dX4_giveLatest_38 (by decide) rfl ?_
      refine nm_el hw (fun v207 ev207 hw => ?_)
      refine g_put (v' := .int v207) (ty := .int) (ci := 3) (gs' := [gPas cQ a b (v207, hh_sz), gPar cI (b 0) (P 0), gPar cI (b 1) (P 1), gPar cI (b 2) (P 2), gPar cI (b 3) (P 3), gPar cI (b 4) (P 4), gPar cI (b 5) (P 5), gPar cI (b 6) (P 6), gPar cI (b 7) (P 7), gPar cI ao tov206]) C dX4_giveLatest_39 inw_X4 tyX4 tyX4_ok nmX4 rfl 0 0 1 rfl rfl (Nat.le_of_ble_eq_true rfl) rfl fl_X4_22 rfl fd_I (congrArg Value.int ev207.symm) rfl rfl (Nat.le_of_ble_eq_true rfl) rfl rfl ?_
      refine g_aload_n C dX4_giveLatest_42 0 rfl rfl ?_
      refine g_dup C dX4_giveLatest_43 rfl rfl ?_
      refine g_get (v := .int hh_sz) (ci := 3) C dX4_giveLatest_44 inw_X4 rfl 0 0 2 rfl rfl (Nat.le_of_ble_eq_true rfl) rfl fl_X4_18 rfl rfl ?_
      refine g_iconst (v := 1) C dX4_giveLatest_47 rfl rfl ?_
      refine g_isub C dX4_giveLatest_48 rfl ?_
      refine nm_el hw (fun v208 ev208 hw => ?_)
      refine g_put (v' := .int v208) (ty := .int) (ci := 3) (gs' := [gPas cQ a b (v207, v208), gPar cI (b 0) (P 0), gPar cI (b 1) (P 1), gPar cI (b 2) (P 2), gPar cI (b 3) (P 3), gPar cI (b 4) (P 4), gPar cI (b 5) (P 5), gPar cI (b 6) (P 6), gPar cI (b 7) (P 7), gPar cI ao tov206]) C dX4_giveLatest_49 inw_X4 tyX4 tyX4_ok nmX4 rfl 0 0 2 rfl rfl (Nat.le_of_ble_eq_true rfl) rfl fl_X4_18 rfl fd_I (congrArg Value.int ev208.symm) rfl rfl (Nat.le_of_ble_eq_true rfl) rfl rfl ?_
      refine g_iconst (v := 1) C dX4_giveLatest_52 rfl rfl ?_
      exact hret 53 (1 : Int32) ((v207, v208), tov206) _ dX4_giveLatest_53 ⟨rfl, rfl⟩ hw
    | 2, _ =>
      refine g_aald (b := b 2 0) (f := fun k => some (b k 0)) C dX4_giveLatest_22 0 1 rfl rfl 1 rfl hi22 (by rw [hj22]) rfl ?_
      refine g_callVv (As := [.ref (b 2 0)]) (gr := [gPas cQ a b (hh_la, hh_sz), gPar cI (b 0) (P 0), gPar cI (b 1) (P 1), gPar cI (b 3) (P 3), gPar cI (b 4) (P 4), gPar cI (b 5) (P 5), gPar cI (b 6) (P 6), gPar cI (b 7) (P 7)]) C (c_X3_become l D cI cQ ao (b 2) to (P 2)  _) dX4_giveLatest_23 ⟨ml_X4_31, kV_X3_become⟩ ⟨Nat.le_of_ble_eq_true rfl, Nat.le_of_ble_eq_true rfl⟩ ⟨Nat.le_refl _, Nat.le_refl _⟩ rfl rfl 0 0 rfl rfl [9, 3, 0, 1, 2, 4, 5, 6, 7, 8] 10 rfl pm_9_3_0_1_2_4_5_6_7_8 rfl rfl rfl (Nat.le_of_ble_eq_true rfl) rfl (fun (u : PT) => [gPas cQ a b (hh_la, hh_sz), gPar cI (b 0) (P 0), gPar cI (b 1) (P 1), gPar cI (b 2) (P 2), gPar cI (b 3) (P 3), gPar cI (b 4) (P 4), gPar cI (b 5) (P 5), gPar cI (b 6) (P 6), gPar cI (b 7) (P 7), gPar cI ao u]) [2, 3, 4, 1, 5, 6, 7, 8, 9, 0] (fun _ => rfl) pm_2_3_4_1_5_6_7_8_9_0 (fun _ => rfl) hw (fun u305 hw => ?_)
      obtain ⟨tov306, rfl⟩ : ∃ z, z = u305 := ⟨_, rfl⟩
      refine g_aload_n C dX4_giveLatest_26 0 rfl rfl ?_
      refine g_aload_n C dX4_giveLatest_27 0 rfl rfl ?_
      refine g_get (v := .int hh_la) (ci := 3) C dX4_giveLatest_28 inw_X4 rfl 0 0 1 rfl rfl (Nat.le_of_ble_eq_true rfl) rfl fl_X4_22 rfl rfl ?_
      refine g_bipush (v := 8) C dX4_giveLatest_31 (by decide) rfl ?_
      refine g_iadd C dX4_giveLatest_33 rfl ?_
      refine g_iconst (v := 1) C dX4_giveLatest_34 rfl rfl ?_
      refine g_isub C dX4_giveLatest_35 rfl ?_
      refine g_bipush (v := 8) C dX4_giveLatest_36 (by decide) rfl ?_
      refine g_irem C dX4_giveLatest_38 (by decide) rfl ?_
      refine nm_el hw (fun v307 ev307 hw => ?_)
      refine g_put (v' := .int v307) (ty := .int) (ci := 3) (gs' := [gPas cQ a b (v307, hh_sz), gPar cI (b 0) (P 0), gPar cI (b 1) (P 1), gPar cI (b 2) (P 2), gPar cI (b 3) (P 3), gPar cI (b 4) (P 4), gPar cI (b 5) (P 5), gPar cI (b 6) (P 6), gPar cI (b 7) (P 7), gPar cI ao tov306]) C dX4_giveLatest_39 inw_X4 tyX4 tyX4_ok nmX4 rfl 0 0 1 rfl rfl (Nat.le_of_ble_eq_true rfl) rfl fl_X4_22 rfl fd_I (congrArg Value.int ev307.symm) rfl rfl (Nat.le_of_ble_eq_true rfl) rfl rfl ?_
      refine g_aload_n C dX4_giveLatest_42 0 rfl rfl ?_
      refine g_dup C dX4_giveLatest_43 rfl rfl ?_
      refine g_get (v := .int hh_sz) (ci := 3) C dX4_giveLatest_44 inw_X4 rfl 0 0 2 rfl rfl (Nat.le_of_ble_eq_true rfl) rfl fl_X4_18 rfl rfl ?_
      refine g_iconst (v := 1) C dX4_giveLatest_47 rfl rfl ?_
      refine g_isub C dX4_giveLatest_48 rfl ?_
      refine nm_el hw (fun v308 ev308 hw => ?_)
      refine g_put (v' := .int v308) (ty := .int) (ci := 3) (gs' := [gPas cQ a b (v307, v308), gPar cI (b 0) (P 0), gPar cI (b 1) (P 1), gPar cI (b 2) (P 2), gPar cI (b 3) (P 3), gPar cI (b 4) (P 4), gPar cI (b 5) (P 5), gPar cI (b 6) (P 6), gPar cI (b 7) (P 7), gPar cI ao tov306]) C dX4_giveLatest_49 inw_X4 tyX4 tyX4_ok nmX4 rfl 0 0 2 rfl rfl (Nat.le_of_ble_eq_true rfl) rfl fl_X4_18 rfl fd_I (congrArg Value.int ev308.symm) rfl rfl (Nat.le_of_ble_eq_true rfl) rfl rfl ?_
      refine g_iconst (v := 1) C dX4_giveLatest_52 rfl rfl ?_
      exact hret 53 (1 : Int32) ((v307, v308), tov306) _ dX4_giveLatest_53 ⟨rfl, rfl⟩ hw
    | 3, _ =>
      refine g_aald (b := b 3 0) (f := fun k => some (b k 0)) C dX4_giveLatest_22 0 1 rfl rfl 1 rfl hi22 (by rw [hj22]) rfl ?_
      refine g_callVv (As := [.ref (b 3 0)]) (gr := [gPas cQ a b (hh_la, hh_sz), gPar cI (b 0) (P 0), gPar cI (b 1) (P 1), gPar cI (b 2) (P 2), gPar cI (b 4) (P 4), gPar cI (b 5) (P 5), gPar cI (b 6) (P 6), gPar cI (b 7) (P 7)]) C (c_X3_become l D cI cQ ao (b 3) to (P 3)  _) dX4_giveLatest_23 ⟨ml_X4_31, kV_X3_become⟩ ⟨Nat.le_of_ble_eq_true rfl, Nat.le_of_ble_eq_true rfl⟩ ⟨Nat.le_refl _, Nat.le_refl _⟩ rfl rfl 0 0 rfl rfl [9, 4, 0, 1, 2, 3, 5, 6, 7, 8] 10 rfl pm_9_4_0_1_2_3_5_6_7_8 rfl rfl rfl (Nat.le_of_ble_eq_true rfl) rfl (fun (u : PT) => [gPas cQ a b (hh_la, hh_sz), gPar cI (b 0) (P 0), gPar cI (b 1) (P 1), gPar cI (b 2) (P 2), gPar cI (b 3) (P 3), gPar cI (b 4) (P 4), gPar cI (b 5) (P 5), gPar cI (b 6) (P 6), gPar cI (b 7) (P 7), gPar cI ao u]) [2, 3, 4, 5, 1, 6, 7, 8, 9, 0] (fun _ => rfl) pm_2_3_4_5_1_6_7_8_9_0 (fun _ => rfl) hw (fun u405 hw => ?_)
      obtain ⟨tov406, rfl⟩ : ∃ z, z = u405 := ⟨_, rfl⟩
      refine g_aload_n C dX4_giveLatest_26 0 rfl rfl ?_
      refine g_aload_n C dX4_giveLatest_27 0 rfl rfl ?_
      refine g_get (v := .int hh_la) (ci := 3) C dX4_giveLatest_28 inw_X4 rfl 0 0 1 rfl rfl (Nat.le_of_ble_eq_true rfl) rfl fl_X4_22 rfl rfl ?_
      refine g_bipush (v := 8) C dX4_giveLatest_31 (by decide) rfl ?_
      refine g_iadd C dX4_giveLatest_33 rfl ?_
      refine g_iconst (v := 1) C dX4_giveLatest_34 rfl rfl ?_
      refine g_isub C dX4_giveLatest_35 rfl ?_
      refine g_bipush (v := 8) C dX4_giveLatest_36 (by decide) rfl ?_
      refine g_irem C dX4_giveLatest_38 (by decide) rfl ?_
      refine nm_el hw (fun v407 ev407 hw => ?_)
      refine g_put (v' := .int v407) (ty := .int) (ci := 3) (gs' := [gPas cQ a b (v407, hh_sz), gPar cI (b 0) (P 0), gPar cI (b 1) (P 1), gPar cI (b 2) (P 2), gPar cI (b 3) (P 3), gPar cI (b 4) (P 4), gPar cI (b 5) (P 5), gPar cI (b 6) (P 6), gPar cI (b 7) (P 7), gPar cI ao tov406]) C dX4_giveLatest_39 inw_X4 tyX4 tyX4_ok nmX4 rfl 0 0 1 rfl rfl (Nat.le_of_ble_eq_true rfl) rfl fl_X4_22 rfl fd_I (congrArg Value.int ev407.symm) rfl rfl (Nat.le_of_ble_eq_true rfl) rfl rfl ?_
      refine g_aload_n C dX4_giveLatest_42 0 rfl rfl ?_
      refine g_dup C dX4_giveLatest_43 rfl rfl ?_
      refine g_get (v := .int hh_sz) (ci := 3) C dX4_giveLatest_44 inw_X4 rfl 0 0 2 rfl rfl (Nat.le_of_ble_eq_true rfl) rfl fl_X4_18 rfl rfl ?_
      refine g_iconst (v := 1) C dX4_giveLatest_47 rfl rfl ?_
      refine g_isub C dX4_giveLatest_48 rfl ?_
      refine nm_el hw (fun v408 ev408 hw => ?_)
      refine g_put (v' := .int v408) (ty := .int) (ci := 3) (gs' := [gPas cQ a b (v407, v408), gPar cI (b 0) (P 0), gPar cI (b 1) (P 1), gPar cI (b 2) (P 2), gPar cI (b 3) (P 3), gPar cI (b 4) (P 4), gPar cI (b 5) (P 5), gPar cI (b 6) (P 6), gPar cI (b 7) (P 7), gPar cI ao tov406]) C dX4_giveLatest_49 inw_X4 tyX4 tyX4_ok nmX4 rfl 0 0 2 rfl rfl (Nat.le_of_ble_eq_true rfl) rfl fl_X4_18 rfl fd_I (congrArg Value.int ev408.symm) rfl rfl (Nat.le_of_ble_eq_true rfl) rfl rfl ?_
      refine g_iconst (v := 1) C dX4_giveLatest_52 rfl rfl ?_
      exact hret 53 (1 : Int32) ((v407, v408), tov406) _ dX4_giveLatest_53 ⟨rfl, rfl⟩ hw
    | 4, _ =>
      refine g_aald (b := b 4 0) (f := fun k => some (b k 0)) C dX4_giveLatest_22 0 1 rfl rfl 1 rfl hi22 (by rw [hj22]) rfl ?_
      refine g_callVv (As := [.ref (b 4 0)]) (gr := [gPas cQ a b (hh_la, hh_sz), gPar cI (b 0) (P 0), gPar cI (b 1) (P 1), gPar cI (b 2) (P 2), gPar cI (b 3) (P 3), gPar cI (b 5) (P 5), gPar cI (b 6) (P 6), gPar cI (b 7) (P 7)]) C (c_X3_become l D cI cQ ao (b 4) to (P 4)  _) dX4_giveLatest_23 ⟨ml_X4_31, kV_X3_become⟩ ⟨Nat.le_of_ble_eq_true rfl, Nat.le_of_ble_eq_true rfl⟩ ⟨Nat.le_refl _, Nat.le_refl _⟩ rfl rfl 0 0 rfl rfl [9, 5, 0, 1, 2, 3, 4, 6, 7, 8] 10 rfl pm_9_5_0_1_2_3_4_6_7_8 rfl rfl rfl (Nat.le_of_ble_eq_true rfl) rfl (fun (u : PT) => [gPas cQ a b (hh_la, hh_sz), gPar cI (b 0) (P 0), gPar cI (b 1) (P 1), gPar cI (b 2) (P 2), gPar cI (b 3) (P 3), gPar cI (b 4) (P 4), gPar cI (b 5) (P 5), gPar cI (b 6) (P 6), gPar cI (b 7) (P 7), gPar cI ao u]) [2, 3, 4, 5, 6, 1, 7, 8, 9, 0] (fun _ => rfl) pm_2_3_4_5_6_1_7_8_9_0 (fun _ => rfl) hw (fun u505 hw => ?_)
      obtain ⟨tov506, rfl⟩ : ∃ z, z = u505 := ⟨_, rfl⟩
      refine g_aload_n C dX4_giveLatest_26 0 rfl rfl ?_
      refine g_aload_n C dX4_giveLatest_27 0 rfl rfl ?_
      refine g_get (v := .int hh_la) (ci := 3) C dX4_giveLatest_28 inw_X4 rfl 0 0 1 rfl rfl (Nat.le_of_ble_eq_true rfl) rfl fl_X4_22 rfl rfl ?_
      refine g_bipush (v := 8) C dX4_giveLatest_31 (by decide) rfl ?_
      refine g_iadd C dX4_giveLatest_33 rfl ?_
      refine g_iconst (v := 1) C dX4_giveLatest_34 rfl rfl ?_
      refine g_isub C dX4_giveLatest_35 rfl ?_
      refine g_bipush (v := 8) C dX4_giveLatest_36 (by decide) rfl ?_
      refine g_irem C dX4_giveLatest_38 (by decide) rfl ?_
      refine nm_el hw (fun v507 ev507 hw => ?_)
      refine g_put (v' := .int v507) (ty := .int) (ci := 3) (gs' := [gPas cQ a b (v507, hh_sz), gPar cI (b 0) (P 0), gPar cI (b 1) (P 1), gPar cI (b 2) (P 2), gPar cI (b 3) (P 3), gPar cI (b 4) (P 4), gPar cI (b 5) (P 5), gPar cI (b 6) (P 6), gPar cI (b 7) (P 7), gPar cI ao tov506]) C dX4_giveLatest_39 inw_X4 tyX4 tyX4_ok nmX4 rfl 0 0 1 rfl rfl (Nat.le_of_ble_eq_true rfl) rfl fl_X4_22 rfl fd_I (congrArg Value.int ev507.symm) rfl rfl (Nat.le_of_ble_eq_true rfl) rfl rfl ?_
      refine g_aload_n C dX4_giveLatest_42 0 rfl rfl ?_
      refine g_dup C dX4_giveLatest_43 rfl rfl ?_
      refine g_get (v := .int hh_sz) (ci := 3) C dX4_giveLatest_44 inw_X4 rfl 0 0 2 rfl rfl (Nat.le_of_ble_eq_true rfl) rfl fl_X4_18 rfl rfl ?_
      refine g_iconst (v := 1) C dX4_giveLatest_47 rfl rfl ?_
      refine g_isub C dX4_giveLatest_48 rfl ?_
      refine nm_el hw (fun v508 ev508 hw => ?_)
      refine g_put (v' := .int v508) (ty := .int) (ci := 3) (gs' := [gPas cQ a b (v507, v508), gPar cI (b 0) (P 0), gPar cI (b 1) (P 1), gPar cI (b 2) (P 2), gPar cI (b 3) (P 3), gPar cI (b 4) (P 4), gPar cI (b 5) (P 5), gPar cI (b 6) (P 6), gPar cI (b 7) (P 7), gPar cI ao tov506]) C dX4_giveLatest_49 inw_X4 tyX4 tyX4_ok nmX4 rfl 0 0 2 rfl rfl (Nat.le_of_ble_eq_true rfl) rfl fl_X4_18 rfl fd_I (congrArg Value.int ev508.symm) rfl rfl (Nat.le_of_ble_eq_true rfl) rfl rfl ?_
      refine g_iconst (v := 1) C dX4_giveLatest_52 rfl rfl ?_
      exact hret 53 (1 : Int32) ((v507, v508), tov506) _ dX4_giveLatest_53 ⟨rfl, rfl⟩ hw
    | 5, _ =>
      refine g_aald (b := b 5 0) (f := fun k => some (b k 0)) C dX4_giveLatest_22 0 1 rfl rfl 1 rfl hi22 (by rw [hj22]) rfl ?_
      refine g_callVv (As := [.ref (b 5 0)]) (gr := [gPas cQ a b (hh_la, hh_sz), gPar cI (b 0) (P 0), gPar cI (b 1) (P 1), gPar cI (b 2) (P 2), gPar cI (b 3) (P 3), gPar cI (b 4) (P 4), gPar cI (b 6) (P 6), gPar cI (b 7) (P 7)]) C (c_X3_become l D cI cQ ao (b 5) to (P 5)  _) dX4_giveLatest_23 ⟨ml_X4_31, kV_X3_become⟩ ⟨Nat.le_of_ble_eq_true rfl, Nat.le_of_ble_eq_true rfl⟩ ⟨Nat.le_refl _, Nat.le_refl _⟩ rfl rfl 0 0 rfl rfl [9, 6, 0, 1, 2, 3, 4, 5, 7, 8] 10 rfl pm_9_6_0_1_2_3_4_5_7_8 rfl rfl rfl (Nat.le_of_ble_eq_true rfl) rfl (fun (u : PT) => [gPas cQ a b (hh_la, hh_sz), gPar cI (b 0) (P 0), gPar cI (b 1) (P 1), gPar cI (b 2) (P 2), gPar cI (b 3) (P 3), gPar cI (b 4) (P 4), gPar cI (b 5) (P 5), gPar cI (b 6) (P 6), gPar cI (b 7) (P 7), gPar cI ao u]) [2, 3, 4, 5, 6, 7, 1, 8, 9, 0] (fun _ => rfl) pm_2_3_4_5_6_7_1_8_9_0 (fun _ => rfl) hw (fun u605 hw => ?_)
      obtain ⟨tov606, rfl⟩ : ∃ z, z = u605 := ⟨_, rfl⟩
      refine g_aload_n C dX4_giveLatest_26 0 rfl rfl ?_
      refine g_aload_n C dX4_giveLatest_27 0 rfl rfl ?_
      refine g_get (v := .int hh_la) (ci := 3) C dX4_giveLatest_28 inw_X4 rfl 0 0 1 rfl rfl (Nat.le_of_ble_eq_true rfl) rfl fl_X4_22 rfl rfl ?_
      refine g_bipush (v := 8) C dX4_giveLatest_31 (by decide) rfl ?_
      refine g_iadd C dX4_giveLatest_33 rfl ?_
      refine g_iconst (v := 1) C dX4_giveLatest_34 rfl rfl ?_
      refine g_isub C dX4_giveLatest_35 rfl ?_
      refine g_bipush (v := 8) C dX4_giveLatest_36 (by decide) rfl ?_
      refine g_irem C dX4_giveLatest_38 (by decide) rfl ?_
      refine nm_el hw (fun v607 ev607 hw => ?_)
      refine g_put (v' := .int v607) (ty := .int) (ci := 3) (gs' := [gPas cQ a b (v607, hh_sz), gPar cI (b 0) (P 0), gPar cI (b 1) (P 1), gPar cI (b 2) (P 2), gPar cI (b 3) (P 3), gPar cI (b 4) (P 4), gPar cI (b 5) (P 5), gPar cI (b 6) (P 6), gPar cI (b 7) (P 7), gPar cI ao tov606]) C dX4_giveLatest_39 inw_X4 tyX4 tyX4_ok nmX4 rfl 0 0 1 rfl rfl (Nat.le_of_ble_eq_true rfl) rfl fl_X4_22 rfl fd_I (congrArg Value.int ev607.symm) rfl rfl (Nat.le_of_ble_eq_true rfl) rfl rfl ?_
      refine g_aload_n C dX4_giveLatest_42 0 rfl rfl ?_
      refine g_dup C dX4_giveLatest_43 rfl rfl ?_
      refine g_get (v := .int hh_sz) (ci := 3) C dX4_giveLatest_44 inw_X4 rfl 0 0 2 rfl rfl (Nat.le_of_ble_eq_true rfl) rfl fl_X4_18 rfl rfl ?_
      refine g_iconst (v := 1) C dX4_giveLatest_47 rfl rfl ?_
      refine g_isub C dX4_giveLatest_48 rfl ?_
      refine nm_el hw (fun v608 ev608 hw => ?_)
      refine g_put (v' := .int v608) (ty := .int) (ci := 3) (gs' := [gPas cQ a b (v607, v608), gPar cI (b 0) (P 0), gPar cI (b 1) (P 1), gPar cI (b 2) (P 2), gPar cI (b 3) (P 3), gPar cI (b 4) (P 4), gPar cI (b 5) (P 5), gPar cI (b 6) (P 6), gPar cI (b 7) (P 7), gPar cI ao tov606]) C dX4_giveLatest_49 inw_X4 tyX4 tyX4_ok nmX4 rfl 0 0 2 rfl rfl (Nat.le_of_ble_eq_true rfl) rfl fl_X4_18 rfl fd_I (congrArg Value.int ev608.symm) rfl rfl (Nat.le_of_ble_eq_true rfl) rfl rfl ?_
      refine g_iconst (v := 1) C dX4_giveLatest_52 rfl rfl ?_
      exact hret 53 (1 : Int32) ((v607, v608), tov606) _ dX4_giveLatest_53 ⟨rfl, rfl⟩ hw
    | 6, _ =>
      refine g_aald (b := b 6 0) (f := fun k => some (b k 0)) C dX4_giveLatest_22 0 1 rfl rfl 1 rfl hi22 (by rw [hj22]) rfl ?_
      refine g_callVv (As := [.ref (b 6 0)]) (gr := [gPas cQ a b (hh_la, hh_sz), gPar cI (b 0) (P 0), gPar cI (b 1) (P 1), gPar cI (b 2) (P 2), gPar cI (b 3) (P 3), gPar cI (b 4) (P 4), gPar cI (b 5) (P 5), gPar cI (b 7) (P 7)]) C (c_X3_become l D cI cQ ao (b 6) to (P 6)  _) dX4_giveLatest_23 ⟨ml_X4_31, kV_X3_become⟩ ⟨Nat.le_of_ble_eq_true rfl, Nat.le_of_ble_eq_true rfl⟩ ⟨Nat.le_refl _, Nat.le_refl _⟩ rfl rfl 0 0 rfl rfl [9, 7, 0, 1, 2, 3, 4, 5, 6, 8] 10 rfl pm_9_7_0_1_2_3_4_5_6_8 rfl rfl rfl (Nat.le_of_ble_eq_true rfl) rfl (fun (u : PT) => [gPas cQ a b (hh_la, hh_sz), gPar cI (b 0) (P 0), gPar cI (b 1) (P 1), gPar cI (b 2) (P 2), gPar cI (b 3) (P 3), gPar cI (b 4) (P 4), gPar cI (b 5) (P 5), gPar cI (b 6) (P 6), gPar cI (b 7) (P 7), gPar cI ao u]) [2, 3, 4, 5, 6, 7, 8, 1, 9, 0] (fun _ => rfl) pm_2_3_4_5_6_7_8_1_9_0 (fun _ => rfl) hw (fun u705 hw => ?_)
      obtain ⟨tov706, rfl⟩ : ∃ z, z = u705 := ⟨_, rfl⟩
      refine g_aload_n C dX4_giveLatest_26 0 rfl rfl ?_
      refine g_aload_n C dX4_giveLatest_27 0 rfl rfl ?_
      refine g_get (v := .int hh_la) (ci := 3) C dX4_giveLatest_28 inw_X4 rfl 0 0 1 rfl rfl (Nat.le_of_ble_eq_true rfl) rfl fl_X4_22 rfl rfl ?_
      refine g_bipush (v := 8) C dX4_giveLatest_31 (by decide) rfl ?_
      refine g_iadd C dX4_giveLatest_33 rfl ?_
      refine g_iconst (v := 1) C dX4_giveLatest_34 rfl rfl ?_
      refine g_isub C dX4_giveLatest_35 rfl ?_
      refine g_bipush (v := 8) C dX4_giveLatest_36 (by decide) rfl ?_
      refine g_irem C dX4_giveLatest_38 (by decide) rfl ?_
      refine nm_el hw (fun v707 ev707 hw => ?_)
      refine g_put (v' := .int v707) (ty := .int) (ci := 3) (gs' := [gPas cQ a b (v707, hh_sz), gPar cI (b 0) (P 0), gPar cI (b 1) (P 1), gPar cI (b 2) (P 2), gPar cI (b 3) (P 3), gPar cI (b 4) (P 4), gPar cI (b 5) (P 5), gPar cI (b 6) (P 6), gPar cI (b 7) (P 7), gPar cI ao tov706]) C dX4_giveLatest_39 inw_X4 tyX4 tyX4_ok nmX4 rfl 0 0 1 rfl rfl (Nat.le_of_ble_eq_true rfl) rfl fl_X4_22 rfl fd_I (congrArg Value.int ev707.symm) rfl rfl (Nat.le_of_ble_eq_true rfl) rfl rfl ?_
      refine g_aload_n C dX4_giveLatest_42 0 rfl rfl ?_
      refine g_dup C dX4_giveLatest_43 rfl rfl ?_
      refine g_get (v := .int hh_sz) (ci := 3) C dX4_giveLatest_44 inw_X4 rfl 0 0 2 rfl rfl (Nat.le_of_ble_eq_true rfl) rfl fl_X4_18 rfl rfl ?_
      refine g_iconst (v := 1) C dX4_giveLatest_47 rfl rfl ?_
      refine g_isub C dX4_giveLatest_48 rfl ?_
      refine nm_el hw (fun v708 ev708 hw => ?_)
      refine g_put (v' := .int v708) (ty := .int) (ci := 3) (gs' := [gPas cQ a b (v707, v708), gPar cI (b 0) (P 0), gPar cI (b 1) (P 1), gPar cI (b 2) (P 2), gPar cI (b 3) (P 3), gPar cI (b 4) (P 4), gPar cI (b 5) (P 5), gPar cI (b 6) (P 6), gPar cI (b 7) (P 7), gPar cI ao tov706]) C dX4_giveLatest_49 inw_X4 tyX4 tyX4_ok nmX4 rfl 0 0 2 rfl rfl (Nat.le_of_ble_eq_true rfl) rfl fl_X4_18 rfl fd_I (congrArg Value.int ev708.symm) rfl rfl (Nat.le_of_ble_eq_true rfl) rfl rfl ?_
      refine g_iconst (v := 1) C dX4_giveLatest_52 rfl rfl ?_
      exact hret 53 (1 : Int32) ((v707, v708), tov706) _ dX4_giveLatest_53 ⟨rfl, rfl⟩ hw
    | 7, _ =>
      refine g_aald (b := b 7 0) (f := fun k => some (b k 0)) C dX4_giveLatest_22 0 1 rfl rfl 1 rfl hi22 (by rw [hj22]) rfl ?_
      refine g_callVv (As := [.ref (b 7 0)]) (gr := [gPas cQ a b (hh_la, hh_sz), gPar cI (b 0) (P 0), gPar cI (b 1) (P 1), gPar cI (b 2) (P 2), gPar cI (b 3) (P 3), gPar cI (b 4) (P 4), gPar cI (b 5) (P 5), gPar cI (b 6) (P 6)]) C (c_X3_become l D cI cQ ao (b 7) to (P 7)  _) dX4_giveLatest_23 ⟨ml_X4_31, kV_X3_become⟩ ⟨Nat.le_of_ble_eq_true rfl, Nat.le_of_ble_eq_true rfl⟩ ⟨Nat.le_refl _, Nat.le_refl _⟩ rfl rfl 0 0 rfl rfl [9, 8, 0, 1, 2, 3, 4, 5, 6, 7] 10 rfl pm_9_8_0_1_2_3_4_5_6_7 rfl rfl rfl (Nat.le_of_ble_eq_true rfl) rfl (fun (u : PT) => [gPas cQ a b (hh_la, hh_sz), gPar cI (b 0) (P 0), gPar cI (b 1) (P 1), gPar cI (b 2) (P 2), gPar cI (b 3) (P 3), gPar cI (b 4) (P 4), gPar cI (b 5) (P 5), gPar cI (b 6) (P 6), gPar cI (b 7) (P 7), gPar cI ao u]) [2, 3, 4, 5, 6, 7, 8, 9, 1, 0] (fun _ => rfl) pm_2_3_4_5_6_7_8_9_1_0 (fun _ => rfl) hw (fun u805 hw => ?_)
      obtain ⟨tov806, rfl⟩ : ∃ z, z = u805 := ⟨_, rfl⟩
      refine g_aload_n C dX4_giveLatest_26 0 rfl rfl ?_
      refine g_aload_n C dX4_giveLatest_27 0 rfl rfl ?_
      refine g_get (v := .int hh_la) (ci := 3) C dX4_giveLatest_28 inw_X4 rfl 0 0 1 rfl rfl (Nat.le_of_ble_eq_true rfl) rfl fl_X4_22 rfl rfl ?_
      refine g_bipush (v := 8) C dX4_giveLatest_31 (by decide) rfl ?_
      refine g_iadd C dX4_giveLatest_33 rfl ?_
      refine g_iconst (v := 1) C dX4_giveLatest_34 rfl rfl ?_
      refine g_isub C dX4_giveLatest_35 rfl ?_
      refine g_bipush (v := 8) C dX4_giveLatest_36 (by decide) rfl ?_
      refine g_irem C dX4_giveLatest_38 (by decide) rfl ?_
      refine nm_el hw (fun v807 ev807 hw => ?_)
      refine g_put (v' := .int v807) (ty := .int) (ci := 3) (gs' := [gPas cQ a b (v807, hh_sz), gPar cI (b 0) (P 0), gPar cI (b 1) (P 1), gPar cI (b 2) (P 2), gPar cI (b 3) (P 3), gPar cI (b 4) (P 4), gPar cI (b 5) (P 5), gPar cI (b 6) (P 6), gPar cI (b 7) (P 7), gPar cI ao tov806]) C dX4_giveLatest_39 inw_X4 tyX4 tyX4_ok nmX4 rfl 0 0 1 rfl rfl (Nat.le_of_ble_eq_true rfl) rfl fl_X4_22 rfl fd_I (congrArg Value.int ev807.symm) rfl rfl (Nat.le_of_ble_eq_true rfl) rfl rfl ?_
      refine g_aload_n C dX4_giveLatest_42 0 rfl rfl ?_
      refine g_dup C dX4_giveLatest_43 rfl rfl ?_
      refine g_get (v := .int hh_sz) (ci := 3) C dX4_giveLatest_44 inw_X4 rfl 0 0 2 rfl rfl (Nat.le_of_ble_eq_true rfl) rfl fl_X4_18 rfl rfl ?_
      refine g_iconst (v := 1) C dX4_giveLatest_47 rfl rfl ?_
      refine g_isub C dX4_giveLatest_48 rfl ?_
      refine nm_el hw (fun v808 ev808 hw => ?_)
      refine g_put (v' := .int v808) (ty := .int) (ci := 3) (gs' := [gPas cQ a b (v807, v808), gPar cI (b 0) (P 0), gPar cI (b 1) (P 1), gPar cI (b 2) (P 2), gPar cI (b 3) (P 3), gPar cI (b 4) (P 4), gPar cI (b 5) (P 5), gPar cI (b 6) (P 6), gPar cI (b 7) (P 7), gPar cI ao tov806]) C dX4_giveLatest_49 inw_X4 tyX4 tyX4_ok nmX4 rfl 0 0 2 rfl rfl (Nat.le_of_ble_eq_true rfl) rfl fl_X4_18 rfl fd_I (congrArg Value.int ev808.symm) rfl rfl (Nat.le_of_ble_eq_true rfl) rfl rfl ?_
      refine g_iconst (v := 1) C dX4_giveLatest_52 rfl rfl ?_
      exact hret 53 (1 : Int32) ((v807, v808), tov806) _ dX4_giveLatest_53 ⟨rfl, rfl⟩ hw
set_option maxRecDepth 100000 in
theorem c_X4_giveLatest (l : Launch) (D : va_G) (cI cQ : ClassId) (a : Nat → Nat) (b : Nat → Nat → Nat) (ao : Nat → Nat) (hh : HT) (P : (Nat → PT)) (to : PT) (post : Int32 → HT × PT → Prop) (sz : Nat) : Met l yX4_giveLatest (wsY yX4_giveLatest cX4_giveLatest 2 (some .boolean)) (rmL 2 0 0 61) (xP D (tyL cI cQ) [.ref (a 0), .ref (ao 0)] [gPas cQ a b hh, gPar cI (b 0) (P 0), gPar cI (b 1) (P 1), gPar cI (b 2) (P 2), gPar cI (b 3) (P 3), gPar cI (b 4) (P 4), gPar cI (b 5) (P 5), gPar cI (b 6) (P 6), gPar cI (b 7) (P 7), gPar cI ao to] sz (p_X4_giveLatest hh P to post)) (xQi D (tyL cI cQ) post (fun (u : HT × PT) => [gPas cQ a b u.1, gPar cI (b 0) (P 0), gPar cI (b 1) (P 1), gPar cI (b 2) (P 2), gPar cI (b 3) (P 3), gPar cI (b 4) (P 4), gPar cI (b 5) (P 5), gPar cI (b 6) (P 6), gPar cI (b 7) (P 7), gPar cI ao u.2]) (va_A [gPas cQ a b hh, gPar cI (b 0) (P 0), gPar cI (b 1) (P 1), gPar cI (b 2) (P 2), gPar cI (b 3) (P 3), gPar cI (b 4) (P 4), gPar cI (b 5) (P 5), gPar cI (b 6) (P 6), gPar cI (b 7) (P 7), gPar cI ao to].flatten sz)) 0 0 (va_A [gPas cQ a b hh, gPar cI (b 0) (P 0), gPar cI (b 1) (P 1), gPar cI (b 2) (P 2), gPar cI (b 3) (P 3), gPar cI (b 4) (P 4), gPar cI (b 5) (P 5), gPar cI (b 6) (P 6), gPar cI (b 7) (P 7), gPar cI ao to].flatten sz) :=
  Met_z pn_X4 (Nat.le_of_ble_eq_true rfl) (fun p e s mi below meth co A Q _ C hret hw => w_X4_giveLatest a b ao hh P to C hret hw)
theorem kV_X4_giveLatest : Cond.instanceMethod yX4_giveLatest ∈ gTbl ∧ Cond.selects yX4_giveLatest.cls yX4_giveLatest yX4_giveLatest ∈ gTbl ∧ Cond.initialized yX4_giveLatest.cls ∈ gTbl ∧ Cond.code yX4_giveLatest cX4_giveLatest 2 (some .boolean) ∈ gTbl ∧ (yX4_giveLatest.cls ≠ "java/lang/invoke/MethodHandle" ∧ yX4_giveLatest.cls ≠ "java/lang/invoke/VarHandle" ∧ (parseMethodDescriptor yX4_giveLatest.desc).map (fun d => d.parameters.length) = some 1) := ⟨im_X4_giveLatest, sl_X4_giveLatest, in_X4, cd_X4_giveLatest, (by decide +kernel)⟩
