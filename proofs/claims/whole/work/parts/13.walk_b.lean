theorem pmb_1_9_0_2_3_4_5_6_7_8 : ([1, 9, 0, 2, 3, 4, 5, 6, 7, 8] : List Nat).isPerm (List.range 10) = true := by decide +kernel
theorem pmb_2_0_3_4_5_6_7_8_9_1 : ([2, 0, 3, 4, 5, 6, 7, 8, 9, 1] : List Nat).isPerm (List.range 10) = true := by decide +kernel
theorem pmb_2_9_0_1_3_4_5_6_7_8 : ([2, 9, 0, 1, 3, 4, 5, 6, 7, 8] : List Nat).isPerm (List.range 10) = true := by decide +kernel
theorem pmb_2_3_0_4_5_6_7_8_9_1 : ([2, 3, 0, 4, 5, 6, 7, 8, 9, 1] : List Nat).isPerm (List.range 10) = true := by decide +kernel
theorem pmb_3_9_0_1_2_4_5_6_7_8 : ([3, 9, 0, 1, 2, 4, 5, 6, 7, 8] : List Nat).isPerm (List.range 10) = true := by decide +kernel
theorem pmb_2_3_4_0_5_6_7_8_9_1 : ([2, 3, 4, 0, 5, 6, 7, 8, 9, 1] : List Nat).isPerm (List.range 10) = true := by decide +kernel
theorem pmb_4_9_0_1_2_3_5_6_7_8 : ([4, 9, 0, 1, 2, 3, 5, 6, 7, 8] : List Nat).isPerm (List.range 10) = true := by decide +kernel
theorem pmb_2_3_4_5_0_6_7_8_9_1 : ([2, 3, 4, 5, 0, 6, 7, 8, 9, 1] : List Nat).isPerm (List.range 10) = true := by decide +kernel
theorem pmb_5_9_0_1_2_3_4_6_7_8 : ([5, 9, 0, 1, 2, 3, 4, 6, 7, 8] : List Nat).isPerm (List.range 10) = true := by decide +kernel
theorem pmb_2_3_4_5_6_0_7_8_9_1 : ([2, 3, 4, 5, 6, 0, 7, 8, 9, 1] : List Nat).isPerm (List.range 10) = true := by decide +kernel
theorem pmb_6_9_0_1_2_3_4_5_7_8 : ([6, 9, 0, 1, 2, 3, 4, 5, 7, 8] : List Nat).isPerm (List.range 10) = true := by decide +kernel
theorem pmb_2_3_4_5_6_7_0_8_9_1 : ([2, 3, 4, 5, 6, 7, 0, 8, 9, 1] : List Nat).isPerm (List.range 10) = true := by decide +kernel
theorem pmb_7_9_0_1_2_3_4_5_6_8 : ([7, 9, 0, 1, 2, 3, 4, 5, 6, 8] : List Nat).isPerm (List.range 10) = true := by decide +kernel
theorem pmb_2_3_4_5_6_7_8_0_9_1 : ([2, 3, 4, 5, 6, 7, 8, 0, 9, 1] : List Nat).isPerm (List.range 10) = true := by decide +kernel
theorem pmb_8_9_0_1_2_3_4_5_6_7 : ([8, 9, 0, 1, 2, 3, 4, 5, 6, 7] : List Nat).isPerm (List.range 10) = true := by decide +kernel
theorem pmb_2_3_4_5_6_7_8_9_0_1 : ([2, 3, 4, 5, 6, 7, 8, 9, 0, 1] : List Nat).isPerm (List.range 10) = true := by decide +kernel
theorem pmb_9_1_0_2_3_4_5_6_7_8 : ([9, 1, 0, 2, 3, 4, 5, 6, 7, 8] : List Nat).isPerm (List.range 10) = true := by decide +kernel
theorem pmb_2_1_3_4_5_6_7_8_9_0 : ([2, 1, 3, 4, 5, 6, 7, 8, 9, 0] : List Nat).isPerm (List.range 10) = true := by decide +kernel
theorem pmb_9_2_0_1_3_4_5_6_7_8 : ([9, 2, 0, 1, 3, 4, 5, 6, 7, 8] : List Nat).isPerm (List.range 10) = true := by decide +kernel
theorem pmb_2_3_1_4_5_6_7_8_9_0 : ([2, 3, 1, 4, 5, 6, 7, 8, 9, 0] : List Nat).isPerm (List.range 10) = true := by decide +kernel
theorem pmb_9_3_0_1_2_4_5_6_7_8 : ([9, 3, 0, 1, 2, 4, 5, 6, 7, 8] : List Nat).isPerm (List.range 10) = true := by decide +kernel
theorem pmb_2_3_4_1_5_6_7_8_9_0 : ([2, 3, 4, 1, 5, 6, 7, 8, 9, 0] : List Nat).isPerm (List.range 10) = true := by decide +kernel
theorem pmb_9_4_0_1_2_3_5_6_7_8 : ([9, 4, 0, 1, 2, 3, 5, 6, 7, 8] : List Nat).isPerm (List.range 10) = true := by decide +kernel
theorem pmb_2_3_4_5_1_6_7_8_9_0 : ([2, 3, 4, 5, 1, 6, 7, 8, 9, 0] : List Nat).isPerm (List.range 10) = true := by decide +kernel
theorem pmb_9_5_0_1_2_3_4_6_7_8 : ([9, 5, 0, 1, 2, 3, 4, 6, 7, 8] : List Nat).isPerm (List.range 10) = true := by decide +kernel
theorem pmb_2_3_4_5_6_1_7_8_9_0 : ([2, 3, 4, 5, 6, 1, 7, 8, 9, 0] : List Nat).isPerm (List.range 10) = true := by decide +kernel
theorem pmb_9_6_0_1_2_3_4_5_7_8 : ([9, 6, 0, 1, 2, 3, 4, 5, 7, 8] : List Nat).isPerm (List.range 10) = true := by decide +kernel
theorem pmb_2_3_4_5_6_7_1_8_9_0 : ([2, 3, 4, 5, 6, 7, 1, 8, 9, 0] : List Nat).isPerm (List.range 10) = true := by decide +kernel
theorem pmb_9_7_0_1_2_3_4_5_6_8 : ([9, 7, 0, 1, 2, 3, 4, 5, 6, 8] : List Nat).isPerm (List.range 10) = true := by decide +kernel
theorem pmb_2_3_4_5_6_7_8_1_9_0 : ([2, 3, 4, 5, 6, 7, 8, 1, 9, 0] : List Nat).isPerm (List.range 10) = true := by decide +kernel
theorem pmb_9_8_0_1_2_3_4_5_6_7 : ([9, 8, 0, 1, 2, 3, 4, 5, 6, 7] : List Nat).isPerm (List.range 10) = true := by decide +kernel
theorem pmb_2_3_4_5_6_7_8_9_1_0 : ([2, 3, 4, 5, 6, 7, 8, 9, 1, 0] : List Nat).isPerm (List.range 10) = true := by decide +kernel
theorem pmb_1_0_2 : ([1, 0, 2] : List Nat).isPerm (List.range 3) = true := by decide +kernel
theorem pmb_0_2_1 : ([0, 2, 1] : List Nat).isPerm (List.range 3) = true := by decide +kernel
theorem pmb_0_1_2 : ([0, 1, 2] : List Nat).isPerm (List.range 3) = true := by decide +kernel
theorem pmb_2_1_0 : ([2, 1, 0] : List Nat).isPerm (List.range 3) = true := by decide +kernel
theorem pmb_2_0_1 : ([2, 0, 1] : List Nat).isPerm (List.range 3) = true := by decide +kernel
theorem pmb_1_2_0 : ([1, 2, 0] : List Nat).isPerm (List.range 3) = true := by decide +kernel
theorem pmb_3_0_1_2_4 : ([3, 0, 1, 2, 4] : List Nat).isPerm (List.range 5) = true := by decide +kernel
theorem pmb_1_2_3_0_4 : ([1, 2, 3, 0, 4] : List Nat).isPerm (List.range 5) = true := by decide +kernel
theorem pmb_1_2_0_3_4 : ([1, 2, 0, 3, 4] : List Nat).isPerm (List.range 5) = true := by decide +kernel
theorem pmb_2_0_1_3_4 : ([2, 0, 1, 3, 4] : List Nat).isPerm (List.range 5) = true := by decide +kernel
theorem pmb_0_2_4_1_3 : ([0, 2, 4, 1, 3] : List Nat).isPerm (List.range 5) = true := by decide +kernel
theorem pmb_0_3_1_4_2 : ([0, 3, 1, 4, 2] : List Nat).isPerm (List.range 5) = true := by decide +kernel
theorem pmb_4_0_1_2_3 : ([4, 0, 1, 2, 3] : List Nat).isPerm (List.range 5) = true := by decide +kernel
theorem pmb_1_2_3_4_0 : ([1, 2, 3, 4, 0] : List Nat).isPerm (List.range 5) = true := by decide +kernel
theorem pmb_0_1_2_3_4 : ([0, 1, 2, 3, 4] : List Nat).isPerm (List.range 5) = true := by decide +kernel
theorem pmb_0_3_1_2 : ([0, 3, 1, 2] : List Nat).isPerm (List.range 4) = true := by decide +kernel
theorem pmb_0_2_3_1 : ([0, 2, 3, 1] : List Nat).isPerm (List.range 4) = true := by decide +kernel
theorem pmb_1_0_2_3 : ([1, 0, 2, 3] : List Nat).isPerm (List.range 4) = true := by decide +kernel
theorem pmb_2_0_1_3 : ([2, 0, 1, 3] : List Nat).isPerm (List.range 4) = true := by decide +kernel
theorem pmb_1_2_0_3 : ([1, 2, 0, 3] : List Nat).isPerm (List.range 4) = true := by decide +kernel
theorem pmb_0_1_2_3 : ([0, 1, 2, 3] : List Nat).isPerm (List.range 4) = true := by decide +kernel
theorem pmb_0_11_1_2_3_4_5_6_7_8_9_10 : ([0, 11, 1, 2, 3, 4, 5, 6, 7, 8, 9, 10] : List Nat).isPerm (List.range 12) = true := by decide +kernel
theorem pmb_0_2_3_4_5_6_7_8_9_10_11_1 : ([0, 2, 3, 4, 5, 6, 7, 8, 9, 10, 11, 1] : List Nat).isPerm (List.range 12) = true := by decide +kernel
theorem pmb_1_0_2_3_4_5_6_7_8_9_10_11 : ([1, 0, 2, 3, 4, 5, 6, 7, 8, 9, 10, 11] : List Nat).isPerm (List.range 12) = true := by decide +kernel
theorem pmb_2_3_4_5_6_7_8_9_10_1_0_11 : ([2, 3, 4, 5, 6, 7, 8, 9, 10, 1, 0, 11] : List Nat).isPerm (List.range 12) = true := by decide +kernel
theorem pmb_10_9_0_1_2_3_4_5_6_7_8_11 : ([10, 9, 0, 1, 2, 3, 4, 5, 6, 7, 8, 11] : List Nat).isPerm (List.range 12) = true := by decide +kernel
theorem pmb_0_1_2_3_4_5_6_7_8_9_10_11 : ([0, 1, 2, 3, 4, 5, 6, 7, 8, 9, 10, 11] : List Nat).isPerm (List.range 12) = true := by decide +kernel
theorem pmb_2_0_1_3_4_5_6_7_8_9_10_11 : ([2, 0, 1, 3, 4, 5, 6, 7, 8, 9, 10, 11] : List Nat).isPerm (List.range 12) = true := by decide +kernel
theorem pmb_1_2_0_3_4_5_6_7_8_9_10_11 : ([1, 2, 0, 3, 4, 5, 6, 7, 8, 9, 10, 11] : List Nat).isPerm (List.range 12) = true := by decide +kernel
theorem pmb_1_0 : ([1, 0] : List Nat).isPerm (List.range 2) = true := by decide +kernel
theorem pmb_0_2_1_3 : ([0, 2, 1, 3] : List Nat).isPerm (List.range 4) = true := by decide +kernel
theorem pmb_0_4_1_2_3 : ([0, 4, 1, 2, 3] : List Nat).isPerm (List.range 5) = true := by decide +kernel
theorem pmb_0_2_3_4_1 : ([0, 2, 3, 4, 1] : List Nat).isPerm (List.range 5) = true := by decide +kernel
theorem pmb_0_2_3_1_4 : ([0, 2, 3, 1, 4] : List Nat).isPerm (List.range 5) = true := by decide +kernel
theorem pmb_0_3_1_2_4 : ([0, 3, 1, 2, 4] : List Nat).isPerm (List.range 5) = true := by decide +kernel
theorem pmb_1_0_2_3_4 : ([1, 0, 2, 3, 4] : List Nat).isPerm (List.range 5) = true := by decide +kernel
theorem pmb_0_1 : ([0, 1] : List Nat).isPerm (List.range 2) = true := by decide +kernel
theorem pmb_ : ([] : List Nat).isPerm (List.range 0) = true := by decide +kernel
theorem pmb_1_0_2_3_4_5 : ([1, 0, 2, 3, 4, 5] : List Nat).isPerm (List.range 6) = true := by decide +kernel
theorem pmb_3_0_1_2_4_5 : ([3, 0, 1, 2, 4, 5] : List Nat).isPerm (List.range 6) = true := by decide +kernel
theorem pmb_1_2_3_0_4_5 : ([1, 2, 3, 0, 4, 5] : List Nat).isPerm (List.range 6) = true := by decide +kernel
theorem pmb_4_0_1_2_3_5 : ([4, 0, 1, 2, 3, 5] : List Nat).isPerm (List.range 6) = true := by decide +kernel
theorem pmb_1_2_3_4_0_5 : ([1, 2, 3, 4, 0, 5] : List Nat).isPerm (List.range 6) = true := by decide +kernel
theorem pmb_2_0_1_3_4_5 : ([2, 0, 1, 3, 4, 5] : List Nat).isPerm (List.range 6) = true := by decide +kernel
theorem pmb_1_2_0_3_4_5 : ([1, 2, 0, 3, 4, 5] : List Nat).isPerm (List.range 6) = true := by decide +kernel
theorem pmb_0_5_1_2_3_4 : ([0, 5, 1, 2, 3, 4] : List Nat).isPerm (List.range 6) = true := by decide +kernel
theorem pmb_0_2_3_4_5_1 : ([0, 2, 3, 4, 5, 1] : List Nat).isPerm (List.range 6) = true := by decide +kernel
set_option maxRecDepth 100000 in
def p_X4_size (hh : HT) (post : Int32 → Prop) : Prop := (fun (hh_la : Int32) (hh_sz : Int32) => post hh_sz) hh.1 hh.2
set_option maxHeartbeats 4000000 in
set_option maxRecDepth 100000 in
theorem w_X4_size {p : Program} {l : Launch} {e : Env} {s : State} {mi : MethodId} {args : Array Value} {below : List Frame} {meth : Method} {co : Code} {D : va_G} {cI cQ : ClassId} {A : Nat → Prop} {Q : State → Prop} (a : Nat → Nat) (b : Nat → Nat → Nat) (hh : HT) {post : Int32 → Prop} (C : xC p s mi args co cX4_size RX4 1 D (tyL cI cQ) A) (hret : ∀ (pc : Nat) (r : Int32) (u : Unit) (lv : List (Nat × Value)), decode cX4_size pc = .ok (.ireturn, 1) → post r → xG p l e (rmL 0 0 0 0) s mi args below meth co D A 1 Q 0 0 pc [.int r] [gPas cQ a b hh] lv) (hw : p_X4_size hh post) : xG p l e (rmL 0 0 0 0) s mi args below meth co D A 1 Q 0 0 0 [] [gPas cQ a b hh] [(0, .ref (a 0))] := by
  unfold p_X4_size at hw
  obtain ⟨hh_la, hh_sz⟩ := hh
  try dsimp only at hw
  show xG p l e (rmL 0 0 0 0) s mi args below meth co D A 1 Q 0 0 0 [] [gPas cQ a b (hh_la, hh_sz)] [(0, .ref (a 0))]
  refine g_aload_n C dX4_size_0 0 rfl rfl ?_
  refine g_get (v := .int hh_sz) (ci := 3) C dX4_size_1 inw_X4 rfl 0 0 2 rfl rfl (Nat.le_of_ble_eq_true rfl) rfl fl_X4_18 rfl rfl ?_
  exact hret 4 hh_sz () _ dX4_size_4 hw
set_option maxRecDepth 100000 in
theorem c_X4_size (l : Launch) (D : va_G) (cI cQ : ClassId) (a : Nat → Nat) (b : Nat → Nat → Nat) (hh : HT) (post : Int32 → Prop) (sz : Nat) : Met l yX4_size (wsY yX4_size cX4_size 1 (some .int)) (rmL 0 0 0 0) (xP D (tyL cI cQ) [.ref (a 0)] [gPas cQ a b hh] sz (p_X4_size hh post)) (xQi D (tyL cI cQ) (fun (r : Int32) (_ : Unit) => post r) (fun (u : Unit) => [gPas cQ a b hh]) (va_A [gPas cQ a b hh].flatten sz)) 0 0 (va_A [gPas cQ a b hh].flatten sz) :=
  Met_i pn_X4 (Nat.le_of_ble_eq_true rfl) (fun p e s mi below meth co A Q _ C hret hw => w_X4_size a b hh C hret hw)
theorem kV_X4_size : Cond.instanceMethod yX4_size ∈ gTbl ∧ Cond.selects yX4_size.cls yX4_size yX4_size ∈ gTbl ∧ Cond.initialized yX4_size.cls ∈ gTbl ∧ Cond.code yX4_size cX4_size 1 (some .int) ∈ gTbl ∧ (yX4_size.cls ≠ "java/lang/invoke/MethodHandle" ∧ yX4_size.cls ≠ "java/lang/invoke/VarHandle" ∧ (parseMethodDescriptor yX4_size.desc).map (fun d => d.parameters.length) = some 0) := ⟨im_X4_size, sl_X4_size, in_X4, cd_X4_size, (by decide +kernel)⟩
set_option maxRecDepth 100000 in
def p_X4_forget (hh : HT) (post : HT → Prop) : Prop := (fun (hh_la : Int32) (hh_sz : Int32) => post (hh_la, (0 : Int32))) hh.1 hh.2
set_option maxHeartbeats 4000000 in
set_option maxRecDepth 100000 in
theorem w_X4_forget {p : Program} {l : Launch} {e : Env} {s : State} {mi : MethodId} {args : Array Value} {below : List Frame} {meth : Method} {co : Code} {D : va_G} {cI cQ : ClassId} {A : Nat → Prop} {Q : State → Prop} (a : Nat → Nat) (b : Nat → Nat → Nat) (hh : HT) {post : HT → Prop} (C : xC p s mi args co cX4_forget RX4 1 D (tyL cI cQ) A) (hret : ∀ (pc : Nat) (u : HT) (lv : List (Nat × Value)), decode cX4_forget pc = .ok (.return_, 1) → post u → xG p l e (rmL 0 0 0 0) s mi args below meth co D A 1 Q 0 0 pc [] [gPas cQ a b u] lv) (hw : p_X4_forget hh post) : xG p l e (rmL 0 0 0 0) s mi args below meth co D A 1 Q 0 0 0 [] [gPas cQ a b hh] [(0, .ref (a 0))] := by
  unfold p_X4_forget at hw
  obtain ⟨hh_la, hh_sz⟩ := hh
  try dsimp only at hw
  show xG p l e (rmL 0 0 0 0) s mi args below meth co D A 1 Q 0 0 0 [] [gPas cQ a b (hh_la, hh_sz)] [(0, .ref (a 0))]
  refine g_aload_n C dX4_forget_0 0 rfl rfl ?_
  refine g_iconst (v := 0) C dX4_forget_1 rfl rfl ?_
  refine g_put (v' := .int (0 : Int32)) (ty := .int) (ci := 3) (gs' := [gPas cQ a b (hh_la, (0 : Int32))]) C dX4_forget_2 inw_X4 tyX4 tyX4_ok nmX4 rfl 0 0 2 rfl rfl (Nat.le_of_ble_eq_true rfl) rfl fl_X4_18 rfl fd_I rfl rfl rfl (Nat.le_of_ble_eq_true rfl) rfl rfl ?_
  exact hret 5 (hh_la, (0 : Int32)) _ dX4_forget_5 hw
set_option maxRecDepth 100000 in
theorem c_X4_forget (l : Launch) (D : va_G) (cI cQ : ClassId) (a : Nat → Nat) (b : Nat → Nat → Nat) (hh : HT) (post : HT → Prop) (sz : Nat) : Met l yX4_forget (wsY yX4_forget cX4_forget 1 none) (rmL 0 0 0 0) (xP D (tyL cI cQ) [.ref (a 0)] [gPas cQ a b hh] sz (p_X4_forget hh post)) (xQv D (tyL cI cQ) post (fun (u : HT) => [gPas cQ a b u]) (va_A [gPas cQ a b hh].flatten sz)) 0 0 (va_A [gPas cQ a b hh].flatten sz) :=
  Met_v pn_X4 (Nat.le_of_ble_eq_true rfl) (fun p e s mi below meth co A Q _ C hret hw => w_X4_forget a b hh C hret hw)
theorem kV_X4_forget : Cond.instanceMethod yX4_forget ∈ gTbl ∧ Cond.selects yX4_forget.cls yX4_forget yX4_forget ∈ gTbl ∧ Cond.initialized yX4_forget.cls ∈ gTbl ∧ Cond.code yX4_forget cX4_forget 1 none ∈ gTbl ∧ (yX4_forget.cls ≠ "java/lang/invoke/MethodHandle" ∧ yX4_forget.cls ≠ "java/lang/invoke/VarHandle" ∧ (parseMethodDescriptor yX4_forget.desc).map (fun d => d.parameters.length) = some 0) := ⟨im_X4_forget, sl_X4_forget, in_X4, cd_X4_forget, (by decide +kernel)⟩
set_option maxRecDepth 100000 in
def p_X4_keep (hh : HT) (P : (Nat → PT)) (to : PT) (post : HT × (Nat → PT) → Prop) : Prop := (fun (hh_la : Int32) (hh_sz : Int32) => nm (((hh_la + (1 : Int32)) - (hh_la + (1 : Int32)) / (8 : Int32) * (8 : Int32)) : Int32) (fun (v1 : Int32) => nm ((if (hh_sz + (1 : Int32)) < (8 : Int32) then (hh_sz + (1 : Int32)) else (8 : Int32)) : Int32) (fun (v2 : Int32) => (vp_in v1 8 ∧ p_X3_become (P (v1).toNatClampNeg) to (fun (u3 : PT) => (fun (Pu4 : PT) => post ((v1, v2), (va_up P (v1).toNatClampNeg Pu4))) u3))))) hh.1 hh.2
set_option maxHeartbeats 4000000 in
set_option maxRecDepth 100000 in
theorem w_X4_keep {p : Program} {l : Launch} {e : Env} {s : State} {mi : MethodId} {args : Array Value} {below : List Frame} {meth : Method} {co : Code} {D : va_G} {cI cQ : ClassId} {A : Nat → Prop} {Q : State → Prop} (a : Nat → Nat) (b : Nat → Nat → Nat) (ao : Nat → Nat) (hh : HT) (P : (Nat → PT)) (to : PT) {post : HT × (Nat → PT) → Prop} (C : xC p s mi args co cX4_keep RX4 3 D (tyL cI cQ) A) (hret : ∀ (pc : Nat) (u : HT × (Nat → PT)) (lv : List (Nat × Value)), decode cX4_keep pc = .ok (.return_, 1) → post u → xG p l e (rmL 2 0 0 61) s mi args below meth co D A 3 Q 0 0 pc [] [gPas cQ a b u.1, gPar cI (b 0) (u.2 0), gPar cI (b 1) (u.2 1), gPar cI (b 2) (u.2 2), gPar cI (b 3) (u.2 3), gPar cI (b 4) (u.2 4), gPar cI (b 5) (u.2 5), gPar cI (b 6) (u.2 6), gPar cI (b 7) (u.2 7), gPar cI ao to] lv) (hw : p_X4_keep hh P to post) : xG p l e (rmL 2 0 0 61) s mi args below meth co D A 3 Q 0 0 0 [] [gPas cQ a b hh, gPar cI (b 0) (P 0), gPar cI (b 1) (P 1), gPar cI (b 2) (P 2), gPar cI (b 3) (P 3), gPar cI (b 4) (P 4), gPar cI (b 5) (P 5), gPar cI (b 6) (P 6), gPar cI (b 7) (P 7), gPar cI ao to] [(0, .ref (a 0)), (1, .ref (ao 0))] := by
  unfold p_X4_keep at hw
  obtain ⟨hh_la, hh_sz⟩ := hh
  try dsimp only at hw
  show xG p l e (rmL 2 0 0 61) s mi args below meth co D A 3 Q 0 0 0 [] [gPas cQ a b (hh_la, hh_sz), gPar cI (b 0) (P 0), gPar cI (b 1) (P 1), gPar cI (b 2) (P 2), gPar cI (b 3) (P 3), gPar cI (b 4) (P 4), gPar cI (b 5) (P 5), gPar cI (b 6) (P 6), gPar cI (b 7) (P 7), gPar cI ao to] [(0, .ref (a 0)), (1, .ref (ao 0))]
  refine g_aload_n C dX4_keep_0 0 rfl rfl ?_
  refine g_aload_n C dX4_keep_1 0 rfl rfl ?_
  refine g_get (v := .int hh_la) (ci := 3) C dX4_keep_2 inw_X4 rfl 0 0 1 rfl rfl (Nat.le_of_ble_eq_true rfl) rfl fl_X4_22 rfl rfl ?_
  refine g_iconst (v := 1) C dX4_keep_5 rfl rfl ?_
  refine g_iadd C dX4_keep_6 rfl ?_
  refine g_bipush (v := 8) C dX4_keep_7 (by decide) rfl ?_
  refine g_irem C dX4_keep_9 (by decide) rfl ?_
  refine nm_el hw (fun v1 ev1 hw => ?_)
  refine g_put (v' := .int v1) (ty := .int) (ci := 3) (gs' := [gPas cQ a b (v1, hh_sz), gPar cI (b 0) (P 0), gPar cI (b 1) (P 1), gPar cI (b 2) (P 2), gPar cI (b 3) (P 3), gPar cI (b 4) (P 4), gPar cI (b 5) (P 5), gPar cI (b 6) (P 6), gPar cI (b 7) (P 7), gPar cI ao to]) C dX4_keep_10 inw_X4 tyX4 tyX4_ok nmX4 rfl 0 0 1 rfl rfl (Nat.le_of_ble_eq_true rfl) rfl fl_X4_22 rfl fd_I (congrArg Value.int ev1.symm) rfl rfl (Nat.le_of_ble_eq_true rfl) rfl rfl ?_
  refine g_aload_n C dX4_keep_13 0 rfl rfl ?_
  refine g_bipush (v := 8) C dX4_keep_14 (by decide) rfl ?_
  refine g_aload_n C dX4_keep_16 0 rfl rfl ?_
  refine g_get (v := .int hh_sz) (ci := 3) C dX4_keep_17 inw_X4 rfl 0 0 2 rfl rfl (Nat.le_of_ble_eq_true rfl) rfl fl_X4_18 rfl rfl ?_
  refine g_iconst (v := 1) C dX4_keep_20 rfl rfl ?_
  refine g_iadd C dX4_keep_21 rfl ?_
  refine g_mmin C dX4_keep_22 ml_X4_25 sm_J9_min_7cf53 in_J9 cd_min ⟨Nat.le_of_ble_eq_true rfl, Nat.le_of_ble_eq_true rfl⟩ ⟨Nat.le_of_ble_eq_true rfl, Nat.le_of_ble_eq_true rfl⟩ rfl ?_
  refine nm_el hw (fun v2 ev2 hw => ?_)
  refine g_put (v' := .int v2) (ty := .int) (ci := 3) (gs' := [gPas cQ a b (v1, v2), gPar cI (b 0) (P 0), gPar cI (b 1) (P 1), gPar cI (b 2) (P 2), gPar cI (b 3) (P 3), gPar cI (b 4) (P 4), gPar cI (b 5) (P 5), gPar cI (b 6) (P 6), gPar cI (b 7) (P 7), gPar cI ao to]) C dX4_keep_25 inw_X4 tyX4 tyX4_ok nmX4 rfl 0 0 2 rfl rfl (Nat.le_of_ble_eq_true rfl) rfl fl_X4_18 rfl fd_I (congrArg Value.int ev2.symm) rfl rfl (Nat.le_of_ble_eq_true rfl) rfl rfl ?_
  refine g_aload_n C dX4_keep_28 0 rfl rfl ?_
  refine g_get (v := .ref (a 1)) (ci := 3) C dX4_keep_29 inw_X4 rfl 0 0 0 rfl rfl (Nat.le_of_ble_eq_true rfl) rfl fl_X4_11 rfl rfl ?_
  refine g_aload_n C dX4_keep_32 0 rfl rfl ?_
  refine g_get (v := .int v1) (ci := 3) C dX4_keep_33 inw_X4 rfl 0 0 1 rfl rfl (Nat.le_of_ble_eq_true rfl) rfl fl_X4_22 rfl rfl ?_
  have hi36 := hw.1
  replace hw := hw.2
  obtain ⟨j36, hj36, hjn36⟩ : ∃ j, (v1).toNatClampNeg = j ∧ j < 8 := ⟨_, rfl, Nat.not_le.mp fun q => hi36 (Or.inr q)⟩
  rw [hj36] at hw
  match j36, hjn36 with
  | 0, _ =>
    refine g_aald (b := b 0 0) (f := fun k => some (b k 0)) C dX4_keep_36 0 1 rfl rfl 1 rfl hi36 (by rw [hj36]) rfl ?_
    refine g_astore_n C dX4_keep_37 (Nat.le_of_ble_eq_true rfl) (lv' := [(2, .ref (b 0 0)), (0, .ref (a 0)), (1, .ref (ao 0))]) rfl rfl ?_
    refine g_aload_n C dX4_keep_38 0 rfl rfl ?_
    refine g_ifnull C dX4_keep_39 rfl ?_
    refine g_aload_n C dX4_keep_42 0 rfl rfl ?_
    refine g_aload_n C dX4_keep_43 2 rfl rfl ?_
    refine g_callVv (As := [.ref (ao 0)]) (gr := [gPas cQ a b (v1, v2), gPar cI (b 1) (P 1), gPar cI (b 2) (P 2), gPar cI (b 3) (P 3), gPar cI (b 4) (P 4), gPar cI (b 5) (P 5), gPar cI (b 6) (P 6), gPar cI (b 7) (P 7)]) C (c_X3_become l D cI cQ (b 0) ao (P 0) to  _) dX4_keep_44 ⟨ml_X4_31, kV_X3_become⟩ ⟨Nat.le_of_ble_eq_true rfl, Nat.le_of_ble_eq_true rfl⟩ ⟨Nat.le_refl _, Nat.le_refl _⟩ rfl rfl 0 0 rfl rfl [1, 9, 0, 2, 3, 4, 5, 6, 7, 8] 10 rfl pmb_1_9_0_2_3_4_5_6_7_8 rfl rfl rfl (Nat.le_of_ble_eq_true rfl) rfl (fun (u : PT) => [gPas cQ a b (v1, v2), gPar cI (b 0) ((va_up P 0 u) 0), gPar cI (b 1) ((va_up P 0 u) 1), gPar cI (b 2) ((va_up P 0 u) 2), gPar cI (b 3) ((va_up P 0 u) 3), gPar cI (b 4) ((va_up P 0 u) 4), gPar cI (b 5) ((va_up P 0 u) 5), gPar cI (b 6) ((va_up P 0 u) 6), gPar cI (b 7) ((va_up P 0 u) 7), gPar cI ao to]) [2, 0, 3, 4, 5, 6, 7, 8, 9, 1] 10 (fun _ => rfl) pmb_2_0_3_4_5_6_7_8_9_1 (fun _ => rfl) hw (fun u105 hw => ?_)
    obtain ⟨Pu106, rfl⟩ : ∃ z, z = u105 := ⟨_, rfl⟩
    exact hret 47 ((v1, v2), (va_up P 0 Pu106)) _ dX4_keep_47 hw
  | 1, _ =>
    refine g_aald (b := b 1 0) (f := fun k => some (b k 0)) C dX4_keep_36 0 1 rfl rfl 1 rfl hi36 (by rw [hj36]) rfl ?_
    refine g_astore_n C dX4_keep_37 (Nat.le_of_ble_eq_true rfl) (lv' := [(2, .ref (b 1 0)), (0, .ref (a 0)), (1, .ref (ao 0))]) rfl rfl ?_
    refine g_aload_n C dX4_keep_38 0 rfl rfl ?_
    refine g_ifnull C dX4_keep_39 rfl ?_
    refine g_aload_n C dX4_keep_42 0 rfl rfl ?_
    refine g_aload_n C dX4_keep_43 2 rfl rfl ?_
    refine g_callVv (As := [.ref (ao 0)]) (gr := [gPas cQ a b (v1, v2), gPar cI (b 0) (P 0), gPar cI (b 2) (P 2), gPar cI (b 3) (P 3), gPar cI (b 4) (P 4), gPar cI (b 5) (P 5), gPar cI (b 6) (P 6), gPar cI (b 7) (P 7)]) C (c_X3_become l D cI cQ (b 1) ao (P 1) to  _) dX4_keep_44 ⟨ml_X4_31, kV_X3_become⟩ ⟨Nat.le_of_ble_eq_true rfl, Nat.le_of_ble_eq_true rfl⟩ ⟨Nat.le_refl _, Nat.le_refl _⟩ rfl rfl 0 0 rfl rfl [2, 9, 0, 1, 3, 4, 5, 6, 7, 8] 10 rfl pmb_2_9_0_1_3_4_5_6_7_8 rfl rfl rfl (Nat.le_of_ble_eq_true rfl) rfl (fun (u : PT) => [gPas cQ a b (v1, v2), gPar cI (b 0) ((va_up P 1 u) 0), gPar cI (b 1) ((va_up P 1 u) 1), gPar cI (b 2) ((va_up P 1 u) 2), gPar cI (b 3) ((va_up P 1 u) 3), gPar cI (b 4) ((va_up P 1 u) 4), gPar cI (b 5) ((va_up P 1 u) 5), gPar cI (b 6) ((va_up P 1 u) 6), gPar cI (b 7) ((va_up P 1 u) 7), gPar cI ao to]) [2, 3, 0, 4, 5, 6, 7, 8, 9, 1] 10 (fun _ => rfl) pmb_2_3_0_4_5_6_7_8_9_1 (fun _ => rfl) hw (fun u205 hw => ?_)
    obtain ⟨Pu206, rfl⟩ : ∃ z, z = u205 := ⟨_, rfl⟩
    exact hret 47 ((v1, v2), (va_up P 1 Pu206)) _ dX4_keep_47 hw
  | 2, _ =>
    refine g_aald (b := b 2 0) (f := fun k => some (b k 0)) C dX4_keep_36 0 1 rfl rfl 1 rfl hi36 (by rw [hj36]) rfl ?_
    refine g_astore_n C dX4_keep_37 (Nat.le_of_ble_eq_true rfl) (lv' := [(2, .ref (b 2 0)), (0, .ref (a 0)), (1, .ref (ao 0))]) rfl rfl ?_
    refine g_aload_n C dX4_keep_38 0 rfl rfl ?_
    refine g_ifnull C dX4_keep_39 rfl ?_
    refine g_aload_n C dX4_keep_42 0 rfl rfl ?_
    refine g_aload_n C dX4_keep_43 2 rfl rfl ?_
    refine g_callVv (As := [.ref (ao 0)]) (gr := [gPas cQ a b (v1, v2), gPar cI (b 0) (P 0), gPar cI (b 1) (P 1), gPar cI (b 3) (P 3), gPar cI (b 4) (P 4), gPar cI (b 5) (P 5), gPar cI (b 6) (P 6), gPar cI (b 7) (P 7)]) C (c_X3_become l D cI cQ (b 2) ao (P 2) to  _) dX4_keep_44 ⟨ml_X4_31, kV_X3_become⟩ ⟨Nat.le_of_ble_eq_true rfl, Nat.le_of_ble_eq_true rfl⟩ ⟨Nat.le_refl _, Nat.le_refl _⟩ rfl rfl 0 0 rfl rfl [3, 9, 0, 1, 2, 4, 5, 6, 7, 8] 10 rfl pmb_3_9_0_1_2_4_5_6_7_8 rfl rfl rfl (Nat.le_of_ble_eq_true rfl) rfl (fun (u : PT) => [gPas cQ a b (v1, v2), gPar cI (b 0) ((va_up P 2 u) 0), gPar cI (b 1) ((va_up P 2 u) 1), gPar cI (b 2) ((va_up P 2 u) 2), gPar cI (b 3) ((va_up P 2 u) 3), gPar cI (b 4) ((va_up P 2 u) 4), gPar cI (b 5) ((va_up P 2 u) 5), gPar cI (b 6) ((va_up P 2 u) 6), gPar cI (b 7) ((va_up P 2 u) 7), gPar cI ao to]) [2, 3, 4, 0, 5, 6, 7, 8, 9, 1] 10 (fun _ => rfl) pmb_2_3_4_0_5_6_7_8_9_1 (fun _ => rfl) hw (fun u305 hw => ?_)
    obtain ⟨Pu306, rfl⟩ : ∃ z, z = u305 := ⟨_, rfl⟩
    exact hret 47 ((v1, v2), (va_up P 2 Pu306)) _ dX4_keep_47 hw
  | 3, _ =>
    refine g_aald (b := b 3 0) (f := fun k => some (b k 0)) C dX4_keep_36 0 1 rfl rfl 1 rfl hi36 (by rw [hj36]) rfl ?_
    refine g_astore_n C dX4_keep_37 (Nat.le_of_ble_eq_true rfl) (lv' := [(2, .ref (b 3 0)), (0, .ref (a 0)), (1, .ref (ao 0))]) rfl rfl ?_
    refine g_aload_n C dX4_keep_38 0 rfl rfl ?_
    refine g_ifnull C dX4_keep_39 rfl ?_
    refine g_aload_n C dX4_keep_42 0 rfl rfl ?_
    refine g_aload_n C dX4_keep_43 2 rfl rfl ?_
    refine g_callVv (As := [.ref (ao 0)]) (gr := [gPas cQ a b (v1, v2), gPar cI (b 0) (P 0), gPar cI (b 1) (P 1), gPar cI (b 2) (P 2), gPar cI (b 4) (P 4), gPar cI (b 5) (P 5), gPar cI (b 6) (P 6), gPar cI (b 7) (P 7)]) C (c_X3_become l D cI cQ (b 3) ao (P 3) to  _) dX4_keep_44 ⟨ml_X4_31, kV_X3_become⟩ ⟨Nat.le_of_ble_eq_true rfl, Nat.le_of_ble_eq_true rfl⟩ ⟨Nat.le_refl _, Nat.le_refl _⟩ rfl rfl 0 0 rfl rfl [4, 9, 0, 1, 2, 3, 5, 6, 7, 8] 10 rfl pmb_4_9_0_1_2_3_5_6_7_8 rfl rfl rfl (Nat.le_of_ble_eq_true rfl) rfl (fun (u : PT) => [gPas cQ a b (v1, v2), gPar cI (b 0) ((va_up P 3 u) 0), gPar cI (b 1) ((va_up P 3 u) 1), gPar cI (b 2) ((va_up P 3 u) 2), gPar cI (b 3) ((va_up P 3 u) 3), gPar cI (b 4) ((va_up P 3 u) 4), gPar cI (b 5) ((va_up P 3 u) 5), gPar cI (b 6) ((va_up P 3 u) 6), gPar cI (b 7) ((va_up P 3 u) 7), gPar cI ao to]) [2, 3, 4, 5, 0, 6, 7, 8, 9, 1] 10 (fun _ => rfl) pmb_2_3_4_5_0_6_7_8_9_1 (fun _ => rfl) hw (fun u405 hw => ?_)
    obtain ⟨Pu406, rfl⟩ : ∃ z, z = u405 := ⟨_, rfl⟩
    exact hret 47 ((v1, v2), (va_up P 3 Pu406)) _ dX4_keep_47 hw
  | 4, _ =>
    refine g_aald (b := b 4 0) (f := fun k => some (b k 0)) C dX4_keep_36 0 1 rfl rfl 1 rfl hi36 (by rw [hj36]) rfl ?_
    refine g_astore_n C dX4_keep_37 (Nat.le_of_ble_eq_true rfl) (lv' := [(2, .ref (b 4 0)), (0, .ref (a 0)), (1, .ref (ao 0))]) rfl rfl ?_
    refine g_aload_n C dX4_keep_38 0 rfl rfl ?_
    refine g_ifnull C dX4_keep_39 rfl ?_
    refine g_aload_n C dX4_keep_42 0 rfl rfl ?_
    refine g_aload_n C dX4_keep_43 2 rfl rfl ?_
    refine g_callVv (As := [.ref (ao 0)]) (gr := [gPas cQ a b (v1, v2), gPar cI (b 0) (P 0), gPar cI (b 1) (P 1), gPar cI (b 2) (P 2), gPar cI (b 3) (P 3), gPar cI (b 5) (P 5), gPar cI (b 6) (P 6), gPar cI (b 7) (P 7)]) C (c_X3_become l D cI cQ (b 4) ao (P 4) to  _) dX4_keep_44 ⟨ml_X4_31, kV_X3_become⟩ ⟨Nat.le_of_ble_eq_true rfl, Nat.le_of_ble_eq_true rfl⟩ ⟨Nat.le_refl _, Nat.le_refl _⟩ rfl rfl 0 0 rfl rfl [5, 9, 0, 1, 2, 3, 4, 6, 7, 8] 10 rfl pmb_5_9_0_1_2_3_4_6_7_8 rfl rfl rfl (Nat.le_of_ble_eq_true rfl) rfl (fun (u : PT) => [gPas cQ a b (v1, v2), gPar cI (b 0) ((va_up P 4 u) 0), gPar cI (b 1) ((va_up P 4 u) 1), gPar cI (b 2) ((va_up P 4 u) 2), gPar cI (b 3) ((va_up P 4 u) 3), gPar cI (b 4) ((va_up P 4 u) 4), gPar cI (b 5) ((va_up P 4 u) 5), gPar cI (b 6) ((va_up P 4 u) 6), gPar cI (b 7) ((va_up P 4 u) 7), gPar cI ao to]) [2, 3, 4, 5, 6, 0, 7, 8, 9, 1] 10 (fun _ => rfl) pmb_2_3_4_5_6_0_7_8_9_1 (fun _ => rfl) hw (fun u505 hw => ?_)
    obtain ⟨Pu506, rfl⟩ : ∃ z, z = u505 := ⟨_, rfl⟩
    exact hret 47 ((v1, v2), (va_up P 4 Pu506)) _ dX4_keep_47 hw
  | 5, _ =>
    refine g_aald (b := b 5 0) (f := fun k => some (b k 0)) C dX4_keep_36 0 1 rfl rfl 1 rfl hi36 (by rw [hj36]) rfl ?_
    refine g_astore_n C dX4_keep_37 (Nat.le_of_ble_eq_true rfl) (lv' := [(2, .ref (b 5 0)), (0, .ref (a 0)), (1, .ref (ao 0))]) rfl rfl ?_
    refine g_aload_n C dX4_keep_38 0 rfl rfl ?_
    refine g_ifnull C dX4_keep_39 rfl ?_
    refine g_aload_n C dX4_keep_42 0 rfl rfl ?_
    refine g_aload_n C dX4_keep_43 2 rfl rfl ?_
    refine g_callVv (As := [.ref (ao 0)]) (gr := [gPas cQ a b (v1, v2), gPar cI (b 0) (P 0), gPar cI (b 1) (P 1), gPar cI (b 2) (P 2), gPar cI (b 3) (P 3), gPar cI (b 4) (P 4), gPar cI (b 6) (P 6), gPar cI (b 7) (P 7)]) C (c_X3_become l D cI cQ (b 5) ao (P 5) to  _) dX4_keep_44 ⟨ml_X4_31, kV_X3_become⟩ ⟨Nat.le_of_ble_eq_true rfl, Nat.le_of_ble_eq_true rfl⟩ ⟨Nat.le_refl _, Nat.le_refl _⟩ rfl rfl 0 0 rfl rfl [6, 9, 0, 1, 2, 3, 4, 5, 7, 8] 10 rfl pmb_6_9_0_1_2_3_4_5_7_8 rfl rfl rfl (Nat.le_of_ble_eq_true rfl) rfl (fun (u : PT) => [gPas cQ a b (v1, v2), gPar cI (b 0) ((va_up P 5 u) 0), gPar cI (b 1) ((va_up P 5 u) 1), gPar cI (b 2) ((va_up P 5 u) 2), gPar cI (b 3) ((va_up P 5 u) 3), gPar cI (b 4) ((va_up P 5 u) 4), gPar cI (b 5) ((va_up P 5 u) 5), gPar cI (b 6) ((va_up P 5 u) 6), gPar cI (b 7) ((va_up P 5 u) 7), gPar cI ao to]) [2, 3, 4, 5, 6, 7, 0, 8, 9, 1] 10 (fun _ => rfl) pmb_2_3_4_5_6_7_0_8_9_1 (fun _ => rfl) hw (fun u605 hw => ?_)
    obtain ⟨Pu606, rfl⟩ : ∃ z, z = u605 := ⟨_, rfl⟩
    exact hret 47 ((v1, v2), (va_up P 5 Pu606)) _ dX4_keep_47 hw
  | 6, _ =>
    refine g_aald (b := b 6 0) (f := fun k => some (b k 0)) C dX4_keep_36 0 1 rfl rfl 1 rfl hi36 (by rw [hj36]) rfl ?_
    refine g_astore_n C dX4_keep_37 (Nat.le_of_ble_eq_true rfl) (lv' := [(2, .ref (b 6 0)), (0, .ref (a 0)), (1, .ref (ao 0))]) rfl rfl ?_
    refine g_aload_n C dX4_keep_38 0 rfl rfl ?_
    refine g_ifnull C dX4_keep_39 rfl ?_
    refine g_aload_n C dX4_keep_42 0 rfl rfl ?_
    refine g_aload_n C dX4_keep_43 2 rfl rfl ?_
    refine g_callVv (As := [.ref (ao 0)]) (gr := [gPas cQ a b (v1, v2), gPar cI (b 0) (P 0), gPar cI (b 1) (P 1), gPar cI (b 2) (P 2), gPar cI (b 3) (P 3), gPar cI (b 4) (P 4), gPar cI (b 5) (P 5), gPar cI (b 7) (P 7)]) C (c_X3_become l D cI cQ (b 6) ao (P 6) to  _) dX4_keep_44 ⟨ml_X4_31, kV_X3_become⟩ ⟨Nat.le_of_ble_eq_true rfl, Nat.le_of_ble_eq_true rfl⟩ ⟨Nat.le_refl _, Nat.le_refl _⟩ rfl rfl 0 0 rfl rfl [7, 9, 0, 1, 2, 3, 4, 5, 6, 8] 10 rfl pmb_7_9_0_1_2_3_4_5_6_8 rfl rfl rfl (Nat.le_of_ble_eq_true rfl) rfl (fun (u : PT) => [gPas cQ a b (v1, v2), gPar cI (b 0) ((va_up P 6 u) 0), gPar cI (b 1) ((va_up P 6 u) 1), gPar cI (b 2) ((va_up P 6 u) 2), gPar cI (b 3) ((va_up P 6 u) 3), gPar cI (b 4) ((va_up P 6 u) 4), gPar cI (b 5) ((va_up P 6 u) 5), gPar cI (b 6) ((va_up P 6 u) 6), gPar cI (b 7) ((va_up P 6 u) 7), gPar cI ao to]) [2, 3, 4, 5, 6, 7, 8, 0, 9, 1] 10 (fun _ => rfl) pmb_2_3_4_5_6_7_8_0_9_1 (fun _ => rfl) hw (fun u705 hw => ?_)
    obtain ⟨Pu706, rfl⟩ : ∃ z, z = u705 := ⟨_, rfl⟩
    exact hret 47 ((v1, v2), (va_up P 6 Pu706)) _ dX4_keep_47 hw
  | 7, _ =>
    refine g_aald (b := b 7 0) (f := fun k => some (b k 0)) C dX4_keep_36 0 1 rfl rfl 1 rfl hi36 (by rw [hj36]) rfl ?_
    refine g_astore_n C dX4_keep_37 (Nat.le_of_ble_eq_true rfl) (lv' := [(2, .ref (b 7 0)), (0, .ref (a 0)), (1, .ref (ao 0))]) rfl rfl ?_
    refine g_aload_n C dX4_keep_38 0 rfl rfl ?_
    refine g_ifnull C dX4_keep_39 rfl ?_
    refine g_aload_n C dX4_keep_42 0 rfl rfl ?_
    refine g_aload_n C dX4_keep_43 2 rfl rfl ?_
    refine g_callVv (As := [.ref (ao 0)]) (gr := [gPas cQ a b (v1, v2), gPar cI (b 0) (P 0), gPar cI (b 1) (P 1), gPar cI (b 2) (P 2), gPar cI (b 3) (P 3), gPar cI (b 4) (P 4), gPar cI (b 5) (P 5), gPar cI (b 6) (P 6)]) C (c_X3_become l D cI cQ (b 7) ao (P 7) to  _) dX4_keep_44 ⟨ml_X4_31, kV_X3_become⟩ ⟨Nat.le_of_ble_eq_true rfl, Nat.le_of_ble_eq_true rfl⟩ ⟨Nat.le_refl _, Nat.le_refl _⟩ rfl rfl 0 0 rfl rfl [8, 9, 0, 1, 2, 3, 4, 5, 6, 7] 10 rfl pmb_8_9_0_1_2_3_4_5_6_7 rfl rfl rfl (Nat.le_of_ble_eq_true rfl) rfl (fun (u : PT) => [gPas cQ a b (v1, v2), gPar cI (b 0) ((va_up P 7 u) 0), gPar cI (b 1) ((va_up P 7 u) 1), gPar cI (b 2) ((va_up P 7 u) 2), gPar cI (b 3) ((va_up P 7 u) 3), gPar cI (b 4) ((va_up P 7 u) 4), gPar cI (b 5) ((va_up P 7 u) 5), gPar cI (b 6) ((va_up P 7 u) 6), gPar cI (b 7) ((va_up P 7 u) 7), gPar cI ao to]) [2, 3, 4, 5, 6, 7, 8, 9, 0, 1] 10 (fun _ => rfl) pmb_2_3_4_5_6_7_8_9_0_1 (fun _ => rfl) hw (fun u805 hw => ?_)
    obtain ⟨Pu806, rfl⟩ : ∃ z, z = u805 := ⟨_, rfl⟩
    exact hret 47 ((v1, v2), (va_up P 7 Pu806)) _ dX4_keep_47 hw
set_option maxRecDepth 100000 in
theorem c_X4_keep (l : Launch) (D : va_G) (cI cQ : ClassId) (a : Nat → Nat) (b : Nat → Nat → Nat) (ao : Nat → Nat) (hh : HT) (P : (Nat → PT)) (to : PT) (post : HT × (Nat → PT) → Prop) (sz : Nat) : Met l yX4_keep (wsY yX4_keep cX4_keep 3 none) (rmL 2 0 0 61) (xP D (tyL cI cQ) [.ref (a 0), .ref (ao 0)] [gPas cQ a b hh, gPar cI (b 0) (P 0), gPar cI (b 1) (P 1), gPar cI (b 2) (P 2), gPar cI (b 3) (P 3), gPar cI (b 4) (P 4), gPar cI (b 5) (P 5), gPar cI (b 6) (P 6), gPar cI (b 7) (P 7), gPar cI ao to] sz (p_X4_keep hh P to post)) (xQv D (tyL cI cQ) post (fun (u : HT × (Nat → PT)) => [gPas cQ a b u.1, gPar cI (b 0) (u.2 0), gPar cI (b 1) (u.2 1), gPar cI (b 2) (u.2 2), gPar cI (b 3) (u.2 3), gPar cI (b 4) (u.2 4), gPar cI (b 5) (u.2 5), gPar cI (b 6) (u.2 6), gPar cI (b 7) (u.2 7), gPar cI ao to]) (va_A [gPas cQ a b hh, gPar cI (b 0) (P 0), gPar cI (b 1) (P 1), gPar cI (b 2) (P 2), gPar cI (b 3) (P 3), gPar cI (b 4) (P 4), gPar cI (b 5) (P 5), gPar cI (b 6) (P 6), gPar cI (b 7) (P 7), gPar cI ao to].flatten sz)) 0 0 (va_A [gPas cQ a b hh, gPar cI (b 0) (P 0), gPar cI (b 1) (P 1), gPar cI (b 2) (P 2), gPar cI (b 3) (P 3), gPar cI (b 4) (P 4), gPar cI (b 5) (P 5), gPar cI (b 6) (P 6), gPar cI (b 7) (P 7), gPar cI ao to].flatten sz) :=
  Met_v pn_X4 (Nat.le_of_ble_eq_true rfl) (fun p e s mi below meth co A Q _ C hret hw => w_X4_keep a b ao hh P to C hret hw)
theorem kV_X4_keep : Cond.instanceMethod yX4_keep ∈ gTbl ∧ Cond.selects yX4_keep.cls yX4_keep yX4_keep ∈ gTbl ∧ Cond.initialized yX4_keep.cls ∈ gTbl ∧ Cond.code yX4_keep cX4_keep 3 none ∈ gTbl ∧ (yX4_keep.cls ≠ "java/lang/invoke/MethodHandle" ∧ yX4_keep.cls ≠ "java/lang/invoke/VarHandle" ∧ (parseMethodDescriptor yX4_keep.desc).map (fun d => d.parameters.length) = some 1) := ⟨im_X4_keep, sl_X4_keep, in_X4, cd_X4_keep, (by decide +kernel)⟩
set_option maxRecDepth 100000 in
def p_X4_giveLatest (hh : HT) (P : (Nat → PT)) (to : PT) (post : Int32 → HT × PT → Prop) : Prop := (fun (hh_la : Int32) (hh_sz : Int32) => ((hh_sz = 0 → post (0 : Int32) ((hh_la, hh_sz), to)) ∧ (¬ hh_sz = 0 → (vp_in hh_la 8 ∧ p_X3_become to (P (hh_la).toNatClampNeg) (fun (u1 : PT) => (fun (tov2 : PT) => nm ((((hh_la + (8 : Int32)) - (1 : Int32)) - ((hh_la + (8 : Int32)) - (1 : Int32)) / (8 : Int32) * (8 : Int32)) : Int32) (fun (v3 : Int32) => nm ((hh_sz - (1 : Int32)) : Int32) (fun (v4 : Int32) => post (1 : Int32) ((v3, v4), tov2)))) u1))))) hh.1 hh.2
set_option maxHeartbeats 4000000 in
set_option maxRecDepth 100000 in
theorem w_X4_giveLatest {p : Program} {l : Launch} {e : Env} {s : State} {mi : MethodId} {args : Array Value} {below : List Frame} {meth : Method} {co : Code} {D : va_G} {cI cQ : ClassId} {A : Nat → Prop} {Q : State → Prop} (a : Nat → Nat) (b : Nat → Nat → Nat) (ao : Nat → Nat) (hh : HT) (P : (Nat → PT)) (to : PT) {post : Int32 → HT × PT → Prop} (C : xC p s mi args co cX4_giveLatest RX4 2 D (tyL cI cQ) A) (hret : ∀ (pc : Nat) (r : Int32) (u : HT × PT) (lv : List (Nat × Value)), decode cX4_giveLatest pc = .ok (.ireturn, 1) → bz r → post r u → xG p l e (rmL 2 0 0 61) s mi args below meth co D A 2 Q 0 0 pc [.int r] [gPas cQ a b u.1, gPar cI (b 0) (P 0), gPar cI (b 1) (P 1), gPar cI (b 2) (P 2), gPar cI (b 3) (P 3), gPar cI (b 4) (P 4), gPar cI (b 5) (P 5), gPar cI (b 6) (P 6), gPar cI (b 7) (P 7), gPar cI ao u.2] lv) (hw : p_X4_giveLatest hh P to post) : xG p l e (rmL 2 0 0 61) s mi args below meth co D A 2 Q 0 0 0 [] [gPas cQ a b hh, gPar cI (b 0) (P 0), gPar cI (b 1) (P 1), gPar cI (b 2) (P 2), gPar cI (b 3) (P 3), gPar cI (b 4) (P 4), gPar cI (b 5) (P 5), gPar cI (b 6) (P 6), gPar cI (b 7) (P 7), gPar cI ao to] [(0, .ref (a 0)), (1, .ref (ao 0))] := by
  unfold p_X4_giveLatest at hw
  obtain ⟨hh_la, hh_sz⟩ := hh
  try dsimp only at hw
  show xG p l e (rmL 2 0 0 61) s mi args below meth co D A 2 Q 0 0 0 [] [gPas cQ a b (hh_la, hh_sz), gPar cI (b 0) (P 0), gPar cI (b 1) (P 1), gPar cI (b 2) (P 2), gPar cI (b 3) (P 3), gPar cI (b 4) (P 4), gPar cI (b 5) (P 5), gPar cI (b 6) (P 6), gPar cI (b 7) (P 7), gPar cI ao to] [(0, .ref (a 0)), (1, .ref (ao 0))]
  refine g_aload_n C dX4_giveLatest_0 0 rfl rfl ?_
  refine g_get (v := .int hh_sz) (ci := 3) C dX4_giveLatest_1 inw_X4 rfl 0 0 2 rfl rfl (Nat.le_of_ble_eq_true rfl) rfl fl_X4_18 rfl rfl ?_
  refine g_if_eq (tgt := 11) C dX4_giveLatest_4 (by decide) rfl hw (fun _ hw => ?_) (fun _ hw => ?_)
  · refine g_iconst (v := 0) C dX4_giveLatest_11 rfl rfl ?_
    exact hret 12 (0 : Int32) ((hh_la, hh_sz), to) _ dX4_giveLatest_12 ⟨rfl, rfl⟩ hw
  · refine g_aload_n C dX4_giveLatest_7 1 rfl rfl ?_
    refine g_ifnonnull (pc' := 13) C dX4_giveLatest_8 (by decide) rfl ?_
    refine g_aload_n C dX4_giveLatest_13 1 rfl rfl ?_
    refine g_aload_n C dX4_giveLatest_14 0 rfl rfl ?_
    refine g_get (v := .ref (a 1)) (ci := 3) C dX4_giveLatest_15 inw_X4 rfl 0 0 0 rfl rfl (Nat.le_of_ble_eq_true rfl) rfl fl_X4_11 rfl rfl ?_
    refine g_aload_n C dX4_giveLatest_18 0 rfl rfl ?_
    refine g_get (v := .int hh_la) (ci := 3) C dX4_giveLatest_19 inw_X4 rfl 0 0 1 rfl rfl (Nat.le_of_ble_eq_true rfl) rfl fl_X4_22 rfl rfl ?_
    have hi22 := hw.1
    replace hw := hw.2
    obtain ⟨j22, hj22, hjn22⟩ : ∃ j, (hh_la).toNatClampNeg = j ∧ j < 8 := ⟨_, rfl, Nat.not_le.mp fun q => hi22 (Or.inr q)⟩
    rw [hj22] at hw
    match j22, hjn22 with
    | 0, _ =>
      refine g_aald (b := b 0 0) (f := fun k => some (b k 0)) C dX4_giveLatest_22 0 1 rfl rfl 1 rfl hi22 (by rw [hj22]) rfl ?_
      refine g_callVv (As := [.ref (b 0 0)]) (gr := [gPas cQ a b (hh_la, hh_sz), gPar cI (b 1) (P 1), gPar cI (b 2) (P 2), gPar cI (b 3) (P 3), gPar cI (b 4) (P 4), gPar cI (b 5) (P 5), gPar cI (b 6) (P 6), gPar cI (b 7) (P 7)]) C (c_X3_become l D cI cQ ao (b 0) to (P 0)  _) dX4_giveLatest_23 ⟨ml_X4_31, kV_X3_become⟩ ⟨Nat.le_of_ble_eq_true rfl, Nat.le_of_ble_eq_true rfl⟩ ⟨Nat.le_refl _, Nat.le_refl _⟩ rfl rfl 0 0 rfl rfl [9, 1, 0, 2, 3, 4, 5, 6, 7, 8] 10 rfl pmb_9_1_0_2_3_4_5_6_7_8 rfl rfl rfl (Nat.le_of_ble_eq_true rfl) rfl (fun (u : PT) => [gPas cQ a b (hh_la, hh_sz), gPar cI (b 0) (P 0), gPar cI (b 1) (P 1), gPar cI (b 2) (P 2), gPar cI (b 3) (P 3), gPar cI (b 4) (P 4), gPar cI (b 5) (P 5), gPar cI (b 6) (P 6), gPar cI (b 7) (P 7), gPar cI ao u]) [2, 1, 3, 4, 5, 6, 7, 8, 9, 0] 10 (fun _ => rfl) pmb_2_1_3_4_5_6_7_8_9_0 (fun _ => rfl) hw (fun u105 hw => ?_)
      obtain ⟨tov106, rfl⟩ : ∃ z, z = u105 := ⟨_, rfl⟩
      refine g_aload_n C dX4_giveLatest_26 0 rfl rfl ?_
      refine g_aload_n C dX4_giveLatest_27 0 rfl rfl ?_
      refine g_get (v := .int hh_la) (ci := 3) C dX4_giveLatest_28 inw_X4 rfl 0 0 1 rfl rfl (Nat.le_of_ble_eq_true rfl) rfl fl_X4_22 rfl rfl ?_
      refine g_bipush (v := 8) C dX4_giveLatest_31 (by decide) rfl ?_
      refine g_iadd C dX4_giveLatest_33 rfl ?_
      refine g_iconst (v := 1) C dX4_giveLatest_34 rfl rfl ?_
      refine g_isub C dX4_giveLatest_35 rfl ?_
      refine g_bipush (v := 8) C dX4_giveLatest_36 (by decide) rfl ?_
      refine g_irem C dX4_giveLatest_38 (by decide) rfl ?_
      refine nm_el hw (fun v107 ev107 hw => ?_)
      refine g_put (v' := .int v107) (ty := .int) (ci := 3) (gs' := [gPas cQ a b (v107, hh_sz), gPar cI (b 0) (P 0), gPar cI (b 1) (P 1), gPar cI (b 2) (P 2), gPar cI (b 3) (P 3), gPar cI (b 4) (P 4), gPar cI (b 5) (P 5), gPar cI (b 6) (P 6), gPar cI (b 7) (P 7), gPar cI ao tov106]) C dX4_giveLatest_39 inw_X4 tyX4 tyX4_ok nmX4 rfl 0 0 1 rfl rfl (Nat.le_of_ble_eq_true rfl) rfl fl_X4_22 rfl fd_I (congrArg Value.int ev107.symm) rfl rfl (Nat.le_of_ble_eq_true rfl) rfl rfl ?_
      refine g_aload_n C dX4_giveLatest_42 0 rfl rfl ?_
      refine g_dup C dX4_giveLatest_43 rfl rfl ?_
      refine g_get (v := .int hh_sz) (ci := 3) C dX4_giveLatest_44 inw_X4 rfl 0 0 2 rfl rfl (Nat.le_of_ble_eq_true rfl) rfl fl_X4_18 rfl rfl ?_
      refine g_iconst (v := 1) C dX4_giveLatest_47 rfl rfl ?_
      refine g_isub C dX4_giveLatest_48 rfl ?_
      refine nm_el hw (fun v108 ev108 hw => ?_)
      refine g_put (v' := .int v108) (ty := .int) (ci := 3) (gs' := [gPas cQ a b (v107, v108), gPar cI (b 0) (P 0), gPar cI (b 1) (P 1), gPar cI (b 2) (P 2), gPar cI (b 3) (P 3), gPar cI (b 4) (P 4), gPar cI (b 5) (P 5), gPar cI (b 6) (P 6), gPar cI (b 7) (P 7), gPar cI ao tov106]) C dX4_giveLatest_49 inw_X4 tyX4 tyX4_ok nmX4 rfl 0 0 2 rfl rfl (Nat.le_of_ble_eq_true rfl) rfl fl_X4_18 rfl fd_I (congrArg Value.int ev108.symm) rfl rfl (Nat.le_of_ble_eq_true rfl) rfl rfl ?_
      refine g_iconst (v := 1) C dX4_giveLatest_52 rfl rfl ?_
      exact hret 53 (1 : Int32) ((v107, v108), tov106) _ dX4_giveLatest_53 ⟨rfl, rfl⟩ hw
    | 1, _ =>
      refine g_aald (b := b 1 0) (f := fun k => some (b k 0)) C dX4_giveLatest_22 0 1 rfl rfl 1 rfl hi22 (by rw [hj22]) rfl ?_
      refine g_callVv (As := [.ref (b 1 0)]) (gr := [gPas cQ a b (hh_la, hh_sz), gPar cI (b 0) (P 0), gPar cI (b 2) (P 2), gPar cI (b 3) (P 3), gPar cI (b 4) (P 4), gPar cI (b 5) (P 5), gPar cI (b 6) (P 6), gPar cI (b 7) (P 7)]) C (c_X3_become l D cI cQ ao (b 1) to (P 1)  _) dX4_giveLatest_23 ⟨ml_X4_31, kV_X3_become⟩ ⟨Nat.le_of_ble_eq_true rfl, Nat.le_of_ble_eq_true rfl⟩ ⟨Nat.le_refl _, Nat.le_refl _⟩ rfl rfl 0 0 rfl rfl [9, 2, 0, 1, 3, 4, 5, 6, 7, 8] 10 rfl pmb_9_2_0_1_3_4_5_6_7_8 rfl rfl rfl (Nat.le_of_ble_eq_true rfl) rfl (fun (u : PT) => [gPas cQ a b (hh_la, hh_sz), gPar cI (b 0) (P 0), gPar cI (b 1) (P 1), gPar cI (b 2) (P 2), gPar cI (b 3) (P 3), gPar cI (b 4) (P 4), gPar cI (b 5) (P 5), gPar cI (b 6) (P 6), gPar cI (b 7) (P 7), gPar cI ao u]) [2, 3, 1, 4, 5, 6, 7, 8, 9, 0] 10 (fun _ => rfl) pmb_2_3_1_4_5_6_7_8_9_0 (fun _ => rfl) hw (fun u205 hw => ?_)
      obtain ⟨tov206, rfl⟩ : ∃ z, z = u205 := ⟨_, rfl⟩
      refine g_aload_n C dX4_giveLatest_26 0 rfl rfl ?_
      refine g_aload_n C dX4_giveLatest_27 0 rfl rfl ?_
      refine g_get (v := .int hh_la) (ci := 3) C dX4_giveLatest_28 inw_X4 rfl 0 0 1 rfl rfl (Nat.le_of_ble_eq_true rfl) rfl fl_X4_22 rfl rfl ?_
      refine g_bipush (v := 8) C dX4_giveLatest_31 (by decide) rfl ?_
      refine g_iadd C dX4_giveLatest_33 rfl ?_
      refine g_iconst (v := 1) C dX4_giveLatest_34 rfl rfl ?_
      refine g_isub C dX4_giveLatest_35 rfl ?_
      refine g_bipush (v := 8) C dX4_giveLatest_36 (by decide) rfl ?_
      refine g_irem C dX4_giveLatest_38 (by decide) rfl ?_
      refine nm_el hw (fun v207 ev207 hw => ?_)
      refine g_put (v' := .int v207) (ty := .int) (ci := 3) (gs' := [gPas cQ a b (v207, hh_sz), gPar cI (b 0) (P 0), gPar cI (b 1) (P 1), gPar cI (b 2) (P 2), gPar cI (b 3) (P 3), gPar cI (b 4) (P 4), gPar cI (b 5) (P 5), gPar cI (b 6) (P 6), gPar cI (b 7) (P 7), gPar cI ao tov206]) C dX4_giveLatest_39 inw_X4 tyX4 tyX4_ok nmX4 rfl 0 0 1 rfl rfl (Nat.le_of_ble_eq_true rfl) rfl fl_X4_22 rfl fd_I (congrArg Value.int ev207.symm) rfl rfl (Nat.le_of_ble_eq_true rfl) rfl rfl ?_
      refine g_aload_n C dX4_giveLatest_42 0 rfl rfl ?_
      refine g_dup C dX4_giveLatest_43 rfl rfl ?_
      refine g_get (v := .int hh_sz) (ci := 3) C dX4_giveLatest_44 inw_X4 rfl 0 0 2 rfl rfl (Nat.le_of_ble_eq_true rfl) rfl fl_X4_18 rfl rfl ?_
      refine g_iconst (v := 1) C dX4_giveLatest_47 rfl rfl ?_
      refine g_isub C dX4_giveLatest_48 rfl ?_
      refine nm_el hw (fun v208 ev208 hw => ?_)
      refine g_put (v' := .int v208) (ty := .int) (ci := 3) (gs' := [gPas cQ a b (v207, v208), gPar cI (b 0) (P 0), gPar cI (b 1) (P 1), gPar cI (b 2) (P 2), gPar cI (b 3) (P 3), gPar cI (b 4) (P 4), gPar cI (b 5) (P 5), gPar cI (b 6) (P 6), gPar cI (b 7) (P 7), gPar cI ao tov206]) C dX4_giveLatest_49 inw_X4 tyX4 tyX4_ok nmX4 rfl 0 0 2 rfl rfl (Nat.le_of_ble_eq_true rfl) rfl fl_X4_18 rfl fd_I (congrArg Value.int ev208.symm) rfl rfl (Nat.le_of_ble_eq_true rfl) rfl rfl ?_
      refine g_iconst (v := 1) C dX4_giveLatest_52 rfl rfl ?_
      exact hret 53 (1 : Int32) ((v207, v208), tov206) _ dX4_giveLatest_53 ⟨rfl, rfl⟩ hw
    | 2, _ =>
      refine g_aald (b := b 2 0) (f := fun k => some (b k 0)) C dX4_giveLatest_22 0 1 rfl rfl 1 rfl hi22 (by rw [hj22]) rfl ?_
      refine g_callVv (As := [.ref (b 2 0)]) (gr := [gPas cQ a b (hh_la, hh_sz), gPar cI (b 0) (P 0), gPar cI (b 1) (P 1), gPar cI (b 3) (P 3), gPar cI (b 4) (P 4), gPar cI (b 5) (P 5), gPar cI (b 6) (P 6), gPar cI (b 7) (P 7)]) C (c_X3_become l D cI cQ ao (b 2) to (P 2)  _) dX4_giveLatest_23 ⟨ml_X4_31, kV_X3_become⟩ ⟨Nat.le_of_ble_eq_true rfl, Nat.le_of_ble_eq_true rfl⟩ ⟨Nat.le_refl _, Nat.le_refl _⟩ rfl rfl 0 0 rfl rfl [9, 3, 0, 1, 2, 4, 5, 6, 7, 8] 10 rfl pmb_9_3_0_1_2_4_5_6_7_8 rfl rfl rfl (Nat.le_of_ble_eq_true rfl) rfl (fun (u : PT) => [gPas cQ a b (hh_la, hh_sz), gPar cI (b 0) (P 0), gPar cI (b 1) (P 1), gPar cI (b 2) (P 2), gPar cI (b 3) (P 3), gPar cI (b 4) (P 4), gPar cI (b 5) (P 5), gPar cI (b 6) (P 6), gPar cI (b 7) (P 7), gPar cI ao u]) [2, 3, 4, 1, 5, 6, 7, 8, 9, 0] 10 (fun _ => rfl) pmb_2_3_4_1_5_6_7_8_9_0 (fun _ => rfl) hw (fun u305 hw => ?_)
      obtain ⟨tov306, rfl⟩ : ∃ z, z = u305 := ⟨_, rfl⟩
      refine g_aload_n C dX4_giveLatest_26 0 rfl rfl ?_
      refine g_aload_n C dX4_giveLatest_27 0 rfl rfl ?_
      refine g_get (v := .int hh_la) (ci := 3) C dX4_giveLatest_28 inw_X4 rfl 0 0 1 rfl rfl (Nat.le_of_ble_eq_true rfl) rfl fl_X4_22 rfl rfl ?_
      refine g_bipush (v := 8) C dX4_giveLatest_31 (by decide) rfl ?_
      refine g_iadd C dX4_giveLatest_33 rfl ?_
      refine g_iconst (v := 1) C dX4_giveLatest_34 rfl rfl ?_
      refine g_isub C dX4_giveLatest_35 rfl ?_
      refine g_bipush (v := 8) C dX4_giveLatest_36 (by decide) rfl ?_
      refine g_irem C dX4_giveLatest_38 (by decide) rfl ?_
      refine nm_el hw (fun v307 ev307 hw => ?_)
      refine g_put (v' := .int v307) (ty := .int) (ci := 3) (gs' := [gPas cQ a b (v307, hh_sz), gPar cI (b 0) (P 0), gPar cI (b 1) (P 1), gPar cI (b 2) (P 2), gPar cI (b 3) (P 3), gPar cI (b 4) (P 4), gPar cI (b 5) (P 5), gPar cI (b 6) (P 6), gPar cI (b 7) (P 7), gPar cI ao tov306]) C dX4_giveLatest_39 inw_X4 tyX4 tyX4_ok nmX4 rfl 0 0 1 rfl rfl (Nat.le_of_ble_eq_true rfl) rfl fl_X4_22 rfl fd_I (congrArg Value.int ev307.symm) rfl rfl (Nat.le_of_ble_eq_true rfl) rfl rfl ?_
      refine g_aload_n C dX4_giveLatest_42 0 rfl rfl ?_
      refine g_dup C dX4_giveLatest_43 rfl rfl ?_
      refine g_get (v := .int hh_sz) (ci := 3) C dX4_giveLatest_44 inw_X4 rfl 0 0 2 rfl rfl (Nat.le_of_ble_eq_true rfl) rfl fl_X4_18 rfl rfl ?_
      refine g_iconst (v := 1) C dX4_giveLatest_47 rfl rfl ?_
      refine g_isub C dX4_giveLatest_48 rfl ?_
      refine nm_el hw (fun v308 ev308 hw => ?_)
      refine g_put (v' := .int v308) (ty := .int) (ci := 3) (gs' := [gPas cQ a b (v307, v308), gPar cI (b 0) (P 0), gPar cI (b 1) (P 1), gPar cI (b 2) (P 2), gPar cI (b 3) (P 3), gPar cI (b 4) (P 4), gPar cI (b 5) (P 5), gPar cI (b 6) (P 6), gPar cI (b 7) (P 7), gPar cI ao tov306]) C dX4_giveLatest_49 inw_X4 tyX4 tyX4_ok nmX4 rfl 0 0 2 rfl rfl (Nat.le_of_ble_eq_true rfl) rfl fl_X4_18 rfl fd_I (congrArg Value.int ev308.symm) rfl rfl (Nat.le_of_ble_eq_true rfl) rfl rfl ?_
      refine g_iconst (v := 1) C dX4_giveLatest_52 rfl rfl ?_
      exact hret 53 (1 : Int32) ((v307, v308), tov306) _ dX4_giveLatest_53 ⟨rfl, rfl⟩ hw
    | 3, _ =>
      refine g_aald (b := b 3 0) (f := fun k => some (b k 0)) C dX4_giveLatest_22 0 1 rfl rfl 1 rfl hi22 (by rw [hj22]) rfl ?_
      refine g_callVv (As := [.ref (b 3 0)]) (gr := [gPas cQ a b (hh_la, hh_sz), gPar cI (b 0) (P 0), gPar cI (b 1) (P 1), gPar cI (b 2) (P 2), gPar cI (b 4) (P 4), gPar cI (b 5) (P 5), gPar cI (b 6) (P 6), gPar cI (b 7) (P 7)]) C (c_X3_become l D cI cQ ao (b 3) to (P 3)  _) dX4_giveLatest_23 ⟨ml_X4_31, kV_X3_become⟩ ⟨Nat.le_of_ble_eq_true rfl, Nat.le_of_ble_eq_true rfl⟩ ⟨Nat.le_refl _, Nat.le_refl _⟩ rfl rfl 0 0 rfl rfl [9, 4, 0, 1, 2, 3, 5, 6, 7, 8] 10 rfl pmb_9_4_0_1_2_3_5_6_7_8 rfl rfl rfl (Nat.le_of_ble_eq_true rfl) rfl (fun (u : PT) => [gPas cQ a b (hh_la, hh_sz), gPar cI (b 0) (P 0), gPar cI (b 1) (P 1), gPar cI (b 2) (P 2), gPar cI (b 3) (P 3), gPar cI (b 4) (P 4), gPar cI (b 5) (P 5), gPar cI (b 6) (P 6), gPar cI (b 7) (P 7), gPar cI ao u]) [2, 3, 4, 5, 1, 6, 7, 8, 9, 0] 10 (fun _ => rfl) pmb_2_3_4_5_1_6_7_8_9_0 (fun _ => rfl) hw (fun u405 hw => ?_)
      obtain ⟨tov406, rfl⟩ : ∃ z, z = u405 := ⟨_, rfl⟩
      refine g_aload_n C dX4_giveLatest_26 0 rfl rfl ?_
      refine g_aload_n C dX4_giveLatest_27 0 rfl rfl ?_
      refine g_get (v := .int hh_la) (ci := 3) C dX4_giveLatest_28 inw_X4 rfl 0 0 1 rfl rfl (Nat.le_of_ble_eq_true rfl) rfl fl_X4_22 rfl rfl ?_
      refine g_bipush (v := 8) C dX4_giveLatest_31 (by decide) rfl ?_
      refine g_iadd C dX4_giveLatest_33 rfl ?_
      refine g_iconst (v := 1) C dX4_giveLatest_34 rfl rfl ?_
      refine g_isub C dX4_giveLatest_35 rfl ?_
      refine g_bipush (v := 8) C dX4_giveLatest_36 (by decide) rfl ?_
      refine g_irem C dX4_giveLatest_38 (by decide) rfl ?_
      refine nm_el hw (fun v407 ev407 hw => ?_)
      refine g_put (v' := .int v407) (ty := .int) (ci := 3) (gs' := [gPas cQ a b (v407, hh_sz), gPar cI (b 0) (P 0), gPar cI (b 1) (P 1), gPar cI (b 2) (P 2), gPar cI (b 3) (P 3), gPar cI (b 4) (P 4), gPar cI (b 5) (P 5), gPar cI (b 6) (P 6), gPar cI (b 7) (P 7), gPar cI ao tov406]) C dX4_giveLatest_39 inw_X4 tyX4 tyX4_ok nmX4 rfl 0 0 1 rfl rfl (Nat.le_of_ble_eq_true rfl) rfl fl_X4_22 rfl fd_I (congrArg Value.int ev407.symm) rfl rfl (Nat.le_of_ble_eq_true rfl) rfl rfl ?_
      refine g_aload_n C dX4_giveLatest_42 0 rfl rfl ?_
      refine g_dup C dX4_giveLatest_43 rfl rfl ?_
      refine g_get (v := .int hh_sz) (ci := 3) C dX4_giveLatest_44 inw_X4 rfl 0 0 2 rfl rfl (Nat.le_of_ble_eq_true rfl) rfl fl_X4_18 rfl rfl ?_
      refine g_iconst (v := 1) C dX4_giveLatest_47 rfl rfl ?_
      refine g_isub C dX4_giveLatest_48 rfl ?_
      refine nm_el hw (fun v408 ev408 hw => ?_)
      refine g_put (v' := .int v408) (ty := .int) (ci := 3) (gs' := [gPas cQ a b (v407, v408), gPar cI (b 0) (P 0), gPar cI (b 1) (P 1), gPar cI (b 2) (P 2), gPar cI (b 3) (P 3), gPar cI (b 4) (P 4), gPar cI (b 5) (P 5), gPar cI (b 6) (P 6), gPar cI (b 7) (P 7), gPar cI ao tov406]) C dX4_giveLatest_49 inw_X4 tyX4 tyX4_ok nmX4 rfl 0 0 2 rfl rfl (Nat.le_of_ble_eq_true rfl) rfl fl_X4_18 rfl fd_I (congrArg Value.int ev408.symm) rfl rfl (Nat.le_of_ble_eq_true rfl) rfl rfl ?_
      refine g_iconst (v := 1) C dX4_giveLatest_52 rfl rfl ?_
      exact hret 53 (1 : Int32) ((v407, v408), tov406) _ dX4_giveLatest_53 ⟨rfl, rfl⟩ hw
    | 4, _ =>
      refine g_aald (b := b 4 0) (f := fun k => some (b k 0)) C dX4_giveLatest_22 0 1 rfl rfl 1 rfl hi22 (by rw [hj22]) rfl ?_
      refine g_callVv (As := [.ref (b 4 0)]) (gr := [gPas cQ a b (hh_la, hh_sz), gPar cI (b 0) (P 0), gPar cI (b 1) (P 1), gPar cI (b 2) (P 2), gPar cI (b 3) (P 3), gPar cI (b 5) (P 5), gPar cI (b 6) (P 6), gPar cI (b 7) (P 7)]) C (c_X3_become l D cI cQ ao (b 4) to (P 4)  _) dX4_giveLatest_23 ⟨ml_X4_31, kV_X3_become⟩ ⟨Nat.le_of_ble_eq_true rfl, Nat.le_of_ble_eq_true rfl⟩ ⟨Nat.le_refl _, Nat.le_refl _⟩ rfl rfl 0 0 rfl rfl [9, 5, 0, 1, 2, 3, 4, 6, 7, 8] 10 rfl pmb_9_5_0_1_2_3_4_6_7_8 rfl rfl rfl (Nat.le_of_ble_eq_true rfl) rfl (fun (u : PT) => [gPas cQ a b (hh_la, hh_sz), gPar cI (b 0) (P 0), gPar cI (b 1) (P 1), gPar cI (b 2) (P 2), gPar cI (b 3) (P 3), gPar cI (b 4) (P 4), gPar cI (b 5) (P 5), gPar cI (b 6) (P 6), gPar cI (b 7) (P 7), gPar cI ao u]) [2, 3, 4, 5, 6, 1, 7, 8, 9, 0] 10 (fun _ => rfl) pmb_2_3_4_5_6_1_7_8_9_0 (fun _ => rfl) hw (fun u505 hw => ?_)
      obtain ⟨tov506, rfl⟩ : ∃ z, z = u505 := ⟨_, rfl⟩
      refine g_aload_n C dX4_giveLatest_26 0 rfl rfl ?_
      refine g_aload_n C dX4_giveLatest_27 0 rfl rfl ?_
      refine g_get (v := .int hh_la) (ci := 3) C dX4_giveLatest_28 inw_X4 rfl 0 0 1 rfl rfl (Nat.le_of_ble_eq_true rfl) rfl fl_X4_22 rfl rfl ?_
      refine g_bipush (v := 8) C dX4_giveLatest_31 (by decide) rfl ?_
      refine g_iadd C dX4_giveLatest_33 rfl ?_
      refine g_iconst (v := 1) C dX4_giveLatest_34 rfl rfl ?_
      refine g_isub C dX4_giveLatest_35 rfl ?_
      refine g_bipush (v := 8) C dX4_giveLatest_36 (by decide) rfl ?_
      refine g_irem C dX4_giveLatest_38 (by decide) rfl ?_
      refine nm_el hw (fun v507 ev507 hw => ?_)
      refine g_put (v' := .int v507) (ty := .int) (ci := 3) (gs' := [gPas cQ a b (v507, hh_sz), gPar cI (b 0) (P 0), gPar cI (b 1) (P 1), gPar cI (b 2) (P 2), gPar cI (b 3) (P 3), gPar cI (b 4) (P 4), gPar cI (b 5) (P 5), gPar cI (b 6) (P 6), gPar cI (b 7) (P 7), gPar cI ao tov506]) C dX4_giveLatest_39 inw_X4 tyX4 tyX4_ok nmX4 rfl 0 0 1 rfl rfl (Nat.le_of_ble_eq_true rfl) rfl fl_X4_22 rfl fd_I (congrArg Value.int ev507.symm) rfl rfl (Nat.le_of_ble_eq_true rfl) rfl rfl ?_
      refine g_aload_n C dX4_giveLatest_42 0 rfl rfl ?_
      refine g_dup C dX4_giveLatest_43 rfl rfl ?_
      refine g_get (v := .int hh_sz) (ci := 3) C dX4_giveLatest_44 inw_X4 rfl 0 0 2 rfl rfl (Nat.le_of_ble_eq_true rfl) rfl fl_X4_18 rfl rfl ?_
      refine g_iconst (v := 1) C dX4_giveLatest_47 rfl rfl ?_
      refine g_isub C dX4_giveLatest_48 rfl ?_
      refine nm_el hw (fun v508 ev508 hw => ?_)
      refine g_put (v' := .int v508) (ty := .int) (ci := 3) (gs' := [gPas cQ a b (v507, v508), gPar cI (b 0) (P 0), gPar cI (b 1) (P 1), gPar cI (b 2) (P 2), gPar cI (b 3) (P 3), gPar cI (b 4) (P 4), gPar cI (b 5) (P 5), gPar cI (b 6) (P 6), gPar cI (b 7) (P 7), gPar cI ao tov506]) C dX4_giveLatest_49 inw_X4 tyX4 tyX4_ok nmX4 rfl 0 0 2 rfl rfl (Nat.le_of_ble_eq_true rfl) rfl fl_X4_18 rfl fd_I (congrArg Value.int ev508.symm) rfl rfl (Nat.le_of_ble_eq_true rfl) rfl rfl ?_
      refine g_iconst (v := 1) C dX4_giveLatest_52 rfl rfl ?_
      exact hret 53 (1 : Int32) ((v507, v508), tov506) _ dX4_giveLatest_53 ⟨rfl, rfl⟩ hw
    | 5, _ =>
      refine g_aald (b := b 5 0) (f := fun k => some (b k 0)) C dX4_giveLatest_22 0 1 rfl rfl 1 rfl hi22 (by rw [hj22]) rfl ?_
      refine g_callVv (As := [.ref (b 5 0)]) (gr := [gPas cQ a b (hh_la, hh_sz), gPar cI (b 0) (P 0), gPar cI (b 1) (P 1), gPar cI (b 2) (P 2), gPar cI (b 3) (P 3), gPar cI (b 4) (P 4), gPar cI (b 6) (P 6), gPar cI (b 7) (P 7)]) C (c_X3_become l D cI cQ ao (b 5) to (P 5)  _) dX4_giveLatest_23 ⟨ml_X4_31, kV_X3_become⟩ ⟨Nat.le_of_ble_eq_true rfl, Nat.le_of_ble_eq_true rfl⟩ ⟨Nat.le_refl _, Nat.le_refl _⟩ rfl rfl 0 0 rfl rfl [9, 6, 0, 1, 2, 3, 4, 5, 7, 8] 10 rfl pmb_9_6_0_1_2_3_4_5_7_8 rfl rfl rfl (Nat.le_of_ble_eq_true rfl) rfl (fun (u : PT) => [gPas cQ a b (hh_la, hh_sz), gPar cI (b 0) (P 0), gPar cI (b 1) (P 1), gPar cI (b 2) (P 2), gPar cI (b 3) (P 3), gPar cI (b 4) (P 4), gPar cI (b 5) (P 5), gPar cI (b 6) (P 6), gPar cI (b 7) (P 7), gPar cI ao u]) [2, 3, 4, 5, 6, 7, 1, 8, 9, 0] 10 (fun _ => rfl) pmb_2_3_4_5_6_7_1_8_9_0 (fun _ => rfl) hw (fun u605 hw => ?_)
      obtain ⟨tov606, rfl⟩ : ∃ z, z = u605 := ⟨_, rfl⟩
      refine g_aload_n C dX4_giveLatest_26 0 rfl rfl ?_
      refine g_aload_n C dX4_giveLatest_27 0 rfl rfl ?_
      refine g_get (v := .int hh_la) (ci := 3) C dX4_giveLatest_28 inw_X4 rfl 0 0 1 rfl rfl (Nat.le_of_ble_eq_true rfl) rfl fl_X4_22 rfl rfl ?_
      refine g_bipush (v := 8) C dX4_giveLatest_31 (by decide) rfl ?_
      refine g_iadd C dX4_giveLatest_33 rfl ?_
      refine g_iconst (v := 1) C dX4_giveLatest_34 rfl rfl ?_
      refine g_isub C dX4_giveLatest_35 rfl ?_
      refine g_bipush (v := 8) C dX4_giveLatest_36 (by decide) rfl ?_
      refine g_irem C dX4_giveLatest_38 (by decide) rfl ?_
      refine nm_el hw (fun v607 ev607 hw => ?_)
      refine g_put (v' := .int v607) (ty := .int) (ci := 3) (gs' := [gPas cQ a b (v607, hh_sz), gPar cI (b 0) (P 0), gPar cI (b 1) (P 1), gPar cI (b 2) (P 2), gPar cI (b 3) (P 3), gPar cI (b 4) (P 4), gPar cI (b 5) (P 5), gPar cI (b 6) (P 6), gPar cI (b 7) (P 7), gPar cI ao tov606]) C dX4_giveLatest_39 inw_X4 tyX4 tyX4_ok nmX4 rfl 0 0 1 rfl rfl (Nat.le_of_ble_eq_true rfl) rfl fl_X4_22 rfl fd_I (congrArg Value.int ev607.symm) rfl rfl (Nat.le_of_ble_eq_true rfl) rfl rfl ?_
      refine g_aload_n C dX4_giveLatest_42 0 rfl rfl ?_
      refine g_dup C dX4_giveLatest_43 rfl rfl ?_
      refine g_get (v := .int hh_sz) (ci := 3) C dX4_giveLatest_44 inw_X4 rfl 0 0 2 rfl rfl (Nat.le_of_ble_eq_true rfl) rfl fl_X4_18 rfl rfl ?_
      refine g_iconst (v := 1) C dX4_giveLatest_47 rfl rfl ?_
      refine g_isub C dX4_giveLatest_48 rfl ?_
      refine nm_el hw (fun v608 ev608 hw => ?_)
      refine g_put (v' := .int v608) (ty := .int) (ci := 3) (gs' := [gPas cQ a b (v607, v608), gPar cI (b 0) (P 0), gPar cI (b 1) (P 1), gPar cI (b 2) (P 2), gPar cI (b 3) (P 3), gPar cI (b 4) (P 4), gPar cI (b 5) (P 5), gPar cI (b 6) (P 6), gPar cI (b 7) (P 7), gPar cI ao tov606]) C dX4_giveLatest_49 inw_X4 tyX4 tyX4_ok nmX4 rfl 0 0 2 rfl rfl (Nat.le_of_ble_eq_true rfl) rfl fl_X4_18 rfl fd_I (congrArg Value.int ev608.symm) rfl rfl (Nat.le_of_ble_eq_true rfl) rfl rfl ?_
      refine g_iconst (v := 1) C dX4_giveLatest_52 rfl rfl ?_
      exact hret 53 (1 : Int32) ((v607, v608), tov606) _ dX4_giveLatest_53 ⟨rfl, rfl⟩ hw
    | 6, _ =>
      refine g_aald (b := b 6 0) (f := fun k => some (b k 0)) C dX4_giveLatest_22 0 1 rfl rfl 1 rfl hi22 (by rw [hj22]) rfl ?_
      refine g_callVv (As := [.ref (b 6 0)]) (gr := [gPas cQ a b (hh_la, hh_sz), gPar cI (b 0) (P 0), gPar cI (b 1) (P 1), gPar cI (b 2) (P 2), gPar cI (b 3) (P 3), gPar cI (b 4) (P 4), gPar cI (b 5) (P 5), gPar cI (b 7) (P 7)]) C (c_X3_become l D cI cQ ao (b 6) to (P 6)  _) dX4_giveLatest_23 ⟨ml_X4_31, kV_X3_become⟩ ⟨Nat.le_of_ble_eq_true rfl, Nat.le_of_ble_eq_true rfl⟩ ⟨Nat.le_refl _, Nat.le_refl _⟩ rfl rfl 0 0 rfl rfl [9, 7, 0, 1, 2, 3, 4, 5, 6, 8] 10 rfl pmb_9_7_0_1_2_3_4_5_6_8 rfl rfl rfl (Nat.le_of_ble_eq_true rfl) rfl (fun (u : PT) => [gPas cQ a b (hh_la, hh_sz), gPar cI (b 0) (P 0), gPar cI (b 1) (P 1), gPar cI (b 2) (P 2), gPar cI (b 3) (P 3), gPar cI (b 4) (P 4), gPar cI (b 5) (P 5), gPar cI (b 6) (P 6), gPar cI (b 7) (P 7), gPar cI ao u]) [2, 3, 4, 5, 6, 7, 8, 1, 9, 0] 10 (fun _ => rfl) pmb_2_3_4_5_6_7_8_1_9_0 (fun _ => rfl) hw (fun u705 hw => ?_)
      obtain ⟨tov706, rfl⟩ : ∃ z, z = u705 := ⟨_, rfl⟩
      refine g_aload_n C dX4_giveLatest_26 0 rfl rfl ?_
      refine g_aload_n C dX4_giveLatest_27 0 rfl rfl ?_
      refine g_get (v := .int hh_la) (ci := 3) C dX4_giveLatest_28 inw_X4 rfl 0 0 1 rfl rfl (Nat.le_of_ble_eq_true rfl) rfl fl_X4_22 rfl rfl ?_
      refine g_bipush (v := 8) C dX4_giveLatest_31 (by decide) rfl ?_
      refine g_iadd C dX4_giveLatest_33 rfl ?_
      refine g_iconst (v := 1) C dX4_giveLatest_34 rfl rfl ?_
      refine g_isub C dX4_giveLatest_35 rfl ?_
      refine g_bipush (v := 8) C dX4_giveLatest_36 (by decide) rfl ?_
      refine g_irem C dX4_giveLatest_38 (by decide) rfl ?_
      refine nm_el hw (fun v707 ev707 hw => ?_)
      refine g_put (v' := .int v707) (ty := .int) (ci := 3) (gs' := [gPas cQ a b (v707, hh_sz), gPar cI (b 0) (P 0), gPar cI (b 1) (P 1), gPar cI (b 2) (P 2), gPar cI (b 3) (P 3), gPar cI (b 4) (P 4), gPar cI (b 5) (P 5), gPar cI (b 6) (P 6), gPar cI (b 7) (P 7), gPar cI ao tov706]) C dX4_giveLatest_39 inw_X4 tyX4 tyX4_ok nmX4 rfl 0 0 1 rfl rfl (Nat.le_of_ble_eq_true rfl) rfl fl_X4_22 rfl fd_I (congrArg Value.int ev707.symm) rfl rfl (Nat.le_of_ble_eq_true rfl) rfl rfl ?_
      refine g_aload_n C dX4_giveLatest_42 0 rfl rfl ?_
      refine g_dup C dX4_giveLatest_43 rfl rfl ?_
      refine g_get (v := .int hh_sz) (ci := 3) C dX4_giveLatest_44 inw_X4 rfl 0 0 2 rfl rfl (Nat.le_of_ble_eq_true rfl) rfl fl_X4_18 rfl rfl ?_
      refine g_iconst (v := 1) C dX4_giveLatest_47 rfl rfl ?_
      refine g_isub C dX4_giveLatest_48 rfl ?_
      refine nm_el hw (fun v708 ev708 hw => ?_)
      refine g_put (v' := .int v708) (ty := .int) (ci := 3) (gs' := [gPas cQ a b (v707, v708), gPar cI (b 0) (P 0), gPar cI (b 1) (P 1), gPar cI (b 2) (P 2), gPar cI (b 3) (P 3), gPar cI (b 4) (P 4), gPar cI (b 5) (P 5), gPar cI (b 6) (P 6), gPar cI (b 7) (P 7), gPar cI ao tov706]) C dX4_giveLatest_49 inw_X4 tyX4 tyX4_ok nmX4 rfl 0 0 2 rfl rfl (Nat.le_of_ble_eq_true rfl) rfl fl_X4_18 rfl fd_I (congrArg Value.int ev708.symm) rfl rfl (Nat.le_of_ble_eq_true rfl) rfl rfl ?_
      refine g_iconst (v := 1) C dX4_giveLatest_52 rfl rfl ?_
      exact hret 53 (1 : Int32) ((v707, v708), tov706) _ dX4_giveLatest_53 ⟨rfl, rfl⟩ hw
    | 7, _ =>
      refine g_aald (b := b 7 0) (f := fun k => some (b k 0)) C dX4_giveLatest_22 0 1 rfl rfl 1 rfl hi22 (by rw [hj22]) rfl ?_
      refine g_callVv (As := [.ref (b 7 0)]) (gr := [gPas cQ a b (hh_la, hh_sz), gPar cI (b 0) (P 0), gPar cI (b 1) (P 1), gPar cI (b 2) (P 2), gPar cI (b 3) (P 3), gPar cI (b 4) (P 4), gPar cI (b 5) (P 5), gPar cI (b 6) (P 6)]) C (c_X3_become l D cI cQ ao (b 7) to (P 7)  _) dX4_giveLatest_23 ⟨ml_X4_31, kV_X3_become⟩ ⟨Nat.le_of_ble_eq_true rfl, Nat.le_of_ble_eq_true rfl⟩ ⟨Nat.le_refl _, Nat.le_refl _⟩ rfl rfl 0 0 rfl rfl [9, 8, 0, 1, 2, 3, 4, 5, 6, 7] 10 rfl pmb_9_8_0_1_2_3_4_5_6_7 rfl rfl rfl (Nat.le_of_ble_eq_true rfl) rfl (fun (u : PT) => [gPas cQ a b (hh_la, hh_sz), gPar cI (b 0) (P 0), gPar cI (b 1) (P 1), gPar cI (b 2) (P 2), gPar cI (b 3) (P 3), gPar cI (b 4) (P 4), gPar cI (b 5) (P 5), gPar cI (b 6) (P 6), gPar cI (b 7) (P 7), gPar cI ao u]) [2, 3, 4, 5, 6, 7, 8, 9, 1, 0] 10 (fun _ => rfl) pmb_2_3_4_5_6_7_8_9_1_0 (fun _ => rfl) hw (fun u805 hw => ?_)
      obtain ⟨tov806, rfl⟩ : ∃ z, z = u805 := ⟨_, rfl⟩
      refine g_aload_n C dX4_giveLatest_26 0 rfl rfl ?_
      refine g_aload_n C dX4_giveLatest_27 0 rfl rfl ?_
      refine g_get (v := .int hh_la) (ci := 3) C dX4_giveLatest_28 inw_X4 rfl 0 0 1 rfl rfl (Nat.le_of_ble_eq_true rfl) rfl fl_X4_22 rfl rfl ?_
      refine g_bipush (v := 8) C dX4_giveLatest_31 (by decide) rfl ?_
      refine g_iadd C dX4_giveLatest_33 rfl ?_
      refine g_iconst (v := 1) C dX4_giveLatest_34 rfl rfl ?_
      refine g_isub C dX4_giveLatest_35 rfl ?_
      refine g_bipush (v := 8) C dX4_giveLatest_36 (by decide) rfl ?_
      refine g_irem C dX4_giveLatest_38 (by decide) rfl ?_
      refine nm_el hw (fun v807 ev807 hw => ?_)
      refine g_put (v' := .int v807) (ty := .int) (ci := 3) (gs' := [gPas cQ a b (v807, hh_sz), gPar cI (b 0) (P 0), gPar cI (b 1) (P 1), gPar cI (b 2) (P 2), gPar cI (b 3) (P 3), gPar cI (b 4) (P 4), gPar cI (b 5) (P 5), gPar cI (b 6) (P 6), gPar cI (b 7) (P 7), gPar cI ao tov806]) C dX4_giveLatest_39 inw_X4 tyX4 tyX4_ok nmX4 rfl 0 0 1 rfl rfl (Nat.le_of_ble_eq_true rfl) rfl fl_X4_22 rfl fd_I (congrArg Value.int ev807.symm) rfl rfl (Nat.le_of_ble_eq_true rfl) rfl rfl ?_
      refine g_aload_n C dX4_giveLatest_42 0 rfl rfl ?_
      refine g_dup C dX4_giveLatest_43 rfl rfl ?_
      refine g_get (v := .int hh_sz) (ci := 3) C dX4_giveLatest_44 inw_X4 rfl 0 0 2 rfl rfl (Nat.le_of_ble_eq_true rfl) rfl fl_X4_18 rfl rfl ?_
      refine g_iconst (v := 1) C dX4_giveLatest_47 rfl rfl ?_
      refine g_isub C dX4_giveLatest_48 rfl ?_
      refine nm_el hw (fun v808 ev808 hw => ?_)
      refine g_put (v' := .int v808) (ty := .int) (ci := 3) (gs' := [gPas cQ a b (v807, v808), gPar cI (b 0) (P 0), gPar cI (b 1) (P 1), gPar cI (b 2) (P 2), gPar cI (b 3) (P 3), gPar cI (b 4) (P 4), gPar cI (b 5) (P 5), gPar cI (b 6) (P 6), gPar cI (b 7) (P 7), gPar cI ao tov806]) C dX4_giveLatest_49 inw_X4 tyX4 tyX4_ok nmX4 rfl 0 0 2 rfl rfl (Nat.le_of_ble_eq_true rfl) rfl fl_X4_18 rfl fd_I (congrArg Value.int ev808.symm) rfl rfl (Nat.le_of_ble_eq_true rfl) rfl rfl ?_
      refine g_iconst (v := 1) C dX4_giveLatest_52 rfl rfl ?_
      exact hret 53 (1 : Int32) ((v807, v808), tov806) _ dX4_giveLatest_53 ⟨rfl, rfl⟩ hw
set_option maxRecDepth 100000 in
theorem c_X4_giveLatest (l : Launch) (D : va_G) (cI cQ : ClassId) (a : Nat → Nat) (b : Nat → Nat → Nat) (ao : Nat → Nat) (hh : HT) (P : (Nat → PT)) (to : PT) (post : Int32 → HT × PT → Prop) (sz : Nat) : Met l yX4_giveLatest (wsY yX4_giveLatest cX4_giveLatest 2 (some .boolean)) (rmL 2 0 0 61) (xP D (tyL cI cQ) [.ref (a 0), .ref (ao 0)] [gPas cQ a b hh, gPar cI (b 0) (P 0), gPar cI (b 1) (P 1), gPar cI (b 2) (P 2), gPar cI (b 3) (P 3), gPar cI (b 4) (P 4), gPar cI (b 5) (P 5), gPar cI (b 6) (P 6), gPar cI (b 7) (P 7), gPar cI ao to] sz (p_X4_giveLatest hh P to post)) (xQi D (tyL cI cQ) post (fun (u : HT × PT) => [gPas cQ a b u.1, gPar cI (b 0) (P 0), gPar cI (b 1) (P 1), gPar cI (b 2) (P 2), gPar cI (b 3) (P 3), gPar cI (b 4) (P 4), gPar cI (b 5) (P 5), gPar cI (b 6) (P 6), gPar cI (b 7) (P 7), gPar cI ao u.2]) (va_A [gPas cQ a b hh, gPar cI (b 0) (P 0), gPar cI (b 1) (P 1), gPar cI (b 2) (P 2), gPar cI (b 3) (P 3), gPar cI (b 4) (P 4), gPar cI (b 5) (P 5), gPar cI (b 6) (P 6), gPar cI (b 7) (P 7), gPar cI ao to].flatten sz)) 0 0 (va_A [gPas cQ a b hh, gPar cI (b 0) (P 0), gPar cI (b 1) (P 1), gPar cI (b 2) (P 2), gPar cI (b 3) (P 3), gPar cI (b 4) (P 4), gPar cI (b 5) (P 5), gPar cI (b 6) (P 6), gPar cI (b 7) (P 7), gPar cI ao to].flatten sz) :=
  Met_z pn_X4 (Nat.le_of_ble_eq_true rfl) (fun p e s mi below meth co A Q _ C hret hw => w_X4_giveLatest a b ao hh P to C hret hw)
theorem kV_X4_giveLatest : Cond.instanceMethod yX4_giveLatest ∈ gTbl ∧ Cond.selects yX4_giveLatest.cls yX4_giveLatest yX4_giveLatest ∈ gTbl ∧ Cond.initialized yX4_giveLatest.cls ∈ gTbl ∧ Cond.code yX4_giveLatest cX4_giveLatest 2 (some .boolean) ∈ gTbl ∧ (yX4_giveLatest.cls ≠ "java/lang/invoke/MethodHandle" ∧ yX4_giveLatest.cls ≠ "java/lang/invoke/VarHandle" ∧ (parseMethodDescriptor yX4_giveLatest.desc).map (fun d => d.parameters.length) = some 1) := ⟨im_X4_giveLatest, sl_X4_giveLatest, in_X4, cd_X4_giveLatest, (by decide +kernel)⟩
set_option maxRecDepth 100000 in
def p_X5_outside (p1 : Int32) (p2 : Int32) (p3 : Int32) (post : Int32 → Prop) : Prop := ((p2 ≤ p1 → ((p1 ≤ p3 → post (0 : Int32)) ∧ (¬ p1 ≤ p3 → post (-6 : Int32)))) ∧ (¬ p2 ≤ p1 → post (-4 : Int32)))
set_option maxHeartbeats 4000000 in
set_option maxRecDepth 100000 in
theorem w_X5_outside {p : Program} {l : Launch} {e : Env} {s : State} {mi : MethodId} {args : Array Value} {below : List Frame} {meth : Method} {co : Code} {D : va_G} {cI cQ : ClassId} {A : Nat → Prop} {Q : State → Prop} (p1 : Int32) (p2 : Int32) (p3 : Int32) {post : Int32 → Prop} (C : xC p s mi args co cX5_outside RX5 3 D (tyL cI cQ) A) (hret : ∀ (pc : Nat) (r : Int32) (u : Unit) (lv : List (Nat × Value)), decode cX5_outside pc = .ok (.ireturn, 1) → post r → xG p l e (rmL 0 0 0 0) s mi args below meth co D A 3 Q 0 0 pc [.int r] [] lv) (hw : p_X5_outside p1 p2 p3 post) : xG p l e (rmL 0 0 0 0) s mi args below meth co D A 3 Q 0 0 0 [] [] [(0, .int p1), (1, .int p2), (2, .int p3)] := by
  unfold p_X5_outside at hw
  try dsimp only at hw
  show xG p l e (rmL 0 0 0 0) s mi args below meth co D A 3 Q 0 0 0 [] [] [(0, .int p1), (1, .int p2), (2, .int p3)]
  refine g_iload_n C dX5_outside_0 0 rfl rfl ?_
  refine g_iload_n C dX5_outside_1 1 rfl rfl ?_
  refine g_icmp_ge (tgt := 8) C dX5_outside_2 (by decide) rfl hw (fun _ hw => ?_) (fun _ hw => ?_)
  · refine g_iload_n C dX5_outside_8 0 rfl rfl ?_
    refine g_iload_n C dX5_outside_9 2 rfl rfl ?_
    refine g_icmp_le (tgt := 18) C dX5_outside_10 (by decide) rfl hw (fun _ hw => ?_) (fun _ hw => ?_)
    · refine g_iconst (v := 0) C dX5_outside_18 rfl rfl ?_
      exact hret 19 (0 : Int32) () _ dX5_outside_19 hw
    · refine g_bipush (v := -6) C dX5_outside_13 (by decide) rfl ?_
      refine g_goto (pc' := 19) C dX5_outside_15 (by decide) rfl ?_
      exact hret 19 (-6 : Int32) () _ dX5_outside_19 hw
  · refine g_bipush (v := -4) C dX5_outside_5 (by decide) rfl ?_
    exact hret 7 (-4 : Int32) () _ dX5_outside_7 hw
set_option maxRecDepth 100000 in
theorem c_X5_outside (l : Launch) (D : va_G) (cI cQ : ClassId) (p1 : Int32) (p2 : Int32) (p3 : Int32) (post : Int32 → Prop) (sz : Nat) : Met l yX5_outside (wsY yX5_outside cX5_outside 3 (some .int)) (rmL 0 0 0 0) (xP D (tyL cI cQ) [.int p1, .int p2, .int p3] [] sz (p_X5_outside p1 p2 p3 post)) (xQi D (tyL cI cQ) (fun (r : Int32) (_ : Unit) => post r) (fun (u : Unit) => []) (va_A [].flatten sz)) 0 0 (va_A [].flatten sz) :=
  Met_i pn_X5 (Nat.le_of_ble_eq_true rfl) (fun p e s mi below meth co A Q _ C hret hw => w_X5_outside p1 p2 p3 C hret hw)
theorem kS_X5_outside : Cond.static yX5_outside ∈ gTbl ∧ Cond.initialized yX5_outside.cls ∈ gTbl ∧ Cond.code yX5_outside cX5_outside 3 (some .int) ∈ gTbl ∧ (yX5_outside.cls ≠ "java/lang/invoke/MethodHandle" ∧ yX5_outside.cls ≠ "java/lang/invoke/VarHandle" ∧ (parseMethodDescriptor yX5_outside.desc).map (fun d => d.parameters.length) = some 3) := ⟨sm_X5_outside, in_X5, cd_X5_outside, (by decide +kernel)⟩
set_option maxRecDepth 100000 in
def p_X5_refuse (rf : F1) (p1 : Int32) (post : Int32 → F1 → Prop) : Prop := (((0 : Int32) ≤ p1 → post p1 rf) ∧ (¬ (0 : Int32) ≤ p1 → ((p1 < (-6 : Int32) → post p1 rf) ∧ (¬ p1 < (-6 : Int32) → (vp_in (-p1) 7 ∧ (vp_in (-p1) 7 ∧ nm (upd rf ((-p1)).toNatClampNeg ((rf ((-p1)).toNatClampNeg) + (1 : Int32))) (fun (rfv1 : F1) => post p1 rfv1)))))))
set_option maxHeartbeats 4000000 in
set_option maxRecDepth 100000 in
theorem w_X5_refuse {p : Program} {l : Launch} {e : Env} {s : State} {mi : MethodId} {args : Array Value} {below : List Frame} {meth : Method} {co : Code} {D : va_G} {cI cQ : ClassId} {A : Nat → Prop} {Q : State → Prop} (x : Nat) (an : Nat → Nat) (am : Nat → Nat) (aq : Nat → Nat) (ap : Nat → Nat) (b : Nat → Nat → Nat) (al : Nat → Nat) (au : Nat → Nat) (re : Nat) (pq : Int32) (rf : F1) (p1 : Int32) {post : Int32 → F1 → Prop} (C : xC p s mi args co cX5_refuse RX5 2 D (tyL cI cQ) A) (hret : ∀ (pc : Nat) (r : Int32) (u : F1) (lv : List (Nat × Value)), decode cX5_refuse pc = .ok (.ireturn, 1) → post r u → xG p l e (rmL 0 0 0 0) s mi args below meth co D A 2 Q 0 0 pc [.int r] [gObj x an am aq ap al au re pq, gA cI re 7 u] lv) (hw : p_X5_refuse rf p1 post) : xG p l e (rmL 0 0 0 0) s mi args below meth co D A 2 Q 0 0 0 [] [gObj x an am aq ap al au re pq, gA cI re 7 rf] [(0, .ref x), (1, .int p1)] := by
  unfold p_X5_refuse at hw
  try dsimp only at hw
  show xG p l e (rmL 0 0 0 0) s mi args below meth co D A 2 Q 0 0 0 [] [gObj x an am aq ap al au re pq, gA cI re 7 rf] [(0, .ref x), (1, .int p1)]
  refine g_iload_n C dX5_refuse_0 1 rfl rfl ?_
  refine g_if_ge (tgt := 21) C dX5_refuse_1 (by decide) rfl hw (fun _ hw => ?_) (fun _ hw => ?_)
  · refine g_iload_n C dX5_refuse_21 1 rfl rfl ?_
    exact hret 22 p1 rf _ dX5_refuse_22 hw
  · refine g_iload_n C dX5_refuse_4 1 rfl rfl ?_
    refine g_bipush (v := -6) C dX5_refuse_5 (by decide) rfl ?_
    refine g_icmp_lt (tgt := 21) C dX5_refuse_7 (by decide) rfl hw (fun _ hw => ?_) (fun _ hw => ?_)
    · refine g_iload_n C dX5_refuse_21 1 rfl rfl ?_
      exact hret 22 p1 rf _ dX5_refuse_22 hw
    · refine g_aload_n C dX5_refuse_10 0 rfl rfl ?_
      refine g_get (v := .ref re) (ci := 4) C dX5_refuse_11 inw_X5 rfl 0 0 6 rfl rfl (Nat.le_of_ble_eq_true rfl) rfl fl_X5_43 rfl rfl ?_
      refine g_iload_n C dX5_refuse_14 1 rfl rfl ?_
      refine g_ineg C dX5_refuse_15 rfl ?_
      refine g_dup2 C dX5_refuse_16 rfl rfl rfl ?_
      have hi17 := hw.1
      replace hw := hw.2
      refine g_iald (f := rf) C dX5_refuse_17 1 0 rfl rfl 0 rfl hi17 rfl ?_
      refine g_iconst (v := 1) C dX5_refuse_18 rfl rfl ?_
      refine g_iadd C dX5_refuse_19 rfl ?_
      have hi20 := hw.1
      refine nm_el hw.2 (fun rfv1 erfv1 hw => ?_)
      refine g_iast (f := rf) (f' := rfv1) (gs' := [gObj x an am aq ap al au re pq, gA cI re 7 rfv1]) C dX5_refuse_20 1 0 rfl rfl 0 rfl hi20 erfv1.symm rfl rfl ?_
      refine g_iload_n C dX5_refuse_21 1 rfl rfl ?_
      exact hret 22 p1 rfv1 _ dX5_refuse_22 hw
set_option maxRecDepth 100000 in
theorem c_X5_refuse (l : Launch) (D : va_G) (cI cQ : ClassId) (x : Nat) (an : Nat → Nat) (am : Nat → Nat) (aq : Nat → Nat) (ap : Nat → Nat) (b : Nat → Nat → Nat) (al : Nat → Nat) (au : Nat → Nat) (re : Nat) (pq : Int32) (rf : F1) (p1 : Int32) (post : Int32 → F1 → Prop) (sz : Nat) : Met l yX5_refuse (wsY yX5_refuse cX5_refuse 2 (some .int)) (rmL 0 0 0 0) (xP D (tyL cI cQ) [.ref x, .int p1] [gObj x an am aq ap al au re pq, gA cI re 7 rf] sz (p_X5_refuse rf p1 post)) (xQi D (tyL cI cQ) post (fun (u : F1) => [gObj x an am aq ap al au re pq, gA cI re 7 u]) (va_A [gObj x an am aq ap al au re pq, gA cI re 7 rf].flatten sz)) 0 0 (va_A [gObj x an am aq ap al au re pq, gA cI re 7 rf].flatten sz) :=
  Met_i pn_X5 (Nat.le_of_ble_eq_true rfl) (fun p e s mi below meth co A Q _ C hret hw => w_X5_refuse x an am aq ap b al au re pq rf p1 C hret hw)
theorem kV_X5_refuse : Cond.instanceMethod yX5_refuse ∈ gTbl ∧ Cond.selects yX5_refuse.cls yX5_refuse yX5_refuse ∈ gTbl ∧ Cond.initialized yX5_refuse.cls ∈ gTbl ∧ Cond.code yX5_refuse cX5_refuse 2 (some .int) ∈ gTbl ∧ (yX5_refuse.cls ≠ "java/lang/invoke/MethodHandle" ∧ yX5_refuse.cls ≠ "java/lang/invoke/VarHandle" ∧ (parseMethodDescriptor yX5_refuse.desc).map (fun d => d.parameters.length) = some 1) := ⟨im_X5_refuse, sl_X5_refuse, in_X5, cd_X5_refuse, (by decide +kernel)⟩
set_option maxRecDepth 100000 in
def p_X5_feed (le : LT) (rf : F1) (p1 : Int32) (post : Int32 → LT × F1 → Prop) : Prop := p_X5_outside p1 (0 : Int32) (255 : Int32) (fun (r1 : Int32) => ((r1 = 0 → p_X1_add le p1 (fun (r2 : Int32) (u2 : LT) => (fun (lev3 : LT) => ((r2 = 0 → p_X5_refuse rf (-6 : Int32) (fun (r5 : Int32) (u5 : F1) => (fun (rfv6 : F1) => post r5 (lev3, rfv6)) u5)) ∧ (¬ r2 = 0 → p_X1_size lev3 (fun (r4 : Int32) => post r4 (lev3, rf))))) u2)) ∧ (¬ r1 = 0 → p_X5_refuse rf r1 (fun (r7 : Int32) (u7 : F1) => (fun (rfv8 : F1) => post r7 (le, rfv8)) u7))))
set_option maxHeartbeats 4000000 in
set_option maxRecDepth 100000 in
theorem w_X5_feed {p : Program} {l : Launch} {e : Env} {s : State} {mi : MethodId} {args : Array Value} {below : List Frame} {meth : Method} {co : Code} {D : va_G} {cI cQ : ClassId} {A : Nat → Prop} {Q : State → Prop} (x : Nat) (an : Nat → Nat) (am : Nat → Nat) (aq : Nat → Nat) (ap : Nat → Nat) (b : Nat → Nat → Nat) (al : Nat → Nat) (au : Nat → Nat) (re : Nat) (pq : Int32) (le : LT) (rf : F1) (p1 : Int32) {post : Int32 → LT × F1 → Prop} (C : xC p s mi args co cX5_feed RX5 3 D (tyL cI cQ) A) (hret : ∀ (pc : Nat) (r : Int32) (u : LT × F1) (lv : List (Nat × Value)), decode cX5_feed pc = .ok (.ireturn, 1) → post r u → xG p l e (rmL 1 0 0 22) s mi args below meth co D A 3 Q 0 0 pc [.int r] [gObj x an am aq ap al au re pq, gLet cI al u.1, gA cI re 7 u.2] lv) (hw : p_X5_feed le rf p1 post) : xG p l e (rmL 1 0 0 22) s mi args below meth co D A 3 Q 0 0 0 [] [gObj x an am aq ap al au re pq, gLet cI al le, gA cI re 7 rf] [(0, .ref x), (1, .int p1)] := by
  unfold p_X5_feed at hw
  try dsimp only at hw
  show xG p l e (rmL 1 0 0 22) s mi args below meth co D A 3 Q 0 0 0 [] [gObj x an am aq ap al au re pq, gLet cI al le, gA cI re 7 rf] [(0, .ref x), (1, .int p1)]
  refine g_iload_n C dX5_feed_0 1 rfl rfl ?_
  refine g_iconst (v := 0) C dX5_feed_1 rfl rfl ?_
  refine g_sipush (v := 255) C dX5_feed_2 (by decide) rfl ?_
  refine g_callSi (As := [.int p1, .int (0 : Int32), .int (255 : Int32)]) (gr := [gObj x an am aq ap al au re pq, gLet cI al le, gA cI re 7 rf]) C (c_X5_outside l D cI cQ   p1 (0 : Int32) (255 : Int32) _) dX5_feed_5 ⟨ml_X5_47, kS_X5_outside⟩ ⟨Nat.le_of_ble_eq_true rfl, Nat.le_of_ble_eq_true rfl⟩ ⟨Nat.le_refl _, Nat.le_refl _⟩ [0, 1, 2] 3 rfl pmb_0_1_2 rfl rfl rfl (Nat.le_of_ble_eq_true rfl) rfl (fun (u : Unit) => [gObj x an am aq ap al au re pq, gLet cI al le, gA cI re 7 rf]) [0, 1, 2] 3 (fun _ => rfl) pmb_0_1_2 (fun _ => rfl) hw (fun r1 u1 hw => ?_)
  refine g_istore_n (v := r1) C dX5_feed_8 rfl (Nat.le_of_ble_eq_true rfl) (lv' := [(2, .int r1), (0, .ref x), (1, .int p1)]) rfl rfl ?_
  refine g_iload_n C dX5_feed_9 0 rfl rfl ?_
  refine g_if_eq (tgt := 19) C dX5_feed_10 (by decide) rfl hw (fun _ hw => ?_) (fun _ hw => ?_)
  · refine g_aload_n C dX5_feed_19 1 rfl rfl ?_
    refine g_get (v := .ref (al 0)) (ci := 4) C dX5_feed_20 inw_X5 rfl 0 0 4 rfl rfl (Nat.le_of_ble_eq_true rfl) rfl fl_X5_32 rfl rfl ?_
    refine g_iload_n C dX5_feed_23 2 rfl rfl ?_
    refine g_callVi (As := [.int p1]) (gr := [gObj x an am aq ap al au re pq, gA cI re 7 rf]) C (c_X1_add l D cI cQ al le p1 _) dX5_feed_24 ⟨ml_X5_55, kV_X1_add⟩ ⟨Nat.le_of_ble_eq_true rfl, Nat.le_of_ble_eq_true rfl⟩ ⟨Nat.le_refl _, Nat.le_refl _⟩ rfl rfl 0 0 rfl rfl [1, 0, 2] 3 rfl pmb_1_0_2 rfl rfl rfl (Nat.le_of_ble_eq_true rfl) rfl (fun (u : LT) => [gObj x an am aq ap al au re pq, gLet cI al u, gA cI re 7 rf]) [1, 0, 2] 3 (fun _ => rfl) pmb_1_0_2 (fun _ => rfl) hw (fun r2 u2 hw => ?_)
    obtain ⟨lev3, rfl⟩ : ∃ z, z = u2 := ⟨_, rfl⟩
    refine g_if_ne (tgt := 37) C dX5_feed_27 (by decide) rfl hw (fun _ hw => ?_) (fun _ hw => ?_)
    · refine g_aload_n C dX5_feed_37 1 rfl rfl ?_
      refine g_get (v := .ref (al 0)) (ci := 4) C dX5_feed_38 inw_X5 rfl 0 0 4 rfl rfl (Nat.le_of_ble_eq_true rfl) rfl fl_X5_32 rfl rfl ?_
      refine g_callVi (As := []) (gr := [gObj x an am aq ap al au re pq, gA cI re 7 rf]) C (c_X1_size l D cI cQ al lev3  _) dX5_feed_41 ⟨ml_X5_59, kV_X1_size⟩ ⟨Nat.le_of_ble_eq_true rfl, Nat.le_of_ble_eq_true rfl⟩ ⟨Nat.le_refl _, Nat.le_refl _⟩ rfl rfl 0 0 rfl rfl [1, 0, 2] 3 rfl pmb_1_0_2 rfl rfl rfl (Nat.le_of_ble_eq_true rfl) rfl (fun (u : Unit) => [gObj x an am aq ap al au re pq, gLet cI al lev3, gA cI re 7 rf]) [1, 0, 2] 3 (fun _ => rfl) pmb_1_0_2 (fun _ => rfl) hw (fun r4 u4 hw => ?_)
      exact hret 44 r4 (lev3, rf) _ dX5_feed_44 hw
    · refine g_aload_n C dX5_feed_30 1 rfl rfl ?_
      refine g_bipush (v := -6) C dX5_feed_31 (by decide) rfl ?_
      refine g_callVi (As := [.int (-6 : Int32)]) (gr := [gLet cI al lev3]) C (c_X5_refuse l D cI cQ x an am aq ap b al au re pq rf (-6 : Int32) _) dX5_feed_33 ⟨ml_X5_51, kV_X5_refuse⟩ ⟨Nat.le_of_ble_eq_true rfl, Nat.le_of_ble_eq_true rfl⟩ ⟨Nat.le_refl _, Nat.le_refl _⟩ rfl rfl 0 0 rfl rfl [0, 2, 1] 3 rfl pmb_0_2_1 rfl rfl rfl (Nat.le_of_ble_eq_true rfl) rfl (fun (u : F1) => [gObj x an am aq ap al au re pq, gLet cI al lev3, gA cI re 7 u]) [0, 2, 1] 3 (fun _ => rfl) pmb_0_2_1 (fun _ => rfl) hw (fun r5 u5 hw => ?_)
      obtain ⟨rfv6, rfl⟩ : ∃ z, z = u5 := ⟨_, rfl⟩
      exact hret 36 r5 (lev3, rfv6) _ dX5_feed_36 hw
  · refine g_aload_n C dX5_feed_13 1 rfl rfl ?_
    refine g_iload_n C dX5_feed_14 0 rfl rfl ?_
    refine g_callVi (As := [.int r1]) (gr := [gLet cI al le]) C (c_X5_refuse l D cI cQ x an am aq ap b al au re pq rf r1 _) dX5_feed_15 ⟨ml_X5_51, kV_X5_refuse⟩ ⟨Nat.le_of_ble_eq_true rfl, Nat.le_of_ble_eq_true rfl⟩ ⟨Nat.le_refl _, Nat.le_refl _⟩ rfl rfl 0 0 rfl rfl [0, 2, 1] 3 rfl pmb_0_2_1 rfl rfl rfl (Nat.le_of_ble_eq_true rfl) rfl (fun (u : F1) => [gObj x an am aq ap al au re pq, gLet cI al le, gA cI re 7 u]) [0, 2, 1] 3 (fun _ => rfl) pmb_0_2_1 (fun _ => rfl) hw (fun r7 u7 hw => ?_)
    obtain ⟨rfv8, rfl⟩ : ∃ z, z = u7 := ⟨_, rfl⟩
    exact hret 18 r7 (le, rfv8) _ dX5_feed_18 hw
set_option maxRecDepth 100000 in
theorem c_X5_feed (l : Launch) (D : va_G) (cI cQ : ClassId) (x : Nat) (an : Nat → Nat) (am : Nat → Nat) (aq : Nat → Nat) (ap : Nat → Nat) (b : Nat → Nat → Nat) (al : Nat → Nat) (au : Nat → Nat) (re : Nat) (pq : Int32) (le : LT) (rf : F1) (p1 : Int32) (post : Int32 → LT × F1 → Prop) (sz : Nat) : Met l yX5_feed (wsY yX5_feed cX5_feed 3 (some .int)) (rmL 1 0 0 22) (xP D (tyL cI cQ) [.ref x, .int p1] [gObj x an am aq ap al au re pq, gLet cI al le, gA cI re 7 rf] sz (p_X5_feed le rf p1 post)) (xQi D (tyL cI cQ) post (fun (u : LT × F1) => [gObj x an am aq ap al au re pq, gLet cI al u.1, gA cI re 7 u.2]) (va_A [gObj x an am aq ap al au re pq, gLet cI al le, gA cI re 7 rf].flatten sz)) 0 0 (va_A [gObj x an am aq ap al au re pq, gLet cI al le, gA cI re 7 rf].flatten sz) :=
  Met_i pn_X5 (Nat.le_of_ble_eq_true rfl) (fun p e s mi below meth co A Q _ C hret hw => w_X5_feed x an am aq ap b al au re pq le rf p1 C hret hw)
theorem kV_X5_feed : Cond.instanceMethod yX5_feed ∈ gTbl ∧ Cond.selects yX5_feed.cls yX5_feed yX5_feed ∈ gTbl ∧ Cond.initialized yX5_feed.cls ∈ gTbl ∧ Cond.code yX5_feed cX5_feed 3 (some .int) ∈ gTbl ∧ (yX5_feed.cls ≠ "java/lang/invoke/MethodHandle" ∧ yX5_feed.cls ≠ "java/lang/invoke/VarHandle" ∧ (parseMethodDescriptor yX5_feed.desc).map (fun d => d.parameters.length) = some 1) := ⟨im_X5_feed, sl_X5_feed, in_X5, cd_X5_feed, (by decide +kernel)⟩
set_option maxRecDepth 100000 in
def p_X5_think (n : PT) (m : PT) (post : PT → Prop) : Prop := p_X3_become m n (fun (u1 : PT) => (fun (mv2 : PT) => post mv2) u1)
set_option maxHeartbeats 4000000 in
set_option maxRecDepth 100000 in
theorem w_X5_think {p : Program} {l : Launch} {e : Env} {s : State} {mi : MethodId} {args : Array Value} {below : List Frame} {meth : Method} {co : Code} {D : va_G} {cI cQ : ClassId} {A : Nat → Prop} {Q : State → Prop} (x : Nat) (an : Nat → Nat) (am : Nat → Nat) (aq : Nat → Nat) (ap : Nat → Nat) (b : Nat → Nat → Nat) (al : Nat → Nat) (au : Nat → Nat) (re : Nat) (pq : Int32) (n : PT) (m : PT) {post : PT → Prop} (C : xC p s mi args co cX5_think RX5 1 D (tyL cI cQ) A) (hret : ∀ (pc : Nat) (u : PT) (lv : List (Nat × Value)), decode cX5_think pc = .ok (.return_, 1) → post u → xG p l e (rmL 2 0 0 61) s mi args below meth co D A 1 Q 0 0 pc [] [gObj x an am aq ap al au re pq, gPar cI an n, gPar cI am u] lv) (hw : p_X5_think n m post) : xG p l e (rmL 2 0 0 61) s mi args below meth co D A 1 Q 0 0 0 [] [gObj x an am aq ap al au re pq, gPar cI an n, gPar cI am m] [(0, .ref x)] := by
  unfold p_X5_think at hw
  try dsimp only at hw
  show xG p l e (rmL 2 0 0 61) s mi args below meth co D A 1 Q 0 0 0 [] [gObj x an am aq ap al au re pq, gPar cI an n, gPar cI am m] [(0, .ref x)]
  refine g_aload_n C dX5_think_0 0 rfl rfl ?_
  refine g_get (v := .ref (am 0)) (ci := 4) C dX5_think_1 inw_X5 rfl 0 0 1 rfl rfl (Nat.le_of_ble_eq_true rfl) rfl fl_X5_16 rfl rfl ?_
  refine g_aload_n C dX5_think_4 0 rfl rfl ?_
  refine g_get (v := .ref (an 0)) (ci := 4) C dX5_think_5 inw_X5 rfl 0 0 0 rfl rfl (Nat.le_of_ble_eq_true rfl) rfl fl_X5_10 rfl rfl ?_
  refine g_callVv (As := [.ref (an 0)]) (gr := [gObj x an am aq ap al au re pq]) C (c_X3_become l D cI cQ am an m n  _) dX5_think_8 ⟨ml_X5_232, kV_X3_become⟩ ⟨Nat.le_of_ble_eq_true rfl, Nat.le_of_ble_eq_true rfl⟩ ⟨Nat.le_refl _, Nat.le_refl _⟩ rfl rfl 0 0 rfl rfl [2, 1, 0] 3 rfl pmb_2_1_0 rfl rfl rfl (Nat.le_of_ble_eq_true rfl) rfl (fun (u : PT) => [gObj x an am aq ap al au re pq, gPar cI an n, gPar cI am u]) [2, 1, 0] 3 (fun _ => rfl) pmb_2_1_0 (fun _ => rfl) hw (fun u1 hw => ?_)
  obtain ⟨mv2, rfl⟩ : ∃ z, z = u1 := ⟨_, rfl⟩
  exact hret 11 mv2 _ dX5_think_11 hw
set_option maxRecDepth 100000 in
theorem c_X5_think (l : Launch) (D : va_G) (cI cQ : ClassId) (x : Nat) (an : Nat → Nat) (am : Nat → Nat) (aq : Nat → Nat) (ap : Nat → Nat) (b : Nat → Nat → Nat) (al : Nat → Nat) (au : Nat → Nat) (re : Nat) (pq : Int32) (n : PT) (m : PT) (post : PT → Prop) (sz : Nat) : Met l yX5_think (wsY yX5_think cX5_think 1 none) (rmL 2 0 0 61) (xP D (tyL cI cQ) [.ref x] [gObj x an am aq ap al au re pq, gPar cI an n, gPar cI am m] sz (p_X5_think n m post)) (xQv D (tyL cI cQ) post (fun (u : PT) => [gObj x an am aq ap al au re pq, gPar cI an n, gPar cI am u]) (va_A [gObj x an am aq ap al au re pq, gPar cI an n, gPar cI am m].flatten sz)) 0 0 (va_A [gObj x an am aq ap al au re pq, gPar cI an n, gPar cI am m].flatten sz) :=
  Met_v pn_X5 (Nat.le_of_ble_eq_true rfl) (fun p e s mi below meth co A Q _ C hret hw => w_X5_think x an am aq ap b al au re pq n m C hret hw)
theorem kV_X5_think : Cond.instanceMethod yX5_think ∈ gTbl ∧ Cond.selects yX5_think.cls yX5_think yX5_think ∈ gTbl ∧ Cond.initialized yX5_think.cls ∈ gTbl ∧ Cond.code yX5_think cX5_think 1 none ∈ gTbl ∧ (yX5_think.cls ≠ "java/lang/invoke/MethodHandle" ∧ yX5_think.cls ≠ "java/lang/invoke/VarHandle" ∧ (parseMethodDescriptor yX5_think.desc).map (fun d => d.parameters.length) = some 0) := ⟨im_X5_think, sl_X5_think, in_X5, cd_X5_think, (by decide +kernel)⟩
set_option maxRecDepth 100000 in
def p_X5_tell (m : PT) (le : LT) (p1 : Int32) (post : Int32 → PT → Prop) : Prop := p_X1_digitAt le (p1 + (1 : Int32)) (fun (r1 : Int32) => p_X1_digitAt le (p1 + (2 : Int32)) (fun (r2 : Int32) => p_X1_at le p1 (fun (r3 : Int32) => ((r3 = 98 → p_X3_blockOrFree m r1 (fun (r4 : Int32) (u4 : PT) => (fun (mv5 : PT) => (bz r4 ∧ post r4 mv5)) u4)) ∧ (¬ r3 = 98 → ((r3 = 99 → p_X3_emptyCup m (fun (u6 : PT) => (fun (mv7 : PT) => post (1 : Int32) mv7) u6)) ∧ (¬ r3 = 99 → ((r3 = 100 → p_X3_hasTimeFor m (((10 : Int32) * r1) + r2) (fun (r8 : Int32) => ((r8 = 0 → post (0 : Int32) m) ∧ (¬ r8 = 0 → p_X3_pass m (((10 : Int32) * r1) + r2) (fun (u9 : PT) => (fun (mv10 : PT) => post (1 : Int32) mv10) u9))))) ∧ (¬ r3 = 100 → ((r3 = 110 → p_X3_build m r1 r2 (fun (r11 : Int32) (u11 : PT) => (fun (mv12 : PT) => (bz r11 ∧ post r11 mv12)) u11)) ∧ (¬ r3 = 110 → ((r3 = 118 → p_X1_digitAt le (p1 + (3 : Int32)) (fun (r13 : Int32) => p_X3_fill m r1 (((10 : Int32) * r2) + r13) (fun (r14 : Int32) (u14 : PT) => (fun (mv15 : PT) => (bz r14 ∧ post r14 mv15)) u14))) ∧ (¬ r3 = 118 → ((r3 = 120 → p_X3_lead m r1 r2 (fun (r16 : Int32) (u16 : PT) => (fun (mv17 : PT) => (bz r16 ∧ post r16 mv17)) u16)) ∧ (¬ r3 = 120 → post (0 : Int32) m)))))))))))))))
set_option maxHeartbeats 4000000 in
set_option maxRecDepth 100000 in
theorem w_X5_tell {p : Program} {l : Launch} {e : Env} {s : State} {mi : MethodId} {args : Array Value} {below : List Frame} {meth : Method} {co : Code} {D : va_G} {cI cQ : ClassId} {A : Nat → Prop} {Q : State → Prop} (x : Nat) (an : Nat → Nat) (am : Nat → Nat) (aq : Nat → Nat) (ap : Nat → Nat) (b : Nat → Nat → Nat) (al : Nat → Nat) (au : Nat → Nat) (re : Nat) (pq : Int32) (m : PT) (le : LT) (p1 : Int32) {post : Int32 → PT → Prop} (C : xC p s mi args co cX5_tell RX5 4 D (tyL cI cQ) A) (hret : ∀ (pc : Nat) (r : Int32) (u : PT) (lv : List (Nat × Value)), decode cX5_tell pc = .ok (.ireturn, 1) → bz r → post r u → xG p l e (rmL 4 0 0 92) s mi args below meth co D A 4 Q 0 0 pc [.int r] [gObj x an am aq ap al au re pq, gPar cI am u, gLet cI al le] lv) (hw : p_X5_tell m le p1 post) : xG p l e (rmL 4 0 0 92) s mi args below meth co D A 4 Q 0 0 0 [] [gObj x an am aq ap al au re pq, gPar cI am m, gLet cI al le] [(0, .ref x), (1, .int p1)] := by
  unfold p_X5_tell at hw
  try dsimp only at hw
  show xG p l e (rmL 4 0 0 92) s mi args below meth co D A 4 Q 0 0 0 [] [gObj x an am aq ap al au re pq, gPar cI am m, gLet cI al le] [(0, .ref x), (1, .int p1)]
  refine g_aload_n C dX5_tell_0 0 rfl rfl ?_
  refine g_get (v := .ref (al 0)) (ci := 4) C dX5_tell_1 inw_X5 rfl 0 0 4 rfl rfl (Nat.le_of_ble_eq_true rfl) rfl fl_X5_32 rfl rfl ?_
  refine g_iload_n C dX5_tell_4 1 rfl rfl ?_
  refine g_iconst (v := 1) C dX5_tell_5 rfl rfl ?_
  refine g_iadd C dX5_tell_6 rfl ?_
  refine g_callVi (As := [.int (p1 + (1 : Int32))]) (gr := [gObj x an am aq ap al au re pq, gPar cI am m]) C (c_X1_digitAt l D cI cQ al le (p1 + (1 : Int32)) _) dX5_tell_7 ⟨ml_X5_253, kV_X1_digitAt⟩ ⟨Nat.le_of_ble_eq_true rfl, Nat.le_of_ble_eq_true rfl⟩ ⟨Nat.le_refl _, Nat.le_refl _⟩ rfl rfl 0 0 rfl rfl [2, 0, 1] 3 rfl pmb_2_0_1 rfl rfl rfl (Nat.le_of_ble_eq_true rfl) rfl (fun (u : Unit) => [gObj x an am aq ap al au re pq, gPar cI am m, gLet cI al le]) [1, 2, 0] 3 (fun _ => rfl) pmb_1_2_0 (fun _ => rfl) hw (fun r1 u1 hw => ?_)
  refine g_istore_n (v := r1) C dX5_tell_10 rfl (Nat.le_of_ble_eq_true rfl) (lv' := [(2, .int r1), (0, .ref x), (1, .int p1)]) rfl rfl ?_
  refine g_aload_n C dX5_tell_11 1 rfl rfl ?_
  refine g_get (v := .ref (al 0)) (ci := 4) C dX5_tell_12 inw_X5 rfl 0 0 4 rfl rfl (Nat.le_of_ble_eq_true rfl) rfl fl_X5_32 rfl rfl ?_
  refine g_iload_n C dX5_tell_15 2 rfl rfl ?_
  refine g_iconst (v := 2) C dX5_tell_16 rfl rfl ?_
  refine g_iadd C dX5_tell_17 rfl ?_
  refine g_callVi (As := [.int (p1 + (2 : Int32))]) (gr := [gObj x an am aq ap al au re pq, gPar cI am m]) C (c_X1_digitAt l D cI cQ al le (p1 + (2 : Int32)) _) dX5_tell_18 ⟨ml_X5_253, kV_X1_digitAt⟩ ⟨Nat.le_of_ble_eq_true rfl, Nat.le_of_ble_eq_true rfl⟩ ⟨Nat.le_refl _, Nat.le_refl _⟩ rfl rfl 0 0 rfl rfl [2, 0, 1] 3 rfl pmb_2_0_1 rfl rfl rfl (Nat.le_of_ble_eq_true rfl) rfl (fun (u : Unit) => [gObj x an am aq ap al au re pq, gPar cI am m, gLet cI al le]) [1, 2, 0] 3 (fun _ => rfl) pmb_1_2_0 (fun _ => rfl) hw (fun r2 u2 hw => ?_)
  refine g_istore_n (v := r2) C dX5_tell_21 rfl (Nat.le_of_ble_eq_true rfl) (lv' := [(3, .int r2), (2, .int r1), (0, .ref x), (1, .int p1)]) rfl rfl ?_
  refine g_aload_n C dX5_tell_22 2 rfl rfl ?_
  refine g_get (v := .ref (al 0)) (ci := 4) C dX5_tell_23 inw_X5 rfl 0 0 4 rfl rfl (Nat.le_of_ble_eq_true rfl) rfl fl_X5_32 rfl rfl ?_
  refine g_iload_n C dX5_tell_26 3 rfl rfl ?_
  refine g_callVi (As := [.int p1]) (gr := [gObj x an am aq ap al au re pq, gPar cI am m]) C (c_X1_at l D cI cQ al le p1 _) dX5_tell_27 ⟨ml_X5_256, kV_X1_at⟩ ⟨Nat.le_of_ble_eq_true rfl, Nat.le_of_ble_eq_true rfl⟩ ⟨Nat.le_refl _, Nat.le_refl _⟩ rfl rfl 0 0 rfl rfl [2, 0, 1] 3 rfl pmb_2_0_1 rfl rfl rfl (Nat.le_of_ble_eq_true rfl) rfl (fun (u : Unit) => [gObj x an am aq ap al au re pq, gPar cI am m, gLet cI al le]) [1, 2, 0] 3 (fun _ => rfl) pmb_1_2_0 (fun _ => rfl) hw (fun r3 u3 hw => ?_)
  rcases Classical.em (r3 = 98) with hs30_0 | hs30_0
  · replace hw := hw.1 hs30_0
    refine g_lsw (pc' := 108) C dX5_tell_30 (by decide) (by first | (rw [hs30_0]; done) | (rw [hs30_0]; rfl)) (by decide) ?_
    refine g_aload_n C dX5_tell_108 2 rfl rfl ?_
    refine g_get (v := .ref (am 0)) (ci := 4) C dX5_tell_109 inw_X5 rfl 0 0 1 rfl rfl (Nat.le_of_ble_eq_true rfl) rfl fl_X5_16 rfl rfl ?_
    refine g_iload_n C dX5_tell_112 1 rfl rfl ?_
    refine g_callVi (As := [.int r1]) (gr := [gObj x an am aq ap al au re pq, gLet cI al le]) C (c_X3_blockOrFree l D cI cQ am m r1 _) dX5_tell_113 ⟨ml_X5_113, kV_X3_blockOrFree⟩ ⟨Nat.le_of_ble_eq_true rfl, Nat.le_of_ble_eq_true rfl⟩ ⟨Nat.le_refl _, Nat.le_refl _⟩ rfl rfl 0 0 rfl rfl [1, 0, 2] 3 rfl pmb_1_0_2 rfl rfl rfl (Nat.le_of_ble_eq_true rfl) rfl (fun (u : PT) => [gObj x an am aq ap al au re pq, gPar cI am u, gLet cI al le]) [1, 0, 2] 3 (fun _ => rfl) pmb_1_0_2 (fun _ => rfl) hw (fun r4 u4 hw => ?_)
    obtain ⟨mv5, rfl⟩ : ∃ z, z = u4 := ⟨_, rfl⟩
    exact hret 116 r4 mv5 _ dX5_tell_116 hw.1 hw.2
  · replace hw := hw.2 hs30_0
    rcases Classical.em (r3 = 99) with hs30_1 | hs30_1
    · replace hw := hw.1 hs30_1
      refine g_lsw (pc' := 141) C dX5_tell_30 (by decide) (by first | (rw [hs30_1]; done) | (rw [hs30_1]; rfl)) (by decide) ?_
      refine g_aload_n C dX5_tell_141 2 rfl rfl ?_
      refine g_get (v := .ref (am 0)) (ci := 4) C dX5_tell_142 inw_X5 rfl 0 0 1 rfl rfl (Nat.le_of_ble_eq_true rfl) rfl fl_X5_16 rfl rfl ?_
      refine g_callVv (As := []) (gr := [gObj x an am aq ap al au re pq, gLet cI al le]) C (c_X3_emptyCup l D cI cQ am m  _) dX5_tell_145 ⟨ml_X5_122, kV_X3_emptyCup⟩ ⟨Nat.le_of_ble_eq_true rfl, Nat.le_of_ble_eq_true rfl⟩ ⟨Nat.le_refl _, Nat.le_refl _⟩ rfl rfl 0 0 rfl rfl [1, 0, 2] 3 rfl pmb_1_0_2 rfl rfl rfl (Nat.le_of_ble_eq_true rfl) rfl (fun (u : PT) => [gObj x an am aq ap al au re pq, gPar cI am u, gLet cI al le]) [1, 0, 2] 3 (fun _ => rfl) pmb_1_0_2 (fun _ => rfl) hw (fun u6 hw => ?_)
      obtain ⟨mv7, rfl⟩ : ∃ z, z = u6 := ⟨_, rfl⟩
      refine g_iconst (v := 1) C dX5_tell_148 rfl rfl ?_
      exact hret 149 (1 : Int32) mv7 _ dX5_tell_149 ⟨rfl, rfl⟩ hw
    · replace hw := hw.2 hs30_1
      rcases Classical.em (r3 = 100) with hs30_2 | hs30_2
      · replace hw := hw.1 hs30_2
        refine g_lsw (pc' := 150) C dX5_tell_30 (by decide) (by first | (rw [hs30_2]; done) | (rw [hs30_2]; rfl)) (by decide) ?_
        refine g_aload_n C dX5_tell_150 2 rfl rfl ?_
        refine g_get (v := .ref (am 0)) (ci := 4) C dX5_tell_151 inw_X5 rfl 0 0 1 rfl rfl (Nat.le_of_ble_eq_true rfl) rfl fl_X5_16 rfl rfl ?_
        refine g_bipush (v := 10) C dX5_tell_154 (by decide) rfl ?_
        refine g_iload_n C dX5_tell_156 1 rfl rfl ?_
        refine g_imul C dX5_tell_157 rfl ?_
        refine g_iload_n C dX5_tell_158 0 rfl rfl ?_
        refine g_iadd C dX5_tell_159 rfl ?_
        refine g_callVi (As := [.int (((10 : Int32) * r1) + r2)]) (gr := [gObj x an am aq ap al au re pq, gLet cI al le]) C (c_X3_hasTimeFor l D cI cQ am m (((10 : Int32) * r1) + r2) _) dX5_tell_160 ⟨ml_X5_125, kV_X3_hasTimeFor⟩ ⟨Nat.le_of_ble_eq_true rfl, Nat.le_of_ble_eq_true rfl⟩ ⟨Nat.le_refl _, Nat.le_refl _⟩ rfl rfl 0 0 rfl rfl [1, 0, 2] 3 rfl pmb_1_0_2 rfl rfl rfl (Nat.le_of_ble_eq_true rfl) rfl (fun (u : Unit) => [gObj x an am aq ap al au re pq, gPar cI am m, gLet cI al le]) [1, 0, 2] 3 (fun _ => rfl) pmb_1_0_2 (fun _ => rfl) hw (fun r8 u8 hw => ?_)
        refine g_if_ne (tgt := 168) C dX5_tell_163 (by decide) rfl hw (fun _ hw => ?_) (fun _ hw => ?_)
        · refine g_aload_n C dX5_tell_168 2 rfl rfl ?_
          refine g_get (v := .ref (am 0)) (ci := 4) C dX5_tell_169 inw_X5 rfl 0 0 1 rfl rfl (Nat.le_of_ble_eq_true rfl) rfl fl_X5_16 rfl rfl ?_
          refine g_bipush (v := 10) C dX5_tell_172 (by decide) rfl ?_
          refine g_iload_n C dX5_tell_174 1 rfl rfl ?_
          refine g_imul C dX5_tell_175 rfl ?_
          refine g_iload_n C dX5_tell_176 0 rfl rfl ?_
          refine g_iadd C dX5_tell_177 rfl ?_
          refine g_callVv (As := [.int (((10 : Int32) * r1) + r2)]) (gr := [gObj x an am aq ap al au re pq, gLet cI al le]) C (c_X3_pass l D cI cQ am m (((10 : Int32) * r1) + r2) _) dX5_tell_178 ⟨ml_X5_128, kV_X3_pass⟩ ⟨Nat.le_of_ble_eq_true rfl, Nat.le_of_ble_eq_true rfl⟩ ⟨Nat.le_refl _, Nat.le_refl _⟩ rfl rfl 0 0 rfl rfl [1, 0, 2] 3 rfl pmb_1_0_2 rfl rfl rfl (Nat.le_of_ble_eq_true rfl) rfl (fun (u : PT) => [gObj x an am aq ap al au re pq, gPar cI am u, gLet cI al le]) [1, 0, 2] 3 (fun _ => rfl) pmb_1_0_2 (fun _ => rfl) hw (fun u9 hw => ?_)
          obtain ⟨mv10, rfl⟩ : ∃ z, z = u9 := ⟨_, rfl⟩
          refine g_iconst (v := 1) C dX5_tell_181 rfl rfl ?_
          exact hret 182 (1 : Int32) mv10 _ dX5_tell_182 ⟨rfl, rfl⟩ hw
        · refine g_iconst (v := 0) C dX5_tell_166 rfl rfl ?_
          exact hret 167 (0 : Int32) m _ dX5_tell_167 ⟨rfl, rfl⟩ hw
      · replace hw := hw.2 hs30_2
        rcases Classical.em (r3 = 110) with hs30_3 | hs30_3
        · replace hw := hw.1 hs30_3
          refine g_lsw (pc' := 88) C dX5_tell_30 (by decide) (by first | (rw [hs30_3]; done) | (rw [hs30_3]; rfl)) (by decide) ?_
          refine g_aload_n C dX5_tell_88 2 rfl rfl ?_
          refine g_get (v := .ref (am 0)) (ci := 4) C dX5_tell_89 inw_X5 rfl 0 0 1 rfl rfl (Nat.le_of_ble_eq_true rfl) rfl fl_X5_16 rfl rfl ?_
          refine g_iload_n C dX5_tell_92 1 rfl rfl ?_
          refine g_iload_n C dX5_tell_93 0 rfl rfl ?_
          refine g_callVi (As := [.int r1, .int r2]) (gr := [gObj x an am aq ap al au re pq, gLet cI al le]) C (c_X3_build l D cI cQ am m r1 r2 _) dX5_tell_94 ⟨ml_X5_96, kV_X3_build⟩ ⟨Nat.le_of_ble_eq_true rfl, Nat.le_of_ble_eq_true rfl⟩ ⟨Nat.le_refl _, Nat.le_refl _⟩ rfl rfl 0 0 rfl rfl [1, 0, 2] 3 rfl pmb_1_0_2 rfl rfl rfl (Nat.le_of_ble_eq_true rfl) rfl (fun (u : PT) => [gObj x an am aq ap al au re pq, gPar cI am u, gLet cI al le]) [1, 0, 2] 3 (fun _ => rfl) pmb_1_0_2 (fun _ => rfl) hw (fun r11 u11 hw => ?_)
          obtain ⟨mv12, rfl⟩ : ∃ z, z = u11 := ⟨_, rfl⟩
          exact hret 97 r11 mv12 _ dX5_tell_97 hw.1 hw.2
        · replace hw := hw.2 hs30_3
          rcases Classical.em (r3 = 118) with hs30_4 | hs30_4
          · replace hw := hw.1 hs30_4
            refine g_lsw (pc' := 117) C dX5_tell_30 (by decide) (by first | (rw [hs30_4]; done) | (rw [hs30_4]; rfl)) (by decide) ?_
            refine g_aload_n C dX5_tell_117 2 rfl rfl ?_
            refine g_get (v := .ref (am 0)) (ci := 4) C dX5_tell_118 inw_X5 rfl 0 0 1 rfl rfl (Nat.le_of_ble_eq_true rfl) rfl fl_X5_16 rfl rfl ?_
            refine g_iload_n C dX5_tell_121 1 rfl rfl ?_
            refine g_bipush (v := 10) C dX5_tell_122 (by decide) rfl ?_
            refine g_iload_n C dX5_tell_124 0 rfl rfl ?_
            refine g_imul C dX5_tell_125 rfl ?_
            refine g_aload_n C dX5_tell_126 2 rfl rfl ?_
            refine g_get (v := .ref (al 0)) (ci := 4) C dX5_tell_127 inw_X5 rfl 0 0 4 rfl rfl (Nat.le_of_ble_eq_true rfl) rfl fl_X5_32 rfl rfl ?_
            refine g_iload_n C dX5_tell_130 3 rfl rfl ?_
            refine g_iconst (v := 3) C dX5_tell_131 rfl rfl ?_
            refine g_iadd C dX5_tell_132 rfl ?_
            refine g_callVi (As := [.int (p1 + (3 : Int32))]) (gr := [gObj x an am aq ap al au re pq, gPar cI am m]) C (c_X1_digitAt l D cI cQ al le (p1 + (3 : Int32)) _) dX5_tell_133 ⟨ml_X5_253, kV_X1_digitAt⟩ ⟨Nat.le_of_ble_eq_true rfl, Nat.le_of_ble_eq_true rfl⟩ ⟨Nat.le_refl _, Nat.le_refl _⟩ rfl rfl 0 0 rfl rfl [2, 0, 1] 3 rfl pmb_2_0_1 rfl rfl rfl (Nat.le_of_ble_eq_true rfl) rfl (fun (u : Unit) => [gObj x an am aq ap al au re pq, gPar cI am m, gLet cI al le]) [1, 2, 0] 3 (fun _ => rfl) pmb_1_2_0 (fun _ => rfl) hw (fun r13 u13 hw => ?_)
            refine g_iadd C dX5_tell_136 rfl ?_
            refine g_callVi (As := [.int r1, .int (((10 : Int32) * r2) + r13)]) (gr := [gObj x an am aq ap al au re pq, gLet cI al le]) C (c_X3_fill l D cI cQ am m r1 (((10 : Int32) * r2) + r13) _) dX5_tell_137 ⟨ml_X5_116, kV_X3_fill⟩ ⟨Nat.le_of_ble_eq_true rfl, Nat.le_of_ble_eq_true rfl⟩ ⟨Nat.le_refl _, Nat.le_refl _⟩ rfl rfl 0 0 rfl rfl [1, 0, 2] 3 rfl pmb_1_0_2 rfl rfl rfl (Nat.le_of_ble_eq_true rfl) rfl (fun (u : PT) => [gObj x an am aq ap al au re pq, gPar cI am u, gLet cI al le]) [1, 0, 2] 3 (fun _ => rfl) pmb_1_0_2 (fun _ => rfl) hw (fun r14 u14 hw => ?_)
            obtain ⟨mv15, rfl⟩ : ∃ z, z = u14 := ⟨_, rfl⟩
            exact hret 140 r14 mv15 _ dX5_tell_140 hw.1 hw.2
          · replace hw := hw.2 hs30_4
            rcases Classical.em (r3 = 120) with hs30_5 | hs30_5
            · replace hw := hw.1 hs30_5
              refine g_lsw (pc' := 98) C dX5_tell_30 (by decide) (by first | (rw [hs30_5]; done) | (rw [hs30_5]; rfl)) (by decide) ?_
              refine g_aload_n C dX5_tell_98 2 rfl rfl ?_
              refine g_get (v := .ref (am 0)) (ci := 4) C dX5_tell_99 inw_X5 rfl 0 0 1 rfl rfl (Nat.le_of_ble_eq_true rfl) rfl fl_X5_16 rfl rfl ?_
              refine g_iload_n C dX5_tell_102 1 rfl rfl ?_
              refine g_iload_n C dX5_tell_103 0 rfl rfl ?_
              refine g_callVi (As := [.int r1, .int r2]) (gr := [gObj x an am aq ap al au re pq, gLet cI al le]) C (c_X3_lead l D cI cQ am m r1 r2 _) dX5_tell_104 ⟨ml_X5_110, kV_X3_lead⟩ ⟨Nat.le_of_ble_eq_true rfl, Nat.le_of_ble_eq_true rfl⟩ ⟨Nat.le_refl _, Nat.le_refl _⟩ rfl rfl 0 0 rfl rfl [1, 0, 2] 3 rfl pmb_1_0_2 rfl rfl rfl (Nat.le_of_ble_eq_true rfl) rfl (fun (u : PT) => [gObj x an am aq ap al au re pq, gPar cI am u, gLet cI al le]) [1, 0, 2] 3 (fun _ => rfl) pmb_1_0_2 (fun _ => rfl) hw (fun r16 u16 hw => ?_)
              obtain ⟨mv17, rfl⟩ : ∃ z, z = u16 := ⟨_, rfl⟩
              exact hret 107 r16 mv17 _ dX5_tell_107 hw.1 hw.2
            · replace hw := hw.2 hs30_5
              refine g_lsw (off := 153) (pc' := 183) C dX5_tell_30 (by decide) (by show Op.lookupswitch.offset [(98, 78), (99, 111), (100, 120), (110, 58), (118, 87), (120, 68)] 153 _ = 153; rw [lv_osw hs30_0 (by decide), lv_osw hs30_1 (by decide), lv_osw hs30_2 (by decide), lv_osw hs30_3 (by decide), lv_osw hs30_4 (by decide), lv_osw hs30_5 (by decide)]; rfl) (by decide) ?_
              refine g_iconst (v := 0) C dX5_tell_183 rfl rfl ?_
              exact hret 184 (0 : Int32) m _ dX5_tell_184 ⟨rfl, rfl⟩ hw
set_option maxRecDepth 100000 in
theorem c_X5_tell (l : Launch) (D : va_G) (cI cQ : ClassId) (x : Nat) (an : Nat → Nat) (am : Nat → Nat) (aq : Nat → Nat) (ap : Nat → Nat) (b : Nat → Nat → Nat) (al : Nat → Nat) (au : Nat → Nat) (re : Nat) (pq : Int32) (m : PT) (le : LT) (p1 : Int32) (post : Int32 → PT → Prop) (sz : Nat) : Met l yX5_tell (wsY yX5_tell cX5_tell 4 (some .boolean)) (rmL 4 0 0 92) (xP D (tyL cI cQ) [.ref x, .int p1] [gObj x an am aq ap al au re pq, gPar cI am m, gLet cI al le] sz (p_X5_tell m le p1 post)) (xQi D (tyL cI cQ) post (fun (u : PT) => [gObj x an am aq ap al au re pq, gPar cI am u, gLet cI al le]) (va_A [gObj x an am aq ap al au re pq, gPar cI am m, gLet cI al le].flatten sz)) 0 0 (va_A [gObj x an am aq ap al au re pq, gPar cI am m, gLet cI al le].flatten sz) :=
  Met_z pn_X5 (Nat.le_of_ble_eq_true rfl) (fun p e s mi below meth co A Q _ C hret hw => w_X5_tell x an am aq ap b al au re pq m le p1 C hret hw)
theorem kV_X5_tell : Cond.instanceMethod yX5_tell ∈ gTbl ∧ Cond.selects yX5_tell.cls yX5_tell yX5_tell ∈ gTbl ∧ Cond.initialized yX5_tell.cls ∈ gTbl ∧ Cond.code yX5_tell cX5_tell 4 (some .boolean) ∈ gTbl ∧ (yX5_tell.cls ≠ "java/lang/invoke/MethodHandle" ∧ yX5_tell.cls ≠ "java/lang/invoke/VarHandle" ∧ (parseMethodDescriptor yX5_tell.desc).map (fun d => d.parameters.length) = some 1) := ⟨im_X5_tell, sl_X5_tell, in_X5, cd_X5_tell, (by decide +kernel)⟩
set_option maxRecDepth 100000 in
def p_X5_tellAll (n : PT) (m : PT) (hh : HT) (le : LT) (post : Int32 → PT × PT × HT → Prop) : Prop := p_X5_think n m (fun (u1 : PT) => (fun (mv2 : PT) => lpN (fun (K6 : (Int32 × Int32 × PT) → Prop) (z6 : Int32 × Int32 × PT) => (fun (x3 : Int32) (x4 : Int32) (mv5 : PT) => p_X1_size le (fun (r7 : Int32) => ((r7 ≤ x4 → p_X3_become n mv5 (fun (u8 : PT) => (fun (nv9 : PT) => p_X4_forget hh (fun (u10 : HT) => (fun (hhv11 : HT) => post x3 (nv9, mv5, hhv11)) u10)) u8)) ∧ (¬ r7 ≤ x4 → p_X1_beginsAt le x4 (fun (r12 : Int32) => ((r12 = 0 → K6 (x3, (x4 + 1), mv5)) ∧ (¬ r12 = 0 → p_X5_tell mv5 le x4 (fun (r13 : Int32) (u13 : PT) => (fun (mv14 : PT) => ((r13 = 0 → post ((-2000 : Int32) - x4) (n, mv14, hh)) ∧ (¬ r13 = 0 → K6 ((x3 + 1), (x4 + 1), mv14)))) u13)))))))) z6.1 z6.2.1 z6.2.2) 1000 ((0 : Int32), (0 : Int32), mv2)) u1)
set_option maxHeartbeats 4000000 in
set_option maxRecDepth 100000 in
theorem w_X5_tellAll {p : Program} {l : Launch} {e : Env} {s : State} {mi : MethodId} {args : Array Value} {below : List Frame} {meth : Method} {co : Code} {D : va_G} {cI cQ : ClassId} {A : Nat → Prop} {Q : State → Prop} (x : Nat) (an : Nat → Nat) (am : Nat → Nat) (aq : Nat → Nat) (ap : Nat → Nat) (b : Nat → Nat → Nat) (al : Nat → Nat) (au : Nat → Nat) (re : Nat) (pq : Int32) (n : PT) (m : PT) (hh : HT) (le : LT) {post : Int32 → PT × PT × HT → Prop} (C : xC p s mi args co cX5_tellAll RX5 3 D (tyL cI cQ) A) (hret : ∀ (pc : Nat) (r : Int32) (u : PT × PT × HT) (lv : List (Nat × Value)), decode cX5_tellAll pc = .ok (.ireturn, 1) → post r u → xG p l e (rmL 5 0 0 115) s mi args below meth co D A 3 Q 0 0 pc [.int r] [gObj x an am aq ap al au re pq, gPar cI an u.1, gPar cI am u.2.1, gPas cQ ap b u.2.2, gLet cI al le] lv) (hw : p_X5_tellAll n m hh le post) : xG p l e (rmL 5 0 0 115) s mi args below meth co D A 3 Q 0 0 0 [] [gObj x an am aq ap al au re pq, gPar cI an n, gPar cI am m, gPas cQ ap b hh, gLet cI al le] [(0, .ref x)] := by
  unfold p_X5_tellAll at hw
  try dsimp only at hw
  show xG p l e (rmL 5 0 0 115) s mi args below meth co D A 3 Q 0 0 0 [] [gObj x an am aq ap al au re pq, gPar cI an n, gPar cI am m, gPas cQ ap b hh, gLet cI al le] [(0, .ref x)]
  refine g_aload_n C dX5_tellAll_0 0 rfl rfl ?_
  refine g_callVv (As := []) (gr := [gPas cQ ap b hh, gLet cI al le]) C (c_X5_think l D cI cQ x an am aq ap b al au re pq n m  _) dX5_tellAll_1 ⟨ml_X5_137, kV_X5_think⟩ ⟨Nat.le_of_ble_eq_true rfl, Nat.le_of_ble_eq_true rfl⟩ ⟨Nat.le_refl _, Nat.le_refl _⟩ rfl rfl 0 0 rfl rfl [0, 1, 2, 3, 4] 5 rfl pmb_0_1_2_3_4 rfl rfl rfl (Nat.le_of_ble_eq_true rfl) rfl (fun (u : PT) => [gObj x an am aq ap al au re pq, gPar cI an n, gPar cI am u, gPas cQ ap b hh, gLet cI al le]) [0, 1, 2, 3, 4] 5 (fun _ => rfl) pmb_0_1_2_3_4 (fun _ => rfl) hw (fun u1 hw => ?_)
  obtain ⟨mv2, rfl⟩ : ∃ z, z = u1 := ⟨_, rfl⟩
  refine g_iconst (v := 0) C dX5_tellAll_4 rfl rfl ?_
  refine g_istore_n (v := (0 : Int32)) C dX5_tellAll_5 rfl (Nat.le_of_ble_eq_true rfl) (lv' := [(1, .int (0 : Int32)), (0, .ref x)]) rfl rfl ?_
  refine g_iconst (v := 0) C dX5_tellAll_6 rfl rfl ?_
  refine g_istore_n (v := (0 : Int32)) C dX5_tellAll_7 rfl (Nat.le_of_ble_eq_true rfl) (lv' := [(2, .int (0 : Int32)), (1, .int (0 : Int32)), (0, .ref x)]) rfl rfl ?_
  refine g_lv [2, 1, 0] rfl ?_
  refine lpN_ind (G := (fun (z6 : Int32 × Int32 × PT) => (fun (x3 : Int32) (x4 : Int32) (mv5 : PT) => xG p l e (rmL 5 0 0 115) s mi args below meth co D A 3 Q 0 0 8 [] [gObj x an am aq ap al au re pq, gPar cI an n, gPar cI am mv5, gPas cQ ap b hh, gLet cI al le] [(0, .ref x), (1, .int x3), (2, .int x4)]) z6.1 z6.2.1 z6.2.2)) ?_ 1000 ((0 : Int32), (0 : Int32), mv2) hw
  rintro K6 ⟨x3, x4, mv5⟩ ih6 hw
  show xG p l e (rmL 5 0 0 115) s mi args below meth co D A 3 Q 0 0 8 [] [gObj x an am aq ap al au re pq, gPar cI an n, gPar cI am mv5, gPas cQ ap b hh, gLet cI al le] [(0, .ref x), (1, .int x3), (2, .int x4)]
  refine g_iload_n C dX5_tellAll_8 2 rfl rfl ?_
  refine g_aload_n C dX5_tellAll_9 0 rfl rfl ?_
  refine g_get (v := .ref (al 0)) (ci := 4) C dX5_tellAll_10 inw_X5 rfl 0 0 4 rfl rfl (Nat.le_of_ble_eq_true rfl) rfl fl_X5_32 rfl rfl ?_
  refine g_callVi (As := []) (gr := [gObj x an am aq ap al au re pq, gPar cI an n, gPar cI am mv5, gPas cQ ap b hh]) C (c_X1_size l D cI cQ al le  _) dX5_tellAll_13 ⟨ml_X5_59, kV_X1_size⟩ ⟨Nat.le_of_ble_eq_true rfl, Nat.le_of_ble_eq_true rfl⟩ ⟨Nat.le_refl _, Nat.le_refl _⟩ rfl rfl 0 0 rfl rfl [4, 0, 1, 2, 3] 5 rfl pmb_4_0_1_2_3 rfl rfl rfl (Nat.le_of_ble_eq_true rfl) rfl (fun (u : Unit) => [gObj x an am aq ap al au re pq, gPar cI an n, gPar cI am mv5, gPas cQ ap b hh, gLet cI al le]) [1, 2, 3, 4, 0] 5 (fun _ => rfl) pmb_1_2_3_4_0 (fun _ => rfl) hw (fun r7 u7 hw => ?_)
  refine g_icmp_ge (tgt := 53) C dX5_tellAll_16 (by decide) rfl hw (fun _ hw => ?_) (fun _ hw => ?_)
  · refine g_aload_n C dX5_tellAll_53 0 rfl rfl ?_
    refine g_get (v := .ref (an 0)) (ci := 4) C dX5_tellAll_54 inw_X5 rfl 0 0 0 rfl rfl (Nat.le_of_ble_eq_true rfl) rfl fl_X5_10 rfl rfl ?_
    refine g_aload_n C dX5_tellAll_57 0 rfl rfl ?_
    refine g_get (v := .ref (am 0)) (ci := 4) C dX5_tellAll_58 inw_X5 rfl 0 0 1 rfl rfl (Nat.le_of_ble_eq_true rfl) rfl fl_X5_16 rfl rfl ?_
    refine g_callVv (As := [.ref (am 0)]) (gr := [gObj x an am aq ap al au re pq, gPas cQ ap b hh, gLet cI al le]) C (c_X3_become l D cI cQ an am n mv5  _) dX5_tellAll_61 ⟨ml_X5_232, kV_X3_become⟩ ⟨Nat.le_of_ble_eq_true rfl, Nat.le_of_ble_eq_true rfl⟩ ⟨Nat.le_refl _, Nat.le_refl _⟩ rfl rfl 0 0 rfl rfl [1, 2, 0, 3, 4] 5 rfl pmb_1_2_0_3_4 rfl rfl rfl (Nat.le_of_ble_eq_true rfl) rfl (fun (u : PT) => [gObj x an am aq ap al au re pq, gPar cI an u, gPar cI am mv5, gPas cQ ap b hh, gLet cI al le]) [2, 0, 1, 3, 4] 5 (fun _ => rfl) pmb_2_0_1_3_4 (fun _ => rfl) hw (fun u8 hw => ?_)
    obtain ⟨nv9, rfl⟩ : ∃ z, z = u8 := ⟨_, rfl⟩
    refine g_aload_n C dX5_tellAll_64 0 rfl rfl ?_
    refine g_get (v := .ref (ap 0)) (ci := 4) C dX5_tellAll_65 inw_X5 rfl 0 0 3 rfl rfl (Nat.le_of_ble_eq_true rfl) rfl fl_X5_25 rfl rfl ?_
    refine g_callVv (As := []) (gr := [gObj x an am aq ap al au re pq, gPar cI an nv9, gPar cI am mv5, gLet cI al le]) C (c_X4_forget l D cI cQ ap b hh  _) dX5_tellAll_68 ⟨ml_X5_100, kV_X4_forget⟩ ⟨Nat.le_of_ble_eq_true rfl, Nat.le_of_ble_eq_true rfl⟩ ⟨Nat.le_refl _, Nat.le_refl _⟩ rfl rfl 0 0 rfl rfl [3, 0, 1, 2, 4] 5 rfl pmb_3_0_1_2_4 rfl rfl rfl (Nat.le_of_ble_eq_true rfl) rfl (fun (u : HT) => [gObj x an am aq ap al au re pq, gPar cI an nv9, gPar cI am mv5, gPas cQ ap b u, gLet cI al le]) [1, 2, 3, 0, 4] 5 (fun _ => rfl) pmb_1_2_3_0_4 (fun _ => rfl) hw (fun u10 hw => ?_)
    obtain ⟨hhv11, rfl⟩ : ∃ z, z = u10 := ⟨_, rfl⟩
    refine g_iload_n C dX5_tellAll_71 1 rfl rfl ?_
    exact hret 72 x3 (nv9, mv5, hhv11) _ dX5_tellAll_72 hw
  · refine g_aload_n C dX5_tellAll_19 0 rfl rfl ?_
    refine g_get (v := .ref (al 0)) (ci := 4) C dX5_tellAll_20 inw_X5 rfl 0 0 4 rfl rfl (Nat.le_of_ble_eq_true rfl) rfl fl_X5_32 rfl rfl ?_
    refine g_iload_n C dX5_tellAll_23 2 rfl rfl ?_
    refine g_callVi (As := [.int x4]) (gr := [gObj x an am aq ap al au re pq, gPar cI an n, gPar cI am mv5, gPas cQ ap b hh]) C (c_X1_beginsAt l D cI cQ al le x4 _) dX5_tellAll_24 ⟨ml_X5_247, kV_X1_beginsAt⟩ ⟨Nat.le_of_ble_eq_true rfl, Nat.le_of_ble_eq_true rfl⟩ ⟨Nat.le_refl _, Nat.le_refl _⟩ rfl rfl 0 0 rfl rfl [4, 0, 1, 2, 3] 5 rfl pmb_4_0_1_2_3 rfl rfl rfl (Nat.le_of_ble_eq_true rfl) rfl (fun (u : Unit) => [gObj x an am aq ap al au re pq, gPar cI an n, gPar cI am mv5, gPas cQ ap b hh, gLet cI al le]) [1, 2, 3, 4, 0] 5 (fun _ => rfl) pmb_1_2_3_4_0 (fun _ => rfl) hw (fun r12 u12 hw => ?_)
    refine g_if_eq (tgt := 47) C dX5_tellAll_27 (by decide) rfl hw (fun _ hw => ?_) (fun _ hw => ?_)
    · refine g_iinc (v := (x4 + 1)) (j := 2) C dX5_tellAll_47 rfl rfl (Nat.le_of_ble_eq_true rfl) (lv' := [(2, .int (x4 + 1)), (0, .ref x), (1, .int x3)]) rfl rfl ?_
      refine g_goto (pc' := 8) C dX5_tellAll_50 (by decide) rfl ?_
      refine g_lv [1, 2, 0] rfl ?_
      exact ih6 (x3, (x4 + 1), mv5) hw
    · refine g_aload_n C dX5_tellAll_30 0 rfl rfl ?_
      refine g_iload_n C dX5_tellAll_31 2 rfl rfl ?_
      refine g_callVi (As := [.int x4]) (gr := [gPar cI an n, gPas cQ ap b hh]) C (c_X5_tell l D cI cQ x an am aq ap b al au re pq mv5 le x4 _) dX5_tellAll_32 ⟨ml_X5_250, kV_X5_tell⟩ ⟨Nat.le_of_ble_eq_true rfl, Nat.le_of_ble_eq_true rfl⟩ ⟨Nat.le_refl _, Nat.le_refl _⟩ rfl rfl 0 0 rfl rfl [0, 2, 4, 1, 3] 5 rfl pmb_0_2_4_1_3 rfl rfl rfl (Nat.le_of_ble_eq_true rfl) rfl (fun (u : PT) => [gObj x an am aq ap al au re pq, gPar cI an n, gPar cI am u, gPas cQ ap b hh, gLet cI al le]) [0, 3, 1, 4, 2] 5 (fun _ => rfl) pmb_0_3_1_4_2 (fun _ => rfl) hw (fun r13 u13 hw => ?_)
      obtain ⟨mv14, rfl⟩ : ∃ z, z = u13 := ⟨_, rfl⟩
      refine g_if_ne (tgt := 44) C dX5_tellAll_35 (by decide) rfl hw (fun _ hw => ?_) (fun _ hw => ?_)
      · refine g_iinc (v := (x3 + 1)) (j := 1) C dX5_tellAll_44 rfl rfl (Nat.le_of_ble_eq_true rfl) (lv' := [(1, .int (x3 + 1)), (0, .ref x), (2, .int x4)]) rfl rfl ?_
        refine g_iinc (v := (x4 + 1)) (j := 2) C dX5_tellAll_47 rfl rfl (Nat.le_of_ble_eq_true rfl) (lv' := [(2, .int (x4 + 1)), (1, .int (x3 + 1)), (0, .ref x)]) rfl rfl ?_
        refine g_goto (pc' := 8) C dX5_tellAll_50 (by decide) rfl ?_
        refine g_lv [2, 1, 0] rfl ?_
        exact ih6 ((x3 + 1), (x4 + 1), mv14) hw
      · refine g_sipush (v := -2000) C dX5_tellAll_38 (by decide) rfl ?_
        refine g_iload_n C dX5_tellAll_41 2 rfl rfl ?_
        refine g_isub C dX5_tellAll_42 rfl ?_
        exact hret 43 ((-2000 : Int32) - x4) (n, mv14, hh) _ dX5_tellAll_43 hw
set_option maxRecDepth 100000 in
theorem c_X5_tellAll (l : Launch) (D : va_G) (cI cQ : ClassId) (x : Nat) (an : Nat → Nat) (am : Nat → Nat) (aq : Nat → Nat) (ap : Nat → Nat) (b : Nat → Nat → Nat) (al : Nat → Nat) (au : Nat → Nat) (re : Nat) (pq : Int32) (n : PT) (m : PT) (hh : HT) (le : LT) (post : Int32 → PT × PT × HT → Prop) (sz : Nat) : Met l yX5_tellAll (wsY yX5_tellAll cX5_tellAll 3 (some .int)) (rmL 5 0 0 115) (xP D (tyL cI cQ) [.ref x] [gObj x an am aq ap al au re pq, gPar cI an n, gPar cI am m, gPas cQ ap b hh, gLet cI al le] sz (p_X5_tellAll n m hh le post)) (xQi D (tyL cI cQ) post (fun (u : PT × PT × HT) => [gObj x an am aq ap al au re pq, gPar cI an u.1, gPar cI am u.2.1, gPas cQ ap b u.2.2, gLet cI al le]) (va_A [gObj x an am aq ap al au re pq, gPar cI an n, gPar cI am m, gPas cQ ap b hh, gLet cI al le].flatten sz)) 0 0 (va_A [gObj x an am aq ap al au re pq, gPar cI an n, gPar cI am m, gPas cQ ap b hh, gLet cI al le].flatten sz) :=
  Met_i pn_X5 (Nat.le_of_ble_eq_true rfl) (fun p e s mi below meth co A Q _ C hret hw => w_X5_tellAll x an am aq ap b al au re pq n m hh le C hret hw)
theorem kV_X5_tellAll : Cond.instanceMethod yX5_tellAll ∈ gTbl ∧ Cond.selects yX5_tellAll.cls yX5_tellAll yX5_tellAll ∈ gTbl ∧ Cond.initialized yX5_tellAll.cls ∈ gTbl ∧ Cond.code yX5_tellAll cX5_tellAll 3 (some .int) ∈ gTbl ∧ (yX5_tellAll.cls ≠ "java/lang/invoke/MethodHandle" ∧ yX5_tellAll.cls ≠ "java/lang/invoke/VarHandle" ∧ (parseMethodDescriptor yX5_tellAll.desc).map (fun d => d.parameters.length) = some 0) := ⟨im_X5_tellAll, sl_X5_tellAll, in_X5, cd_X5_tellAll, (by decide +kernel)⟩
set_option maxRecDepth 100000 in
def p_X5_parish (n : PT) (m : PT) (hh : HT) (le : LT) (post : Int32 → PT × PT × HT × LT → Prop) : Prop := p_X1_firstFault le (fun (r1 : Int32) => jn (fun (z6 : Int32 × PT × PT × HT) => (fun (x2 : Int32) (nv3 : PT) (mv4 : PT) (hhv5 : HT) => p_X1_drop le (fun (u7 : LT) => (fun (lev8 : LT) => post x2 (nv3, mv4, hhv5, lev8)) u7)) z6.1 z6.2.1 z6.2.2.1 z6.2.2.2) (fun J6 => (((0 : Int32) ≤ r1 → J6 (((-1000 : Int32) - r1), n, m, hh)) ∧ (¬ (0 : Int32) ≤ r1 → p_X5_tellAll n m hh le (fun (r9 : Int32) (u9 : PT × PT × HT) => (fun (nv10 : PT) (mv11 : PT) (hhv12 : HT) => J6 (r9, nv10, mv11, hhv12)) u9.1 u9.2.1 u9.2.2)))))
set_option maxHeartbeats 4000000 in
set_option maxRecDepth 100000 in
theorem w_X5_parish {p : Program} {l : Launch} {e : Env} {s : State} {mi : MethodId} {args : Array Value} {below : List Frame} {meth : Method} {co : Code} {D : va_G} {cI cQ : ClassId} {A : Nat → Prop} {Q : State → Prop} (x : Nat) (an : Nat → Nat) (am : Nat → Nat) (aq : Nat → Nat) (ap : Nat → Nat) (b : Nat → Nat → Nat) (al : Nat → Nat) (au : Nat → Nat) (re : Nat) (pq : Int32) (n : PT) (m : PT) (hh : HT) (le : LT) {post : Int32 → PT × PT × HT × LT → Prop} (C : xC p s mi args co cX5_parish RX5 3 D (tyL cI cQ) A) (hret : ∀ (pc : Nat) (r : Int32) (u : PT × PT × HT × LT) (lv : List (Nat × Value)), decode cX5_parish pc = .ok (.ireturn, 1) → post r u → xG p l e (rmL 6 0 0 137) s mi args below meth co D A 3 Q 0 0 pc [.int r] [gObj x an am aq ap al au re pq, gPar cI an u.1, gPar cI am u.2.1, gPas cQ ap b u.2.2.1, gLet cI al u.2.2.2] lv) (hw : p_X5_parish n m hh le post) : xG p l e (rmL 6 0 0 137) s mi args below meth co D A 3 Q 0 0 0 [] [gObj x an am aq ap al au re pq, gPar cI an n, gPar cI am m, gPas cQ ap b hh, gLet cI al le] [(0, .ref x)] := by
  unfold p_X5_parish at hw
  try dsimp only at hw
  show xG p l e (rmL 6 0 0 137) s mi args below meth co D A 3 Q 0 0 0 [] [gObj x an am aq ap al au re pq, gPar cI an n, gPar cI am m, gPas cQ ap b hh, gLet cI al le] [(0, .ref x)]
  refine g_aload_n C dX5_parish_0 0 rfl rfl ?_
  refine g_get (v := .ref (al 0)) (ci := 4) C dX5_parish_1 inw_X5 rfl 0 0 4 rfl rfl (Nat.le_of_ble_eq_true rfl) rfl fl_X5_32 rfl rfl ?_
  refine g_callVi (As := []) (gr := [gObj x an am aq ap al au re pq, gPar cI an n, gPar cI am m, gPas cQ ap b hh]) C (c_X1_firstFault l D cI cQ al le  _) dX5_parish_4 ⟨ml_X5_63, kV_X1_firstFault⟩ ⟨Nat.le_of_ble_eq_true rfl, Nat.le_of_ble_eq_true rfl⟩ ⟨Nat.le_refl _, Nat.le_refl _⟩ rfl rfl 0 0 rfl rfl [4, 0, 1, 2, 3] 5 rfl pmb_4_0_1_2_3 rfl rfl rfl (Nat.le_of_ble_eq_true rfl) rfl (fun (u : Unit) => [gObj x an am aq ap al au re pq, gPar cI an n, gPar cI am m, gPas cQ ap b hh, gLet cI al le]) [1, 2, 3, 4, 0] 5 (fun _ => rfl) pmb_1_2_3_4_0 (fun _ => rfl) hw (fun r1 u1 hw => ?_)
  refine g_istore_n (v := r1) C dX5_parish_7 rfl (Nat.le_of_ble_eq_true rfl) (lv' := [(1, .int r1), (0, .ref x)]) rfl rfl ?_
  refine g_iload_n C dX5_parish_8 0 rfl rfl ?_
  refine jn_el hw (fun (z6 : Int32 × PT × PT × HT) => (fun (x2 : Int32) (nv3 : PT) (mv4 : PT) (hhv5 : HT) => xG p l e (rmL 6 0 0 137) s mi args below meth co D A 3 Q 0 0 24 [.int x2] [gObj x an am aq ap al au re pq, gPar cI an nv3, gPar cI am mv4, gPas cQ ap b hhv5, gLet cI al le] [(0, .ref x)]) z6.1 z6.2.1 z6.2.2.1 z6.2.2.2) ?_ ?_
  · rintro ⟨x2, nv3, mv4, hhv5⟩ hw
    show xG p l e (rmL 6 0 0 137) s mi args below meth co D A 3 Q 0 0 24 [.int x2] [gObj x an am aq ap al au re pq, gPar cI an nv3, gPar cI am mv4, gPas cQ ap b hhv5, gLet cI al le] [(0, .ref x)]
    refine g_istore_n (v := x2) C dX5_parish_24 rfl (Nat.le_of_ble_eq_true rfl) (lv' := [(2, .int x2), (0, .ref x)]) rfl rfl ?_
    refine g_aload_n C dX5_parish_25 1 rfl rfl ?_
    refine g_get (v := .ref (al 0)) (ci := 4) C dX5_parish_26 inw_X5 rfl 0 0 4 rfl rfl (Nat.le_of_ble_eq_true rfl) rfl fl_X5_32 rfl rfl ?_
    refine g_callVv (As := []) (gr := [gObj x an am aq ap al au re pq, gPar cI an nv3, gPar cI am mv4, gPas cQ ap b hhv5]) C (c_X1_drop l D cI cQ al le  _) dX5_parish_29 ⟨ml_X5_69, kV_X1_drop⟩ ⟨Nat.le_of_ble_eq_true rfl, Nat.le_of_ble_eq_true rfl⟩ ⟨Nat.le_refl _, Nat.le_refl _⟩ rfl rfl 0 0 rfl rfl [4, 0, 1, 2, 3] 5 rfl pmb_4_0_1_2_3 rfl rfl rfl (Nat.le_of_ble_eq_true rfl) rfl (fun (u : LT) => [gObj x an am aq ap al au re pq, gPar cI an nv3, gPar cI am mv4, gPas cQ ap b hhv5, gLet cI al u]) [1, 2, 3, 4, 0] 5 (fun _ => rfl) pmb_1_2_3_4_0 (fun _ => rfl) hw (fun u7 hw => ?_)
    obtain ⟨lev8, rfl⟩ : ∃ z, z = u7 := ⟨_, rfl⟩
    refine g_iload_n C dX5_parish_32 0 rfl rfl ?_
    exact hret 33 x2 (nv3, mv4, hhv5, lev8) _ dX5_parish_33 hw
  · intro J6 hJ6 hw
    refine g_if_ge (tgt := 19) C dX5_parish_9 (by decide) rfl hw (fun _ hw => ?_) (fun _ hw => ?_)
    · refine g_sipush (v := -1000) C dX5_parish_19 (by decide) rfl ?_
      refine g_iload_n C dX5_parish_22 0 rfl rfl ?_
      refine g_isub C dX5_parish_23 rfl ?_
      refine g_lv [1] rfl ?_
      exact hJ6 (((-1000 : Int32) - r1), n, m, hh) hw
    · refine g_aload_n C dX5_parish_12 1 rfl rfl ?_
      refine g_callVi (As := []) (gr := []) C (c_X5_tellAll l D cI cQ x an am aq ap b al au re pq n m hh le  _) dX5_parish_13 ⟨ml_X5_66, kV_X5_tellAll⟩ ⟨Nat.le_of_ble_eq_true rfl, Nat.le_of_ble_eq_true rfl⟩ ⟨Nat.le_refl _, Nat.le_refl _⟩ rfl rfl 0 0 rfl rfl [0, 1, 2, 3, 4] 5 rfl pmb_0_1_2_3_4 rfl rfl rfl (Nat.le_of_ble_eq_true rfl) rfl (fun (u : PT × PT × HT) => [gObj x an am aq ap al au re pq, gPar cI an u.1, gPar cI am u.2.1, gPas cQ ap b u.2.2, gLet cI al le]) [0, 1, 2, 3, 4] 5 (fun _ => rfl) pmb_0_1_2_3_4 (fun _ => rfl) hw (fun r9 u9 hw => ?_)
      obtain ⟨nv10, mv11, hhv12⟩ := u9
      refine g_goto (pc' := 24) C dX5_parish_16 (by decide) rfl ?_
      refine g_lv [1] rfl ?_
      exact hJ6 (r9, nv10, mv11, hhv12) hw
set_option maxRecDepth 100000 in
theorem c_X5_parish (l : Launch) (D : va_G) (cI cQ : ClassId) (x : Nat) (an : Nat → Nat) (am : Nat → Nat) (aq : Nat → Nat) (ap : Nat → Nat) (b : Nat → Nat → Nat) (al : Nat → Nat) (au : Nat → Nat) (re : Nat) (pq : Int32) (n : PT) (m : PT) (hh : HT) (le : LT) (post : Int32 → PT × PT × HT × LT → Prop) (sz : Nat) : Met l yX5_parish (wsY yX5_parish cX5_parish 3 (some .int)) (rmL 6 0 0 137) (xP D (tyL cI cQ) [.ref x] [gObj x an am aq ap al au re pq, gPar cI an n, gPar cI am m, gPas cQ ap b hh, gLet cI al le] sz (p_X5_parish n m hh le post)) (xQi D (tyL cI cQ) post (fun (u : PT × PT × HT × LT) => [gObj x an am aq ap al au re pq, gPar cI an u.1, gPar cI am u.2.1, gPas cQ ap b u.2.2.1, gLet cI al u.2.2.2]) (va_A [gObj x an am aq ap al au re pq, gPar cI an n, gPar cI am m, gPas cQ ap b hh, gLet cI al le].flatten sz)) 0 0 (va_A [gObj x an am aq ap al au re pq, gPar cI an n, gPar cI am m, gPas cQ ap b hh, gLet cI al le].flatten sz) :=
  Met_i pn_X5 (Nat.le_of_ble_eq_true rfl) (fun p e s mi below meth co A Q _ C hret hw => w_X5_parish x an am aq ap b al au re pq n m hh le C hret hw)
theorem kV_X5_parish : Cond.instanceMethod yX5_parish ∈ gTbl ∧ Cond.selects yX5_parish.cls yX5_parish yX5_parish ∈ gTbl ∧ Cond.initialized yX5_parish.cls ∈ gTbl ∧ Cond.code yX5_parish cX5_parish 3 (some .int) ∈ gTbl ∧ (yX5_parish.cls ≠ "java/lang/invoke/MethodHandle" ∧ yX5_parish.cls ≠ "java/lang/invoke/VarHandle" ∧ (parseMethodDescriptor yX5_parish.desc).map (fun d => d.parameters.length) = some 0) := ⟨im_X5_parish, sl_X5_parish, in_X5, cd_X5_parish, (by decide +kernel)⟩
set_option maxRecDepth 100000 in
def p_X5_houseOf (n : PT) (rf : F1) (p1 : Int32) (p2 : Int32) (post : Int32 → F1 → Prop) : Prop := p_X3_there n p1 (fun (r1 : Int32) => ((r1 = 0 → p_X5_refuse rf (-1 : Int32) (fun (r12 : Int32) (u12 : F1) => (fun (rfv13 : F1) => post r12 rfv13) u12)) ∧ (¬ r1 = 0 → ((p2 = 0 → p_X3_kindOf n p1 (fun (r2 : Int32) => post r2 rf)) ∧ (¬ p2 = 0 → ((p2 = 1 → p_X3_figureOf n p1 (fun (r3 : Int32) => post r3 rf)) ∧ (¬ p2 = 1 → ((p2 = 2 → p_X3_holdsOf n p1 (fun (r4 : Int32) => post r4 rf)) ∧ (¬ p2 = 2 → ((p2 = 3 → p_X3_nextOf n p1 (fun (r5 : Int32) => post r5 rf)) ∧ (¬ p2 = 3 → ((p2 = 4 → p_X3_isBlocked n p1 (fun (r6 : Int32) => ((r6 = 0 → post (0 : Int32) rf) ∧ (¬ r6 = 0 → post (1 : Int32) rf)))) ∧ (¬ p2 = 4 → ((p2 = 5 → p_X3_isWet n p1 (fun (r7 : Int32) => ((r7 = 0 → post (0 : Int32) rf) ∧ (¬ r7 = 0 → post (1 : Int32) rf)))) ∧ (¬ p2 = 5 → ((p2 = 6 → p_X3_isBlocked n p1 (fun (r8 : Int32) => ((r8 = 0 → p_X3_letsThrough n p1 (fun (r9 : Int32) => post r9 rf)) ∧ (¬ r8 = 0 → post (0 : Int32) rf)))) ∧ (¬ p2 = 6 → p_X5_refuse rf (-2 : Int32) (fun (r10 : Int32) (u10 : F1) => (fun (rfv11 : F1) => post r10 rfv11) u10))))))))))))))))))
set_option maxHeartbeats 4000000 in
set_option maxRecDepth 100000 in
theorem w_X5_houseOf {p : Program} {l : Launch} {e : Env} {s : State} {mi : MethodId} {args : Array Value} {below : List Frame} {meth : Method} {co : Code} {D : va_G} {cI cQ : ClassId} {A : Nat → Prop} {Q : State → Prop} (x : Nat) (an : Nat → Nat) (am : Nat → Nat) (aq : Nat → Nat) (ap : Nat → Nat) (b : Nat → Nat → Nat) (al : Nat → Nat) (au : Nat → Nat) (re : Nat) (pq : Int32) (n : PT) (rf : F1) (p1 : Int32) (p2 : Int32) {post : Int32 → F1 → Prop} (C : xC p s mi args co cX5_houseOf RX5 3 D (tyL cI cQ) A) (hret : ∀ (pc : Nat) (r : Int32) (u : F1) (lv : List (Nat × Value)), decode cX5_houseOf pc = .ok (.ireturn, 1) → post r u → xG p l e (rmL 3 0 0 67) s mi args below meth co D A 3 Q 0 0 pc [.int r] [gObj x an am aq ap al au re pq, gPar cI an n, gA cI re 7 u] lv) (hw : p_X5_houseOf n rf p1 p2 post) : xG p l e (rmL 3 0 0 67) s mi args below meth co D A 3 Q 0 0 0 [] [gObj x an am aq ap al au re pq, gPar cI an n, gA cI re 7 rf] [(0, .ref x), (1, .int p1), (2, .int p2)] := by
  unfold p_X5_houseOf at hw
  try dsimp only at hw
  show xG p l e (rmL 3 0 0 67) s mi args below meth co D A 3 Q 0 0 0 [] [gObj x an am aq ap al au re pq, gPar cI an n, gA cI re 7 rf] [(0, .ref x), (1, .int p1), (2, .int p2)]
  refine g_aload_n C dX5_houseOf_0 0 rfl rfl ?_
  refine g_get (v := .ref (an 0)) (ci := 4) C dX5_houseOf_1 inw_X5 rfl 0 0 0 rfl rfl (Nat.le_of_ble_eq_true rfl) rfl fl_X5_10 rfl rfl ?_
  refine g_iload_n C dX5_houseOf_4 1 rfl rfl ?_
  refine g_callVi (As := [.int p1]) (gr := [gObj x an am aq ap al au re pq, gA cI re 7 rf]) C (c_X3_there l D cI cQ an n p1 _) dX5_houseOf_5 ⟨ml_X5_72, kV_X3_there⟩ ⟨Nat.le_of_ble_eq_true rfl, Nat.le_of_ble_eq_true rfl⟩ ⟨Nat.le_refl _, Nat.le_refl _⟩ rfl rfl 0 0 rfl rfl [1, 0, 2] 3 rfl pmb_1_0_2 rfl rfl rfl (Nat.le_of_ble_eq_true rfl) rfl (fun (u : Unit) => [gObj x an am aq ap al au re pq, gPar cI an n, gA cI re 7 rf]) [1, 0, 2] 3 (fun _ => rfl) pmb_1_0_2 (fun _ => rfl) hw (fun r1 u1 hw => ?_)
  refine g_if_ne (tgt := 17) C dX5_houseOf_8 (by decide) rfl hw (fun _ hw => ?_) (fun _ hw => ?_)
  · refine g_iload_n C dX5_houseOf_17 2 rfl rfl ?_
    rcases Classical.em (p2 = 0) with hs18_0 | hs18_0
    · replace hw := hw.1 hs18_0
      refine g_tswIn (pc' := 60) C dX5_houseOf_18 0 hs18_0 (by decide) (by decide) rfl (by decide) ?_
      refine g_aload_n C dX5_houseOf_60 0 rfl rfl ?_
      refine g_get (v := .ref (an 0)) (ci := 4) C dX5_houseOf_61 inw_X5 rfl 0 0 0 rfl rfl (Nat.le_of_ble_eq_true rfl) rfl fl_X5_10 rfl rfl ?_
      refine g_iload_n C dX5_houseOf_64 1 rfl rfl ?_
      refine g_callVi (As := [.int p1]) (gr := [gObj x an am aq ap al au re pq, gA cI re 7 rf]) C (c_X3_kindOf l D cI cQ an n p1 _) dX5_houseOf_65 ⟨ml_X5_75, kV_X3_kindOf⟩ ⟨Nat.le_of_ble_eq_true rfl, Nat.le_of_ble_eq_true rfl⟩ ⟨Nat.le_refl _, Nat.le_refl _⟩ rfl rfl 0 0 rfl rfl [1, 0, 2] 3 rfl pmb_1_0_2 rfl rfl rfl (Nat.le_of_ble_eq_true rfl) rfl (fun (u : Unit) => [gObj x an am aq ap al au re pq, gPar cI an n, gA cI re 7 rf]) [1, 0, 2] 3 (fun _ => rfl) pmb_1_0_2 (fun _ => rfl) hw (fun r2 u2 hw => ?_)
      exact hret 68 r2 rf _ dX5_houseOf_68 hw
    · replace hw := hw.2 hs18_0
      rcases Classical.em (p2 = 1) with hs18_1 | hs18_1
      · replace hw := hw.1 hs18_1
        refine g_tswIn (pc' := 69) C dX5_houseOf_18 1 hs18_1 (by decide) (by decide) rfl (by decide) ?_
        refine g_aload_n C dX5_houseOf_69 0 rfl rfl ?_
        refine g_get (v := .ref (an 0)) (ci := 4) C dX5_houseOf_70 inw_X5 rfl 0 0 0 rfl rfl (Nat.le_of_ble_eq_true rfl) rfl fl_X5_10 rfl rfl ?_
        refine g_iload_n C dX5_houseOf_73 1 rfl rfl ?_
        refine g_callVi (As := [.int p1]) (gr := [gObj x an am aq ap al au re pq, gA cI re 7 rf]) C (c_X3_figureOf l D cI cQ an n p1 _) dX5_houseOf_74 ⟨ml_X5_78, kV_X3_figureOf⟩ ⟨Nat.le_of_ble_eq_true rfl, Nat.le_of_ble_eq_true rfl⟩ ⟨Nat.le_refl _, Nat.le_refl _⟩ rfl rfl 0 0 rfl rfl [1, 0, 2] 3 rfl pmb_1_0_2 rfl rfl rfl (Nat.le_of_ble_eq_true rfl) rfl (fun (u : Unit) => [gObj x an am aq ap al au re pq, gPar cI an n, gA cI re 7 rf]) [1, 0, 2] 3 (fun _ => rfl) pmb_1_0_2 (fun _ => rfl) hw (fun r3 u3 hw => ?_)
        exact hret 77 r3 rf _ dX5_houseOf_77 hw
      · replace hw := hw.2 hs18_1
        rcases Classical.em (p2 = 2) with hs18_2 | hs18_2
        · replace hw := hw.1 hs18_2
          refine g_tswIn (pc' := 78) C dX5_houseOf_18 2 hs18_2 (by decide) (by decide) rfl (by decide) ?_
          refine g_aload_n C dX5_houseOf_78 0 rfl rfl ?_
          refine g_get (v := .ref (an 0)) (ci := 4) C dX5_houseOf_79 inw_X5 rfl 0 0 0 rfl rfl (Nat.le_of_ble_eq_true rfl) rfl fl_X5_10 rfl rfl ?_
          refine g_iload_n C dX5_houseOf_82 1 rfl rfl ?_
          refine g_callVi (As := [.int p1]) (gr := [gObj x an am aq ap al au re pq, gA cI re 7 rf]) C (c_X3_holdsOf l D cI cQ an n p1 _) dX5_houseOf_83 ⟨ml_X5_81, kV_X3_holdsOf⟩ ⟨Nat.le_of_ble_eq_true rfl, Nat.le_of_ble_eq_true rfl⟩ ⟨Nat.le_refl _, Nat.le_refl _⟩ rfl rfl 0 0 rfl rfl [1, 0, 2] 3 rfl pmb_1_0_2 rfl rfl rfl (Nat.le_of_ble_eq_true rfl) rfl (fun (u : Unit) => [gObj x an am aq ap al au re pq, gPar cI an n, gA cI re 7 rf]) [1, 0, 2] 3 (fun _ => rfl) pmb_1_0_2 (fun _ => rfl) hw (fun r4 u4 hw => ?_)
          exact hret 86 r4 rf _ dX5_houseOf_86 hw
        · replace hw := hw.2 hs18_2
          rcases Classical.em (p2 = 3) with hs18_3 | hs18_3
          · replace hw := hw.1 hs18_3
            refine g_tswIn (pc' := 87) C dX5_houseOf_18 3 hs18_3 (by decide) (by decide) rfl (by decide) ?_
            refine g_aload_n C dX5_houseOf_87 0 rfl rfl ?_
            refine g_get (v := .ref (an 0)) (ci := 4) C dX5_houseOf_88 inw_X5 rfl 0 0 0 rfl rfl (Nat.le_of_ble_eq_true rfl) rfl fl_X5_10 rfl rfl ?_
            refine g_iload_n C dX5_houseOf_91 1 rfl rfl ?_
            refine g_callVi (As := [.int p1]) (gr := [gObj x an am aq ap al au re pq, gA cI re 7 rf]) C (c_X3_nextOf l D cI cQ an n p1 _) dX5_houseOf_92 ⟨ml_X5_84, kV_X3_nextOf⟩ ⟨Nat.le_of_ble_eq_true rfl, Nat.le_of_ble_eq_true rfl⟩ ⟨Nat.le_refl _, Nat.le_refl _⟩ rfl rfl 0 0 rfl rfl [1, 0, 2] 3 rfl pmb_1_0_2 rfl rfl rfl (Nat.le_of_ble_eq_true rfl) rfl (fun (u : Unit) => [gObj x an am aq ap al au re pq, gPar cI an n, gA cI re 7 rf]) [1, 0, 2] 3 (fun _ => rfl) pmb_1_0_2 (fun _ => rfl) hw (fun r5 u5 hw => ?_)
            exact hret 95 r5 rf _ dX5_houseOf_95 hw
          · replace hw := hw.2 hs18_3
            rcases Classical.em (p2 = 4) with hs18_4 | hs18_4
            · replace hw := hw.1 hs18_4
              refine g_tswIn (pc' := 96) C dX5_houseOf_18 4 hs18_4 (by decide) (by decide) rfl (by decide) ?_
              refine g_aload_n C dX5_houseOf_96 0 rfl rfl ?_
              refine g_get (v := .ref (an 0)) (ci := 4) C dX5_houseOf_97 inw_X5 rfl 0 0 0 rfl rfl (Nat.le_of_ble_eq_true rfl) rfl fl_X5_10 rfl rfl ?_
              refine g_iload_n C dX5_houseOf_100 1 rfl rfl ?_
              refine g_callVi (As := [.int p1]) (gr := [gObj x an am aq ap al au re pq, gA cI re 7 rf]) C (c_X3_isBlocked l D cI cQ an n p1 _) dX5_houseOf_101 ⟨ml_X5_87, kV_X3_isBlocked⟩ ⟨Nat.le_of_ble_eq_true rfl, Nat.le_of_ble_eq_true rfl⟩ ⟨Nat.le_refl _, Nat.le_refl _⟩ rfl rfl 0 0 rfl rfl [1, 0, 2] 3 rfl pmb_1_0_2 rfl rfl rfl (Nat.le_of_ble_eq_true rfl) rfl (fun (u : Unit) => [gObj x an am aq ap al au re pq, gPar cI an n, gA cI re 7 rf]) [1, 0, 2] 3 (fun _ => rfl) pmb_1_0_2 (fun _ => rfl) hw (fun r6 u6 hw => ?_)
              refine g_if_eq (tgt := 111) C dX5_houseOf_104 (by decide) rfl hw (fun _ hw => ?_) (fun _ hw => ?_)
              · refine g_iconst (v := 0) C dX5_houseOf_111 rfl rfl ?_
                exact hret 112 (0 : Int32) rf _ dX5_houseOf_112 hw
              · refine g_iconst (v := 1) C dX5_houseOf_107 rfl rfl ?_
                refine g_goto (pc' := 112) C dX5_houseOf_108 (by decide) rfl ?_
                exact hret 112 (1 : Int32) rf _ dX5_houseOf_112 hw
            · replace hw := hw.2 hs18_4
              rcases Classical.em (p2 = 5) with hs18_5 | hs18_5
              · replace hw := hw.1 hs18_5
                refine g_tswIn (pc' := 113) C dX5_houseOf_18 5 hs18_5 (by decide) (by decide) rfl (by decide) ?_
                refine g_aload_n C dX5_houseOf_113 0 rfl rfl ?_
                refine g_get (v := .ref (an 0)) (ci := 4) C dX5_houseOf_114 inw_X5 rfl 0 0 0 rfl rfl (Nat.le_of_ble_eq_true rfl) rfl fl_X5_10 rfl rfl ?_
                refine g_iload_n C dX5_houseOf_117 1 rfl rfl ?_
                refine g_callVi (As := [.int p1]) (gr := [gObj x an am aq ap al au re pq, gA cI re 7 rf]) C (c_X3_isWet l D cI cQ an n p1 _) dX5_houseOf_118 ⟨ml_X5_90, kV_X3_isWet⟩ ⟨Nat.le_of_ble_eq_true rfl, Nat.le_of_ble_eq_true rfl⟩ ⟨Nat.le_refl _, Nat.le_refl _⟩ rfl rfl 0 0 rfl rfl [1, 0, 2] 3 rfl pmb_1_0_2 rfl rfl rfl (Nat.le_of_ble_eq_true rfl) rfl (fun (u : Unit) => [gObj x an am aq ap al au re pq, gPar cI an n, gA cI re 7 rf]) [1, 0, 2] 3 (fun _ => rfl) pmb_1_0_2 (fun _ => rfl) hw (fun r7 u7 hw => ?_)
                refine g_if_eq (tgt := 128) C dX5_houseOf_121 (by decide) rfl hw (fun _ hw => ?_) (fun _ hw => ?_)
                · refine g_iconst (v := 0) C dX5_houseOf_128 rfl rfl ?_
                  exact hret 129 (0 : Int32) rf _ dX5_houseOf_129 hw
                · refine g_iconst (v := 1) C dX5_houseOf_124 rfl rfl ?_
                  refine g_goto (pc' := 129) C dX5_houseOf_125 (by decide) rfl ?_
                  exact hret 129 (1 : Int32) rf _ dX5_houseOf_129 hw
              · replace hw := hw.2 hs18_5
                rcases Classical.em (p2 = 6) with hs18_6 | hs18_6
                · replace hw := hw.1 hs18_6
                  refine g_tswIn (pc' := 130) C dX5_houseOf_18 6 hs18_6 (by decide) (by decide) rfl (by decide) ?_
                  refine g_aload_n C dX5_houseOf_130 0 rfl rfl ?_
                  refine g_get (v := .ref (an 0)) (ci := 4) C dX5_houseOf_131 inw_X5 rfl 0 0 0 rfl rfl (Nat.le_of_ble_eq_true rfl) rfl fl_X5_10 rfl rfl ?_
                  refine g_iload_n C dX5_houseOf_134 1 rfl rfl ?_
                  refine g_callVi (As := [.int p1]) (gr := [gObj x an am aq ap al au re pq, gA cI re 7 rf]) C (c_X3_isBlocked l D cI cQ an n p1 _) dX5_houseOf_135 ⟨ml_X5_87, kV_X3_isBlocked⟩ ⟨Nat.le_of_ble_eq_true rfl, Nat.le_of_ble_eq_true rfl⟩ ⟨Nat.le_refl _, Nat.le_refl _⟩ rfl rfl 0 0 rfl rfl [1, 0, 2] 3 rfl pmb_1_0_2 rfl rfl rfl (Nat.le_of_ble_eq_true rfl) rfl (fun (u : Unit) => [gObj x an am aq ap al au re pq, gPar cI an n, gA cI re 7 rf]) [1, 0, 2] 3 (fun _ => rfl) pmb_1_0_2 (fun _ => rfl) hw (fun r8 u8 hw => ?_)
                  refine g_if_eq (tgt := 145) C dX5_houseOf_138 (by decide) rfl hw (fun _ hw => ?_) (fun _ hw => ?_)
                  · refine g_aload_n C dX5_houseOf_145 0 rfl rfl ?_
                    refine g_get (v := .ref (an 0)) (ci := 4) C dX5_houseOf_146 inw_X5 rfl 0 0 0 rfl rfl (Nat.le_of_ble_eq_true rfl) rfl fl_X5_10 rfl rfl ?_
                    refine g_iload_n C dX5_houseOf_149 1 rfl rfl ?_
                    refine g_callVi (As := [.int p1]) (gr := [gObj x an am aq ap al au re pq, gA cI re 7 rf]) C (c_X3_letsThrough l D cI cQ an n p1 _) dX5_houseOf_150 ⟨ml_X5_93, kV_X3_letsThrough⟩ ⟨Nat.le_of_ble_eq_true rfl, Nat.le_of_ble_eq_true rfl⟩ ⟨Nat.le_refl _, Nat.le_refl _⟩ rfl rfl 0 0 rfl rfl [1, 0, 2] 3 rfl pmb_1_0_2 rfl rfl rfl (Nat.le_of_ble_eq_true rfl) rfl (fun (u : Unit) => [gObj x an am aq ap al au re pq, gPar cI an n, gA cI re 7 rf]) [1, 0, 2] 3 (fun _ => rfl) pmb_1_0_2 (fun _ => rfl) hw (fun r9 u9 hw => ?_)
                    exact hret 153 r9 rf _ dX5_houseOf_153 hw
                  · refine g_iconst (v := 0) C dX5_houseOf_141 rfl rfl ?_
                    refine g_goto (pc' := 153) C dX5_houseOf_142 (by decide) rfl ?_
                    exact hret 153 (0 : Int32) rf _ dX5_houseOf_153 hw
                · replace hw := hw.2 hs18_6
                  have ht18 : (p2).toInt < 0 ∨ 6 < (p2).toInt := by
                    have q0 := lv_neT (a := 0) hs18_0 (by decide)
                    have q1 := lv_neT (a := 1) hs18_1 (by decide)
                    have q2 := lv_neT (a := 2) hs18_2 (by decide)
                    have q3 := lv_neT (a := 3) hs18_3 (by decide)
                    have q4 := lv_neT (a := 4) hs18_4 (by decide)
                    have q5 := lv_neT (a := 5) hs18_5 (by decide)
                    have q6 := lv_neT (a := 6) hs18_6 (by decide)
                    omega
                  refine g_tswOut (pc' := 154) C dX5_houseOf_18 ht18 (by decide) ?_
                  refine g_aload_n C dX5_houseOf_154 0 rfl rfl ?_
                  refine g_bipush (v := -2) C dX5_houseOf_155 (by decide) rfl ?_
                  refine g_callVi (As := [.int (-2 : Int32)]) (gr := [gPar cI an n]) C (c_X5_refuse l D cI cQ x an am aq ap b al au re pq rf (-2 : Int32) _) dX5_houseOf_157 ⟨ml_X5_51, kV_X5_refuse⟩ ⟨Nat.le_of_ble_eq_true rfl, Nat.le_of_ble_eq_true rfl⟩ ⟨Nat.le_refl _, Nat.le_refl _⟩ rfl rfl 0 0 rfl rfl [0, 2, 1] 3 rfl pmb_0_2_1 rfl rfl rfl (Nat.le_of_ble_eq_true rfl) rfl (fun (u : F1) => [gObj x an am aq ap al au re pq, gPar cI an n, gA cI re 7 u]) [0, 2, 1] 3 (fun _ => rfl) pmb_0_2_1 (fun _ => rfl) hw (fun r10 u10 hw => ?_)
                  obtain ⟨rfv11, rfl⟩ : ∃ z, z = u10 := ⟨_, rfl⟩
                  exact hret 160 r10 rfv11 _ dX5_houseOf_160 hw
  · refine g_aload_n C dX5_houseOf_11 0 rfl rfl ?_
    refine g_iconst (v := -1) C dX5_houseOf_12 (by decide) rfl ?_
    refine g_callVi (As := [.int (-1 : Int32)]) (gr := [gPar cI an n]) C (c_X5_refuse l D cI cQ x an am aq ap b al au re pq rf (-1 : Int32) _) dX5_houseOf_13 ⟨ml_X5_51, kV_X5_refuse⟩ ⟨Nat.le_of_ble_eq_true rfl, Nat.le_of_ble_eq_true rfl⟩ ⟨Nat.le_refl _, Nat.le_refl _⟩ rfl rfl 0 0 rfl rfl [0, 2, 1] 3 rfl pmb_0_2_1 rfl rfl rfl (Nat.le_of_ble_eq_true rfl) rfl (fun (u : F1) => [gObj x an am aq ap al au re pq, gPar cI an n, gA cI re 7 u]) [0, 2, 1] 3 (fun _ => rfl) pmb_0_2_1 (fun _ => rfl) hw (fun r12 u12 hw => ?_)
    obtain ⟨rfv13, rfl⟩ : ∃ z, z = u12 := ⟨_, rfl⟩
    exact hret 16 r12 rfv13 _ dX5_houseOf_16 hw
set_option maxRecDepth 100000 in
theorem c_X5_houseOf (l : Launch) (D : va_G) (cI cQ : ClassId) (x : Nat) (an : Nat → Nat) (am : Nat → Nat) (aq : Nat → Nat) (ap : Nat → Nat) (b : Nat → Nat → Nat) (al : Nat → Nat) (au : Nat → Nat) (re : Nat) (pq : Int32) (n : PT) (rf : F1) (p1 : Int32) (p2 : Int32) (post : Int32 → F1 → Prop) (sz : Nat) : Met l yX5_houseOf (wsY yX5_houseOf cX5_houseOf 3 (some .int)) (rmL 3 0 0 67) (xP D (tyL cI cQ) [.ref x, .int p1, .int p2] [gObj x an am aq ap al au re pq, gPar cI an n, gA cI re 7 rf] sz (p_X5_houseOf n rf p1 p2 post)) (xQi D (tyL cI cQ) post (fun (u : F1) => [gObj x an am aq ap al au re pq, gPar cI an n, gA cI re 7 u]) (va_A [gObj x an am aq ap al au re pq, gPar cI an n, gA cI re 7 rf].flatten sz)) 0 0 (va_A [gObj x an am aq ap al au re pq, gPar cI an n, gA cI re 7 rf].flatten sz) :=
  Met_i pn_X5 (Nat.le_of_ble_eq_true rfl) (fun p e s mi below meth co A Q _ C hret hw => w_X5_houseOf x an am aq ap b al au re pq n rf p1 p2 C hret hw)
theorem kV_X5_houseOf : Cond.instanceMethod yX5_houseOf ∈ gTbl ∧ Cond.selects yX5_houseOf.cls yX5_houseOf yX5_houseOf ∈ gTbl ∧ Cond.initialized yX5_houseOf.cls ∈ gTbl ∧ Cond.code yX5_houseOf cX5_houseOf 3 (some .int) ∈ gTbl ∧ (yX5_houseOf.cls ≠ "java/lang/invoke/MethodHandle" ∧ yX5_houseOf.cls ≠ "java/lang/invoke/VarHandle" ∧ (parseMethodDescriptor yX5_houseOf.desc).map (fun d => d.parameters.length) = some 2) := ⟨im_X5_houseOf, sl_X5_houseOf, in_X5, cd_X5_houseOf, (by decide +kernel)⟩
set_option maxRecDepth 100000 in
def p_X5_house (n : PT) (hh : HT) (rf : F1) (p1 : Int32) (p2 : Int32) (post : Int32 → PT × HT × F1 → Prop) : Prop := jn (fun (z1 : Unit) => p_X5_refuse rf (-2 : Int32) (fun (r2 : Int32) (u2 : F1) => (fun (rfv3 : F1) => post r2 (n, hh, rfv3)) u2)) (fun J1 => ((p1 < 0 → J1 ()) ∧ (¬ p1 < 0 → ((p1 ≤ (5 : Int32) → p_X5_outside p2 (0 : Int32) (9 : Int32) (fun (r4 : Int32) => ((r4 = 0 → p_X3_build n p1 p2 (fun (r5 : Int32) (u5 : PT) => (fun (nv6 : PT) => ((r5 = 0 → p_X5_refuse rf (-6 : Int32) (fun (r10 : Int32) (u10 : F1) => (fun (rfv11 : F1) => post r10 (nv6, hh, rfv11)) u10)) ∧ (¬ r5 = 0 → p_X4_forget hh (fun (u7 : HT) => (fun (hhv8 : HT) => p_X3_houses nv6 (fun (r9 : Int32) => post (r9 - (1 : Int32)) (nv6, hhv8, rf))) u7)))) u5)) ∧ (¬ r4 = 0 → p_X5_refuse rf r4 (fun (r12 : Int32) (u12 : F1) => (fun (rfv13 : F1) => post r12 (n, hh, rfv13)) u12))))) ∧ (¬ p1 ≤ (5 : Int32) → J1 ())))))
set_option maxHeartbeats 4000000 in
set_option maxRecDepth 100000 in
theorem w_X5_house {p : Program} {l : Launch} {e : Env} {s : State} {mi : MethodId} {args : Array Value} {below : List Frame} {meth : Method} {co : Code} {D : va_G} {cI cQ : ClassId} {A : Nat → Prop} {Q : State → Prop} (x : Nat) (an : Nat → Nat) (am : Nat → Nat) (aq : Nat → Nat) (ap : Nat → Nat) (b : Nat → Nat → Nat) (al : Nat → Nat) (au : Nat → Nat) (re : Nat) (pq : Int32) (n : PT) (hh : HT) (rf : F1) (p1 : Int32) (p2 : Int32) {post : Int32 → PT × HT × F1 → Prop} (C : xC p s mi args co cX5_house RX5 4 D (tyL cI cQ) A) (hret : ∀ (pc : Nat) (r : Int32) (u : PT × HT × F1) (lv : List (Nat × Value)), decode cX5_house pc = .ok (.ireturn, 1) → post r u → xG p l e (rmL 1 0 0 22) s mi args below meth co D A 4 Q 0 0 pc [.int r] [gObj x an am aq ap al au re pq, gPar cI an u.1, gPas cQ ap b u.2.1, gA cI re 7 u.2.2] lv) (hw : p_X5_house n hh rf p1 p2 post) : xG p l e (rmL 1 0 0 22) s mi args below meth co D A 4 Q 0 0 0 [] [gObj x an am aq ap al au re pq, gPar cI an n, gPas cQ ap b hh, gA cI re 7 rf] [(0, .ref x), (1, .int p1), (2, .int p2)] := by
  unfold p_X5_house at hw
  try dsimp only at hw
  show xG p l e (rmL 1 0 0 22) s mi args below meth co D A 4 Q 0 0 0 [] [gObj x an am aq ap al au re pq, gPar cI an n, gPas cQ ap b hh, gA cI re 7 rf] [(0, .ref x), (1, .int p1), (2, .int p2)]
  refine g_iload_n C dX5_house_0 1 rfl rfl ?_
  refine jn_el hw (fun (z1 : Unit) => xG p l e (rmL 1 0 0 22) s mi args below meth co D A 4 Q 0 0 9 [] [gObj x an am aq ap al au re pq, gPar cI an n, gPas cQ ap b hh, gA cI re 7 rf] [(0, .ref x)]) ?_ ?_
  · rintro _ hw
    show xG p l e (rmL 1 0 0 22) s mi args below meth co D A 4 Q 0 0 9 [] [gObj x an am aq ap al au re pq, gPar cI an n, gPas cQ ap b hh, gA cI re 7 rf] [(0, .ref x)]
    refine g_aload_n C dX5_house_9 0 rfl rfl ?_
    refine g_bipush (v := -2) C dX5_house_10 (by decide) rfl ?_
    refine g_callVi (As := [.int (-2 : Int32)]) (gr := [gPar cI an n, gPas cQ ap b hh]) C (c_X5_refuse l D cI cQ x an am aq ap b al au re pq rf (-2 : Int32) _) dX5_house_12 ⟨ml_X5_51, kV_X5_refuse⟩ ⟨Nat.le_of_ble_eq_true rfl, Nat.le_of_ble_eq_true rfl⟩ ⟨Nat.le_refl _, Nat.le_refl _⟩ rfl rfl 0 0 rfl rfl [0, 3, 1, 2] 4 rfl pmb_0_3_1_2 rfl rfl rfl (Nat.le_of_ble_eq_true rfl) rfl (fun (u : F1) => [gObj x an am aq ap al au re pq, gPar cI an n, gPas cQ ap b hh, gA cI re 7 u]) [0, 2, 3, 1] 4 (fun _ => rfl) pmb_0_2_3_1 (fun _ => rfl) hw (fun r2 u2 hw => ?_)
    obtain ⟨rfv3, rfl⟩ : ∃ z, z = u2 := ⟨_, rfl⟩
    exact hret 15 r2 (n, hh, rfv3) _ dX5_house_15 hw
  · intro J1 hJ1 hw
    refine g_if_lt (tgt := 9) C dX5_house_1 (by decide) rfl hw (fun _ hw => ?_) (fun _ hw => ?_)
    · refine g_lv [0] rfl ?_
      exact hJ1 () hw
    · refine g_iload_n C dX5_house_4 1 rfl rfl ?_
      refine g_iconst (v := 5) C dX5_house_5 rfl rfl ?_
      refine g_icmp_le (tgt := 16) C dX5_house_6 (by decide) rfl hw (fun _ hw => ?_) (fun _ hw => ?_)
      · refine g_iload_n C dX5_house_16 2 rfl rfl ?_
        refine g_iconst (v := 0) C dX5_house_17 rfl rfl ?_
        refine g_bipush (v := 9) C dX5_house_18 (by decide) rfl ?_
        refine g_callSi (As := [.int p2, .int (0 : Int32), .int (9 : Int32)]) (gr := [gObj x an am aq ap al au re pq, gPar cI an n, gPas cQ ap b hh, gA cI re 7 rf]) C (c_X5_outside l D cI cQ   p2 (0 : Int32) (9 : Int32) _) dX5_house_20 ⟨ml_X5_47, kS_X5_outside⟩ ⟨Nat.le_of_ble_eq_true rfl, Nat.le_of_ble_eq_true rfl⟩ ⟨Nat.le_refl _, Nat.le_refl _⟩ [0, 1, 2, 3] 4 rfl pmb_0_1_2_3 rfl rfl rfl (Nat.le_of_ble_eq_true rfl) rfl (fun (u : Unit) => [gObj x an am aq ap al au re pq, gPar cI an n, gPas cQ ap b hh, gA cI re 7 rf]) [0, 1, 2, 3] 4 (fun _ => rfl) pmb_0_1_2_3 (fun _ => rfl) hw (fun r4 u4 hw => ?_)
        refine g_istore_n (v := r4) C dX5_house_23 rfl (Nat.le_of_ble_eq_true rfl) (lv' := [(3, .int r4), (0, .ref x), (1, .int p1), (2, .int p2)]) rfl rfl ?_
        refine g_iload_n C dX5_house_24 0 rfl rfl ?_
        refine g_if_eq (tgt := 34) C dX5_house_25 (by decide) rfl hw (fun _ hw => ?_) (fun _ hw => ?_)
        · refine g_aload_n C dX5_house_34 1 rfl rfl ?_
          refine g_get (v := .ref (an 0)) (ci := 4) C dX5_house_35 inw_X5 rfl 0 0 0 rfl rfl (Nat.le_of_ble_eq_true rfl) rfl fl_X5_10 rfl rfl ?_
          refine g_iload_n C dX5_house_38 2 rfl rfl ?_
          refine g_iload_n C dX5_house_39 3 rfl rfl ?_
          refine g_callVi (As := [.int p1, .int p2]) (gr := [gObj x an am aq ap al au re pq, gPas cQ ap b hh, gA cI re 7 rf]) C (c_X3_build l D cI cQ an n p1 p2 _) dX5_house_40 ⟨ml_X5_96, kV_X3_build⟩ ⟨Nat.le_of_ble_eq_true rfl, Nat.le_of_ble_eq_true rfl⟩ ⟨Nat.le_refl _, Nat.le_refl _⟩ rfl rfl 0 0 rfl rfl [1, 0, 2, 3] 4 rfl pmb_1_0_2_3 rfl rfl rfl (Nat.le_of_ble_eq_true rfl) rfl (fun (u : PT) => [gObj x an am aq ap al au re pq, gPar cI an u, gPas cQ ap b hh, gA cI re 7 rf]) [1, 0, 2, 3] 4 (fun _ => rfl) pmb_1_0_2_3 (fun _ => rfl) hw (fun r5 u5 hw => ?_)
          obtain ⟨nv6, rfl⟩ : ∃ z, z = u5 := ⟨_, rfl⟩
          refine g_if_ne (tgt := 53) C dX5_house_43 (by decide) rfl hw (fun _ hw => ?_) (fun _ hw => ?_)
          · refine g_aload_n C dX5_house_53 1 rfl rfl ?_
            refine g_get (v := .ref (ap 0)) (ci := 4) C dX5_house_54 inw_X5 rfl 0 0 3 rfl rfl (Nat.le_of_ble_eq_true rfl) rfl fl_X5_25 rfl rfl ?_
            refine g_callVv (As := []) (gr := [gObj x an am aq ap al au re pq, gPar cI an nv6, gA cI re 7 rf]) C (c_X4_forget l D cI cQ ap b hh  _) dX5_house_57 ⟨ml_X5_100, kV_X4_forget⟩ ⟨Nat.le_of_ble_eq_true rfl, Nat.le_of_ble_eq_true rfl⟩ ⟨Nat.le_refl _, Nat.le_refl _⟩ rfl rfl 0 0 rfl rfl [2, 0, 1, 3] 4 rfl pmb_2_0_1_3 rfl rfl rfl (Nat.le_of_ble_eq_true rfl) rfl (fun (u : HT) => [gObj x an am aq ap al au re pq, gPar cI an nv6, gPas cQ ap b u, gA cI re 7 rf]) [1, 2, 0, 3] 4 (fun _ => rfl) pmb_1_2_0_3 (fun _ => rfl) hw (fun u7 hw => ?_)
            obtain ⟨hhv8, rfl⟩ : ∃ z, z = u7 := ⟨_, rfl⟩
            refine g_aload_n C dX5_house_60 1 rfl rfl ?_
            refine g_get (v := .ref (an 0)) (ci := 4) C dX5_house_61 inw_X5 rfl 0 0 0 rfl rfl (Nat.le_of_ble_eq_true rfl) rfl fl_X5_10 rfl rfl ?_
            refine g_callVi (As := []) (gr := [gObj x an am aq ap al au re pq, gPas cQ ap b hhv8, gA cI re 7 rf]) C (c_X3_houses l D cI cQ an nv6  _) dX5_house_64 ⟨ml_X5_103, kV_X3_houses⟩ ⟨Nat.le_of_ble_eq_true rfl, Nat.le_of_ble_eq_true rfl⟩ ⟨Nat.le_refl _, Nat.le_refl _⟩ rfl rfl 0 0 rfl rfl [1, 0, 2, 3] 4 rfl pmb_1_0_2_3 rfl rfl rfl (Nat.le_of_ble_eq_true rfl) rfl (fun (u : Unit) => [gObj x an am aq ap al au re pq, gPar cI an nv6, gPas cQ ap b hhv8, gA cI re 7 rf]) [1, 0, 2, 3] 4 (fun _ => rfl) pmb_1_0_2_3 (fun _ => rfl) hw (fun r9 u9 hw => ?_)
            refine g_iconst (v := 1) C dX5_house_67 rfl rfl ?_
            refine g_isub C dX5_house_68 rfl ?_
            exact hret 69 (r9 - (1 : Int32)) (nv6, hhv8, rf) _ dX5_house_69 hw
          · refine g_aload_n C dX5_house_46 1 rfl rfl ?_
            refine g_bipush (v := -6) C dX5_house_47 (by decide) rfl ?_
            refine g_callVi (As := [.int (-6 : Int32)]) (gr := [gPar cI an nv6, gPas cQ ap b hh]) C (c_X5_refuse l D cI cQ x an am aq ap b al au re pq rf (-6 : Int32) _) dX5_house_49 ⟨ml_X5_51, kV_X5_refuse⟩ ⟨Nat.le_of_ble_eq_true rfl, Nat.le_of_ble_eq_true rfl⟩ ⟨Nat.le_refl _, Nat.le_refl _⟩ rfl rfl 0 0 rfl rfl [0, 3, 1, 2] 4 rfl pmb_0_3_1_2 rfl rfl rfl (Nat.le_of_ble_eq_true rfl) rfl (fun (u : F1) => [gObj x an am aq ap al au re pq, gPar cI an nv6, gPas cQ ap b hh, gA cI re 7 u]) [0, 2, 3, 1] 4 (fun _ => rfl) pmb_0_2_3_1 (fun _ => rfl) hw (fun r10 u10 hw => ?_)
            obtain ⟨rfv11, rfl⟩ : ∃ z, z = u10 := ⟨_, rfl⟩
            exact hret 52 r10 (nv6, hh, rfv11) _ dX5_house_52 hw
        · refine g_aload_n C dX5_house_28 1 rfl rfl ?_
          refine g_iload_n C dX5_house_29 0 rfl rfl ?_
          refine g_callVi (As := [.int r4]) (gr := [gPar cI an n, gPas cQ ap b hh]) C (c_X5_refuse l D cI cQ x an am aq ap b al au re pq rf r4 _) dX5_house_30 ⟨ml_X5_51, kV_X5_refuse⟩ ⟨Nat.le_of_ble_eq_true rfl, Nat.le_of_ble_eq_true rfl⟩ ⟨Nat.le_refl _, Nat.le_refl _⟩ rfl rfl 0 0 rfl rfl [0, 3, 1, 2] 4 rfl pmb_0_3_1_2 rfl rfl rfl (Nat.le_of_ble_eq_true rfl) rfl (fun (u : F1) => [gObj x an am aq ap al au re pq, gPar cI an n, gPas cQ ap b hh, gA cI re 7 u]) [0, 2, 3, 1] 4 (fun _ => rfl) pmb_0_2_3_1 (fun _ => rfl) hw (fun r12 u12 hw => ?_)
          obtain ⟨rfv13, rfl⟩ : ∃ z, z = u12 := ⟨_, rfl⟩
          exact hret 33 r12 (n, hh, rfv13) _ dX5_house_33 hw
      · refine g_lv [0] rfl ?_
        exact hJ1 () hw
set_option maxRecDepth 100000 in
theorem c_X5_house (l : Launch) (D : va_G) (cI cQ : ClassId) (x : Nat) (an : Nat → Nat) (am : Nat → Nat) (aq : Nat → Nat) (ap : Nat → Nat) (b : Nat → Nat → Nat) (al : Nat → Nat) (au : Nat → Nat) (re : Nat) (pq : Int32) (n : PT) (hh : HT) (rf : F1) (p1 : Int32) (p2 : Int32) (post : Int32 → PT × HT × F1 → Prop) (sz : Nat) : Met l yX5_house (wsY yX5_house cX5_house 4 (some .int)) (rmL 1 0 0 22) (xP D (tyL cI cQ) [.ref x, .int p1, .int p2] [gObj x an am aq ap al au re pq, gPar cI an n, gPas cQ ap b hh, gA cI re 7 rf] sz (p_X5_house n hh rf p1 p2 post)) (xQi D (tyL cI cQ) post (fun (u : PT × HT × F1) => [gObj x an am aq ap al au re pq, gPar cI an u.1, gPas cQ ap b u.2.1, gA cI re 7 u.2.2]) (va_A [gObj x an am aq ap al au re pq, gPar cI an n, gPas cQ ap b hh, gA cI re 7 rf].flatten sz)) 0 0 (va_A [gObj x an am aq ap al au re pq, gPar cI an n, gPas cQ ap b hh, gA cI re 7 rf].flatten sz) :=
  Met_i pn_X5 (Nat.le_of_ble_eq_true rfl) (fun p e s mi below meth co A Q _ C hret hw => w_X5_house x an am aq ap b al au re pq n hh rf p1 p2 C hret hw)
theorem kV_X5_house : Cond.instanceMethod yX5_house ∈ gTbl ∧ Cond.selects yX5_house.cls yX5_house yX5_house ∈ gTbl ∧ Cond.initialized yX5_house.cls ∈ gTbl ∧ Cond.code yX5_house cX5_house 4 (some .int) ∈ gTbl ∧ (yX5_house.cls ≠ "java/lang/invoke/MethodHandle" ∧ yX5_house.cls ≠ "java/lang/invoke/VarHandle" ∧ (parseMethodDescriptor yX5_house.desc).map (fun d => d.parameters.length) = some 2) := ⟨im_X5_house, sl_X5_house, in_X5, cd_X5_house, (by decide +kernel)⟩
set_option maxRecDepth 100000 in
def p_X5_joins (n : PT) (hh : HT) (P : (Nat → PT)) (rf : F1) (p1 : Int32) (p2 : Int32) (post : Int32 → PT × HT × (Nat → PT) × F1 → Prop) : Prop := p_X3_there n p1 (fun (r1 : Int32) => jn (fun (z2 : Unit) => p_X5_refuse rf (-1 : Int32) (fun (r3 : Int32) (u3 : F1) => (fun (rfv4 : F1) => post r3 (n, hh, P, rfv4)) u3)) (fun J2 => ((r1 = 0 → J2 ()) ∧ (¬ r1 = 0 → ((p2 < 0 → J2 ()) ∧ (¬ p2 < 0 → ((p2 ≤ (9 : Int32) → ((p1 < p2 → p_X4_keep hh P n (fun (u5 : HT × (Nat → PT)) => (fun (hhv6 : HT) (Pv7 : (Nat → PT)) => p_X3_nextOf n p1 (fun (r8 : Int32) => p_X3_lead n p1 p2 (fun (r9 : Int32) (u9 : PT) => (fun (nv10 : PT) => post r8 (nv10, hhv6, Pv7, rf)) u9))) u5.1 u5.2)) ∧ (¬ p1 < p2 → p_X5_refuse rf (-3 : Int32) (fun (r11 : Int32) (u11 : F1) => (fun (rfv12 : F1) => post r11 (n, hh, P, rfv12)) u11)))) ∧ (¬ p2 ≤ (9 : Int32) → J2 ()))))))))
set_option maxHeartbeats 4000000 in
set_option maxRecDepth 100000 in
theorem w_X5_joins {p : Program} {l : Launch} {e : Env} {s : State} {mi : MethodId} {args : Array Value} {below : List Frame} {meth : Method} {co : Code} {D : va_G} {cI cQ : ClassId} {A : Nat → Prop} {Q : State → Prop} (x : Nat) (an : Nat → Nat) (am : Nat → Nat) (aq : Nat → Nat) (ap : Nat → Nat) (b : Nat → Nat → Nat) (al : Nat → Nat) (au : Nat → Nat) (re : Nat) (pq : Int32) (n : PT) (hh : HT) (P : (Nat → PT)) (rf : F1) (p1 : Int32) (p2 : Int32) {post : Int32 → PT × HT × (Nat → PT) × F1 → Prop} (C : xC p s mi args co cX5_joins RX5 4 D (tyL cI cQ) A) (hret : ∀ (pc : Nat) (r : Int32) (u : PT × HT × (Nat → PT) × F1) (lv : List (Nat × Value)), decode cX5_joins pc = .ok (.ireturn, 1) → post r u → xG p l e (rmL 3 0 0 83) s mi args below meth co D A 4 Q 0 0 pc [.int r] [gObj x an am aq ap al au re pq, gPar cI an u.1, gPas cQ ap b u.2.1, gPar cI (b 0) (u.2.2.1 0), gPar cI (b 1) (u.2.2.1 1), gPar cI (b 2) (u.2.2.1 2), gPar cI (b 3) (u.2.2.1 3), gPar cI (b 4) (u.2.2.1 4), gPar cI (b 5) (u.2.2.1 5), gPar cI (b 6) (u.2.2.1 6), gPar cI (b 7) (u.2.2.1 7), gA cI re 7 u.2.2.2] lv) (hw : p_X5_joins n hh P rf p1 p2 post) : xG p l e (rmL 3 0 0 83) s mi args below meth co D A 4 Q 0 0 0 [] [gObj x an am aq ap al au re pq, gPar cI an n, gPas cQ ap b hh, gPar cI (b 0) (P 0), gPar cI (b 1) (P 1), gPar cI (b 2) (P 2), gPar cI (b 3) (P 3), gPar cI (b 4) (P 4), gPar cI (b 5) (P 5), gPar cI (b 6) (P 6), gPar cI (b 7) (P 7), gA cI re 7 rf] [(0, .ref x), (1, .int p1), (2, .int p2)] := by
  unfold p_X5_joins at hw
  try dsimp only at hw
  show xG p l e (rmL 3 0 0 83) s mi args below meth co D A 4 Q 0 0 0 [] [gObj x an am aq ap al au re pq, gPar cI an n, gPas cQ ap b hh, gPar cI (b 0) (P 0), gPar cI (b 1) (P 1), gPar cI (b 2) (P 2), gPar cI (b 3) (P 3), gPar cI (b 4) (P 4), gPar cI (b 5) (P 5), gPar cI (b 6) (P 6), gPar cI (b 7) (P 7), gA cI re 7 rf] [(0, .ref x), (1, .int p1), (2, .int p2)]
  refine g_aload_n C dX5_joins_0 0 rfl rfl ?_
  refine g_get (v := .ref (an 0)) (ci := 4) C dX5_joins_1 inw_X5 rfl 0 0 0 rfl rfl (Nat.le_of_ble_eq_true rfl) rfl fl_X5_10 rfl rfl ?_
  refine g_iload_n C dX5_joins_4 1 rfl rfl ?_
  refine g_callVi (As := [.int p1]) (gr := [gObj x an am aq ap al au re pq, gPas cQ ap b hh, gPar cI (b 0) (P 0), gPar cI (b 1) (P 1), gPar cI (b 2) (P 2), gPar cI (b 3) (P 3), gPar cI (b 4) (P 4), gPar cI (b 5) (P 5), gPar cI (b 6) (P 6), gPar cI (b 7) (P 7), gA cI re 7 rf]) C (c_X3_there l D cI cQ an n p1 _) dX5_joins_5 ⟨ml_X5_72, kV_X3_there⟩ ⟨Nat.le_of_ble_eq_true rfl, Nat.le_of_ble_eq_true rfl⟩ ⟨Nat.le_refl _, Nat.le_refl _⟩ rfl rfl 0 0 rfl rfl [1, 0, 2, 3, 4, 5, 6, 7, 8, 9, 10, 11] 12 rfl pmb_1_0_2_3_4_5_6_7_8_9_10_11 rfl rfl rfl (Nat.le_of_ble_eq_true rfl) rfl (fun (u : Unit) => [gObj x an am aq ap al au re pq, gPar cI an n, gPas cQ ap b hh, gPar cI (b 0) (P 0), gPar cI (b 1) (P 1), gPar cI (b 2) (P 2), gPar cI (b 3) (P 3), gPar cI (b 4) (P 4), gPar cI (b 5) (P 5), gPar cI (b 6) (P 6), gPar cI (b 7) (P 7), gA cI re 7 rf]) [1, 0, 2, 3, 4, 5, 6, 7, 8, 9, 10, 11] 12 (fun _ => rfl) pmb_1_0_2_3_4_5_6_7_8_9_10_11 (fun _ => rfl) hw (fun r1 u1 hw => ?_)
  refine jn_el hw (fun (z2 : Unit) => xG p l e (rmL 3 0 0 83) s mi args below meth co D A 4 Q 0 0 21 [] [gObj x an am aq ap al au re pq, gPar cI an n, gPas cQ ap b hh, gPar cI (b 0) (P 0), gPar cI (b 1) (P 1), gPar cI (b 2) (P 2), gPar cI (b 3) (P 3), gPar cI (b 4) (P 4), gPar cI (b 5) (P 5), gPar cI (b 6) (P 6), gPar cI (b 7) (P 7), gA cI re 7 rf] [(0, .ref x)]) ?_ ?_
  · rintro _ hw
    show xG p l e (rmL 3 0 0 83) s mi args below meth co D A 4 Q 0 0 21 [] [gObj x an am aq ap al au re pq, gPar cI an n, gPas cQ ap b hh, gPar cI (b 0) (P 0), gPar cI (b 1) (P 1), gPar cI (b 2) (P 2), gPar cI (b 3) (P 3), gPar cI (b 4) (P 4), gPar cI (b 5) (P 5), gPar cI (b 6) (P 6), gPar cI (b 7) (P 7), gA cI re 7 rf] [(0, .ref x)]
    refine g_aload_n C dX5_joins_21 0 rfl rfl ?_
    refine g_iconst (v := -1) C dX5_joins_22 (by decide) rfl ?_
    refine g_callVi (As := [.int (-1 : Int32)]) (gr := [gPar cI an n, gPas cQ ap b hh, gPar cI (b 0) (P 0), gPar cI (b 1) (P 1), gPar cI (b 2) (P 2), gPar cI (b 3) (P 3), gPar cI (b 4) (P 4), gPar cI (b 5) (P 5), gPar cI (b 6) (P 6), gPar cI (b 7) (P 7)]) C (c_X5_refuse l D cI cQ x an am aq ap b al au re pq rf (-1 : Int32) _) dX5_joins_23 ⟨ml_X5_51, kV_X5_refuse⟩ ⟨Nat.le_of_ble_eq_true rfl, Nat.le_of_ble_eq_true rfl⟩ ⟨Nat.le_refl _, Nat.le_refl _⟩ rfl rfl 0 0 rfl rfl [0, 11, 1, 2, 3, 4, 5, 6, 7, 8, 9, 10] 12 rfl pmb_0_11_1_2_3_4_5_6_7_8_9_10 rfl rfl rfl (Nat.le_of_ble_eq_true rfl) rfl (fun (u : F1) => [gObj x an am aq ap al au re pq, gPar cI an n, gPas cQ ap b hh, gPar cI (b 0) (P 0), gPar cI (b 1) (P 1), gPar cI (b 2) (P 2), gPar cI (b 3) (P 3), gPar cI (b 4) (P 4), gPar cI (b 5) (P 5), gPar cI (b 6) (P 6), gPar cI (b 7) (P 7), gA cI re 7 u]) [0, 2, 3, 4, 5, 6, 7, 8, 9, 10, 11, 1] 12 (fun _ => rfl) pmb_0_2_3_4_5_6_7_8_9_10_11_1 (fun _ => rfl) hw (fun r3 u3 hw => ?_)
    obtain ⟨rfv4, rfl⟩ : ∃ z, z = u3 := ⟨_, rfl⟩
    exact hret 26 r3 (n, hh, P, rfv4) _ dX5_joins_26 hw
  · intro J2 hJ2 hw
    refine g_if_eq (tgt := 21) C dX5_joins_8 (by decide) rfl hw (fun _ hw => ?_) (fun _ hw => ?_)
    · refine g_lv [0] rfl ?_
      exact hJ2 () hw
    · refine g_iload_n C dX5_joins_11 2 rfl rfl ?_
      refine g_if_lt (tgt := 21) C dX5_joins_12 (by decide) rfl hw (fun _ hw => ?_) (fun _ hw => ?_)
      · refine g_lv [0] rfl ?_
        exact hJ2 () hw
      · refine g_iload_n C dX5_joins_15 2 rfl rfl ?_
        refine g_bipush (v := 9) C dX5_joins_16 (by decide) rfl ?_
        refine g_icmp_le (tgt := 27) C dX5_joins_18 (by decide) rfl hw (fun _ hw => ?_) (fun _ hw => ?_)
        · refine g_iload_n C dX5_joins_27 2 rfl rfl ?_
          refine g_iload_n C dX5_joins_28 1 rfl rfl ?_
          refine g_icmp_gt (tgt := 39) C dX5_joins_29 (by decide) rfl hw (fun _ hw => ?_) (fun _ hw => ?_)
          · refine g_aload_n C dX5_joins_39 0 rfl rfl ?_
            refine g_get (v := .ref (ap 0)) (ci := 4) C dX5_joins_40 inw_X5 rfl 0 0 3 rfl rfl (Nat.le_of_ble_eq_true rfl) rfl fl_X5_25 rfl rfl ?_
            refine g_aload_n C dX5_joins_43 0 rfl rfl ?_
            refine g_get (v := .ref (an 0)) (ci := 4) C dX5_joins_44 inw_X5 rfl 0 0 0 rfl rfl (Nat.le_of_ble_eq_true rfl) rfl fl_X5_10 rfl rfl ?_
            refine g_callVv (As := [.ref (an 0)]) (gr := [gObj x an am aq ap al au re pq, gA cI re 7 rf]) C (c_X4_keep l D cI cQ ap b an hh P n  _) dX5_joins_47 ⟨ml_X5_106, kV_X4_keep⟩ ⟨Nat.le_of_ble_eq_true rfl, Nat.le_of_ble_eq_true rfl⟩ ⟨Nat.le_refl _, Nat.le_refl _⟩ rfl rfl 0 0 rfl rfl [2, 3, 4, 5, 6, 7, 8, 9, 10, 1, 0, 11] 12 rfl pmb_2_3_4_5_6_7_8_9_10_1_0_11 rfl rfl rfl (Nat.le_of_ble_eq_true rfl) rfl (fun (u : HT × (Nat → PT)) => [gObj x an am aq ap al au re pq, gPar cI an n, gPas cQ ap b u.1, gPar cI (b 0) (u.2 0), gPar cI (b 1) (u.2 1), gPar cI (b 2) (u.2 2), gPar cI (b 3) (u.2 3), gPar cI (b 4) (u.2 4), gPar cI (b 5) (u.2 5), gPar cI (b 6) (u.2 6), gPar cI (b 7) (u.2 7), gA cI re 7 rf]) [10, 9, 0, 1, 2, 3, 4, 5, 6, 7, 8, 11] 12 (fun _ => rfl) pmb_10_9_0_1_2_3_4_5_6_7_8_11 (fun _ => rfl) hw (fun u5 hw => ?_)
            obtain ⟨hhv6, Pv7⟩ := u5
            refine g_aload_n C dX5_joins_50 0 rfl rfl ?_
            refine g_get (v := .ref (an 0)) (ci := 4) C dX5_joins_51 inw_X5 rfl 0 0 0 rfl rfl (Nat.le_of_ble_eq_true rfl) rfl fl_X5_10 rfl rfl ?_
            refine g_iload_n C dX5_joins_54 1 rfl rfl ?_
            refine g_callVi (As := [.int p1]) (gr := [gObj x an am aq ap al au re pq, gPas cQ ap b hhv6, gPar cI (b 0) (Pv7 0), gPar cI (b 1) (Pv7 1), gPar cI (b 2) (Pv7 2), gPar cI (b 3) (Pv7 3), gPar cI (b 4) (Pv7 4), gPar cI (b 5) (Pv7 5), gPar cI (b 6) (Pv7 6), gPar cI (b 7) (Pv7 7), gA cI re 7 rf]) C (c_X3_nextOf l D cI cQ an n p1 _) dX5_joins_55 ⟨ml_X5_84, kV_X3_nextOf⟩ ⟨Nat.le_of_ble_eq_true rfl, Nat.le_of_ble_eq_true rfl⟩ ⟨Nat.le_refl _, Nat.le_refl _⟩ rfl rfl 0 0 rfl rfl [1, 0, 2, 3, 4, 5, 6, 7, 8, 9, 10, 11] 12 rfl pmb_1_0_2_3_4_5_6_7_8_9_10_11 rfl rfl rfl (Nat.le_of_ble_eq_true rfl) rfl (fun (u : Unit) => [gObj x an am aq ap al au re pq, gPar cI an n, gPas cQ ap b hhv6, gPar cI (b 0) (Pv7 0), gPar cI (b 1) (Pv7 1), gPar cI (b 2) (Pv7 2), gPar cI (b 3) (Pv7 3), gPar cI (b 4) (Pv7 4), gPar cI (b 5) (Pv7 5), gPar cI (b 6) (Pv7 6), gPar cI (b 7) (Pv7 7), gA cI re 7 rf]) [1, 0, 2, 3, 4, 5, 6, 7, 8, 9, 10, 11] 12 (fun _ => rfl) pmb_1_0_2_3_4_5_6_7_8_9_10_11 (fun _ => rfl) hw (fun r8 u8 hw => ?_)
            refine g_istore_n (v := r8) C dX5_joins_58 rfl (Nat.le_of_ble_eq_true rfl) (lv' := [(3, .int r8), (0, .ref x), (1, .int p1), (2, .int p2)]) rfl rfl ?_
            refine g_aload_n C dX5_joins_59 1 rfl rfl ?_
            refine g_get (v := .ref (an 0)) (ci := 4) C dX5_joins_60 inw_X5 rfl 0 0 0 rfl rfl (Nat.le_of_ble_eq_true rfl) rfl fl_X5_10 rfl rfl ?_
            refine g_iload_n C dX5_joins_63 2 rfl rfl ?_
            refine g_iload_n C dX5_joins_64 3 rfl rfl ?_
            refine g_callVi (As := [.int p1, .int p2]) (gr := [gObj x an am aq ap al au re pq, gPas cQ ap b hhv6, gPar cI (b 0) (Pv7 0), gPar cI (b 1) (Pv7 1), gPar cI (b 2) (Pv7 2), gPar cI (b 3) (Pv7 3), gPar cI (b 4) (Pv7 4), gPar cI (b 5) (Pv7 5), gPar cI (b 6) (Pv7 6), gPar cI (b 7) (Pv7 7), gA cI re 7 rf]) C (c_X3_lead l D cI cQ an n p1 p2 _) dX5_joins_65 ⟨ml_X5_110, kV_X3_lead⟩ ⟨Nat.le_of_ble_eq_true rfl, Nat.le_of_ble_eq_true rfl⟩ ⟨Nat.le_refl _, Nat.le_refl _⟩ rfl rfl 0 0 rfl rfl [1, 0, 2, 3, 4, 5, 6, 7, 8, 9, 10, 11] 12 rfl pmb_1_0_2_3_4_5_6_7_8_9_10_11 rfl rfl rfl (Nat.le_of_ble_eq_true rfl) rfl (fun (u : PT) => [gObj x an am aq ap al au re pq, gPar cI an u, gPas cQ ap b hhv6, gPar cI (b 0) (Pv7 0), gPar cI (b 1) (Pv7 1), gPar cI (b 2) (Pv7 2), gPar cI (b 3) (Pv7 3), gPar cI (b 4) (Pv7 4), gPar cI (b 5) (Pv7 5), gPar cI (b 6) (Pv7 6), gPar cI (b 7) (Pv7 7), gA cI re 7 rf]) [1, 0, 2, 3, 4, 5, 6, 7, 8, 9, 10, 11] 12 (fun _ => rfl) pmb_1_0_2_3_4_5_6_7_8_9_10_11 (fun _ => rfl) hw (fun r9 u9 hw => ?_)
            obtain ⟨nv10, rfl⟩ : ∃ z, z = u9 := ⟨_, rfl⟩
            refine g_pop C dX5_joins_68 rfl rfl ?_
            refine g_iload_n C dX5_joins_69 0 rfl rfl ?_
            exact hret 70 r8 (nv10, hhv6, Pv7, rf) _ dX5_joins_70 hw
          · refine g_aload_n C dX5_joins_32 0 rfl rfl ?_
            refine g_bipush (v := -3) C dX5_joins_33 (by decide) rfl ?_
            refine g_callVi (As := [.int (-3 : Int32)]) (gr := [gPar cI an n, gPas cQ ap b hh, gPar cI (b 0) (P 0), gPar cI (b 1) (P 1), gPar cI (b 2) (P 2), gPar cI (b 3) (P 3), gPar cI (b 4) (P 4), gPar cI (b 5) (P 5), gPar cI (b 6) (P 6), gPar cI (b 7) (P 7)]) C (c_X5_refuse l D cI cQ x an am aq ap b al au re pq rf (-3 : Int32) _) dX5_joins_35 ⟨ml_X5_51, kV_X5_refuse⟩ ⟨Nat.le_of_ble_eq_true rfl, Nat.le_of_ble_eq_true rfl⟩ ⟨Nat.le_refl _, Nat.le_refl _⟩ rfl rfl 0 0 rfl rfl [0, 11, 1, 2, 3, 4, 5, 6, 7, 8, 9, 10] 12 rfl pmb_0_11_1_2_3_4_5_6_7_8_9_10 rfl rfl rfl (Nat.le_of_ble_eq_true rfl) rfl (fun (u : F1) => [gObj x an am aq ap al au re pq, gPar cI an n, gPas cQ ap b hh, gPar cI (b 0) (P 0), gPar cI (b 1) (P 1), gPar cI (b 2) (P 2), gPar cI (b 3) (P 3), gPar cI (b 4) (P 4), gPar cI (b 5) (P 5), gPar cI (b 6) (P 6), gPar cI (b 7) (P 7), gA cI re 7 u]) [0, 2, 3, 4, 5, 6, 7, 8, 9, 10, 11, 1] 12 (fun _ => rfl) pmb_0_2_3_4_5_6_7_8_9_10_11_1 (fun _ => rfl) hw (fun r11 u11 hw => ?_)
            obtain ⟨rfv12, rfl⟩ : ∃ z, z = u11 := ⟨_, rfl⟩
            exact hret 38 r11 (n, hh, P, rfv12) _ dX5_joins_38 hw
        · refine g_lv [0] rfl ?_
          exact hJ2 () hw
set_option maxRecDepth 100000 in
theorem c_X5_joins (l : Launch) (D : va_G) (cI cQ : ClassId) (x : Nat) (an : Nat → Nat) (am : Nat → Nat) (aq : Nat → Nat) (ap : Nat → Nat) (b : Nat → Nat → Nat) (al : Nat → Nat) (au : Nat → Nat) (re : Nat) (pq : Int32) (n : PT) (hh : HT) (P : (Nat → PT)) (rf : F1) (p1 : Int32) (p2 : Int32) (post : Int32 → PT × HT × (Nat → PT) × F1 → Prop) (sz : Nat) : Met l yX5_joins (wsY yX5_joins cX5_joins 4 (some .int)) (rmL 3 0 0 83) (xP D (tyL cI cQ) [.ref x, .int p1, .int p2] [gObj x an am aq ap al au re pq, gPar cI an n, gPas cQ ap b hh, gPar cI (b 0) (P 0), gPar cI (b 1) (P 1), gPar cI (b 2) (P 2), gPar cI (b 3) (P 3), gPar cI (b 4) (P 4), gPar cI (b 5) (P 5), gPar cI (b 6) (P 6), gPar cI (b 7) (P 7), gA cI re 7 rf] sz (p_X5_joins n hh P rf p1 p2 post)) (xQi D (tyL cI cQ) post (fun (u : PT × HT × (Nat → PT) × F1) => [gObj x an am aq ap al au re pq, gPar cI an u.1, gPas cQ ap b u.2.1, gPar cI (b 0) (u.2.2.1 0), gPar cI (b 1) (u.2.2.1 1), gPar cI (b 2) (u.2.2.1 2), gPar cI (b 3) (u.2.2.1 3), gPar cI (b 4) (u.2.2.1 4), gPar cI (b 5) (u.2.2.1 5), gPar cI (b 6) (u.2.2.1 6), gPar cI (b 7) (u.2.2.1 7), gA cI re 7 u.2.2.2]) (va_A [gObj x an am aq ap al au re pq, gPar cI an n, gPas cQ ap b hh, gPar cI (b 0) (P 0), gPar cI (b 1) (P 1), gPar cI (b 2) (P 2), gPar cI (b 3) (P 3), gPar cI (b 4) (P 4), gPar cI (b 5) (P 5), gPar cI (b 6) (P 6), gPar cI (b 7) (P 7), gA cI re 7 rf].flatten sz)) 0 0 (va_A [gObj x an am aq ap al au re pq, gPar cI an n, gPas cQ ap b hh, gPar cI (b 0) (P 0), gPar cI (b 1) (P 1), gPar cI (b 2) (P 2), gPar cI (b 3) (P 3), gPar cI (b 4) (P 4), gPar cI (b 5) (P 5), gPar cI (b 6) (P 6), gPar cI (b 7) (P 7), gA cI re 7 rf].flatten sz) :=
  Met_i pn_X5 (Nat.le_of_ble_eq_true rfl) (fun p e s mi below meth co A Q _ C hret hw => w_X5_joins x an am aq ap b al au re pq n hh P rf p1 p2 C hret hw)
theorem kV_X5_joins : Cond.instanceMethod yX5_joins ∈ gTbl ∧ Cond.selects yX5_joins.cls yX5_joins yX5_joins ∈ gTbl ∧ Cond.initialized yX5_joins.cls ∈ gTbl ∧ Cond.code yX5_joins cX5_joins 4 (some .int) ∈ gTbl ∧ (yX5_joins.cls ≠ "java/lang/invoke/MethodHandle" ∧ yX5_joins.cls ≠ "java/lang/invoke/VarHandle" ∧ (parseMethodDescriptor yX5_joins.desc).map (fun d => d.parameters.length) = some 2) := ⟨im_X5_joins, sl_X5_joins, in_X5, cd_X5_joins, (by decide +kernel)⟩
set_option maxRecDepth 100000 in
def p_X5_blocks (n : PT) (hh : HT) (P : (Nat → PT)) (rf : F1) (p1 : Int32) (post : Int32 → PT × HT × (Nat → PT) × F1 → Prop) : Prop := p_X3_there n p1 (fun (r1 : Int32) => ((r1 = 0 → p_X5_refuse rf (-1 : Int32) (fun (r8 : Int32) (u8 : F1) => (fun (rfv9 : F1) => post r8 (n, hh, P, rfv9)) u8)) ∧ (¬ r1 = 0 → p_X4_keep hh P n (fun (u2 : HT × (Nat → PT)) => (fun (hhv3 : HT) (Pv4 : (Nat → PT)) => p_X3_blockOrFree n p1 (fun (r5 : Int32) (u5 : PT) => (fun (nv6 : PT) => p_X3_isBlocked nv6 p1 (fun (r7 : Int32) => ((r7 = 0 → post (0 : Int32) (nv6, hhv3, Pv4, rf)) ∧ (¬ r7 = 0 → post (1 : Int32) (nv6, hhv3, Pv4, rf))))) u5)) u2.1 u2.2))))
set_option maxHeartbeats 4000000 in
set_option maxRecDepth 100000 in
theorem w_X5_blocks {p : Program} {l : Launch} {e : Env} {s : State} {mi : MethodId} {args : Array Value} {below : List Frame} {meth : Method} {co : Code} {D : va_G} {cI cQ : ClassId} {A : Nat → Prop} {Q : State → Prop} (x : Nat) (an : Nat → Nat) (am : Nat → Nat) (aq : Nat → Nat) (ap : Nat → Nat) (b : Nat → Nat → Nat) (al : Nat → Nat) (au : Nat → Nat) (re : Nat) (pq : Int32) (n : PT) (hh : HT) (P : (Nat → PT)) (rf : F1) (p1 : Int32) {post : Int32 → PT × HT × (Nat → PT) × F1 → Prop} (C : xC p s mi args co cX5_blocks RX5 2 D (tyL cI cQ) A) (hret : ∀ (pc : Nat) (r : Int32) (u : PT × HT × (Nat → PT) × F1) (lv : List (Nat × Value)), decode cX5_blocks pc = .ok (.ireturn, 1) → post r u → xG p l e (rmL 3 0 0 83) s mi args below meth co D A 2 Q 0 0 pc [.int r] [gObj x an am aq ap al au re pq, gPar cI an u.1, gPas cQ ap b u.2.1, gPar cI (b 0) (u.2.2.1 0), gPar cI (b 1) (u.2.2.1 1), gPar cI (b 2) (u.2.2.1 2), gPar cI (b 3) (u.2.2.1 3), gPar cI (b 4) (u.2.2.1 4), gPar cI (b 5) (u.2.2.1 5), gPar cI (b 6) (u.2.2.1 6), gPar cI (b 7) (u.2.2.1 7), gA cI re 7 u.2.2.2] lv) (hw : p_X5_blocks n hh P rf p1 post) : xG p l e (rmL 3 0 0 83) s mi args below meth co D A 2 Q 0 0 0 [] [gObj x an am aq ap al au re pq, gPar cI an n, gPas cQ ap b hh, gPar cI (b 0) (P 0), gPar cI (b 1) (P 1), gPar cI (b 2) (P 2), gPar cI (b 3) (P 3), gPar cI (b 4) (P 4), gPar cI (b 5) (P 5), gPar cI (b 6) (P 6), gPar cI (b 7) (P 7), gA cI re 7 rf] [(0, .ref x), (1, .int p1)] := by
  unfold p_X5_blocks at hw
  try dsimp only at hw
  show xG p l e (rmL 3 0 0 83) s mi args below meth co D A 2 Q 0 0 0 [] [gObj x an am aq ap al au re pq, gPar cI an n, gPas cQ ap b hh, gPar cI (b 0) (P 0), gPar cI (b 1) (P 1), gPar cI (b 2) (P 2), gPar cI (b 3) (P 3), gPar cI (b 4) (P 4), gPar cI (b 5) (P 5), gPar cI (b 6) (P 6), gPar cI (b 7) (P 7), gA cI re 7 rf] [(0, .ref x), (1, .int p1)]
  refine g_aload_n C dX5_blocks_0 0 rfl rfl ?_
  refine g_get (v := .ref (an 0)) (ci := 4) C dX5_blocks_1 inw_X5 rfl 0 0 0 rfl rfl (Nat.le_of_ble_eq_true rfl) rfl fl_X5_10 rfl rfl ?_
  refine g_iload_n C dX5_blocks_4 1 rfl rfl ?_
  refine g_callVi (As := [.int p1]) (gr := [gObj x an am aq ap al au re pq, gPas cQ ap b hh, gPar cI (b 0) (P 0), gPar cI (b 1) (P 1), gPar cI (b 2) (P 2), gPar cI (b 3) (P 3), gPar cI (b 4) (P 4), gPar cI (b 5) (P 5), gPar cI (b 6) (P 6), gPar cI (b 7) (P 7), gA cI re 7 rf]) C (c_X3_there l D cI cQ an n p1 _) dX5_blocks_5 ⟨ml_X5_72, kV_X3_there⟩ ⟨Nat.le_of_ble_eq_true rfl, Nat.le_of_ble_eq_true rfl⟩ ⟨Nat.le_refl _, Nat.le_refl _⟩ rfl rfl 0 0 rfl rfl [1, 0, 2, 3, 4, 5, 6, 7, 8, 9, 10, 11] 12 rfl pmb_1_0_2_3_4_5_6_7_8_9_10_11 rfl rfl rfl (Nat.le_of_ble_eq_true rfl) rfl (fun (u : Unit) => [gObj x an am aq ap al au re pq, gPar cI an n, gPas cQ ap b hh, gPar cI (b 0) (P 0), gPar cI (b 1) (P 1), gPar cI (b 2) (P 2), gPar cI (b 3) (P 3), gPar cI (b 4) (P 4), gPar cI (b 5) (P 5), gPar cI (b 6) (P 6), gPar cI (b 7) (P 7), gA cI re 7 rf]) [1, 0, 2, 3, 4, 5, 6, 7, 8, 9, 10, 11] 12 (fun _ => rfl) pmb_1_0_2_3_4_5_6_7_8_9_10_11 (fun _ => rfl) hw (fun r1 u1 hw => ?_)
  refine g_if_ne (tgt := 17) C dX5_blocks_8 (by decide) rfl hw (fun _ hw => ?_) (fun _ hw => ?_)
  · refine g_aload_n C dX5_blocks_17 0 rfl rfl ?_
    refine g_get (v := .ref (ap 0)) (ci := 4) C dX5_blocks_18 inw_X5 rfl 0 0 3 rfl rfl (Nat.le_of_ble_eq_true rfl) rfl fl_X5_25 rfl rfl ?_
    refine g_aload_n C dX5_blocks_21 0 rfl rfl ?_
    refine g_get (v := .ref (an 0)) (ci := 4) C dX5_blocks_22 inw_X5 rfl 0 0 0 rfl rfl (Nat.le_of_ble_eq_true rfl) rfl fl_X5_10 rfl rfl ?_
    refine g_callVv (As := [.ref (an 0)]) (gr := [gObj x an am aq ap al au re pq, gA cI re 7 rf]) C (c_X4_keep l D cI cQ ap b an hh P n  _) dX5_blocks_25 ⟨ml_X5_106, kV_X4_keep⟩ ⟨Nat.le_of_ble_eq_true rfl, Nat.le_of_ble_eq_true rfl⟩ ⟨Nat.le_refl _, Nat.le_refl _⟩ rfl rfl 0 0 rfl rfl [2, 3, 4, 5, 6, 7, 8, 9, 10, 1, 0, 11] 12 rfl pmb_2_3_4_5_6_7_8_9_10_1_0_11 rfl rfl rfl (Nat.le_of_ble_eq_true rfl) rfl (fun (u : HT × (Nat → PT)) => [gObj x an am aq ap al au re pq, gPar cI an n, gPas cQ ap b u.1, gPar cI (b 0) (u.2 0), gPar cI (b 1) (u.2 1), gPar cI (b 2) (u.2 2), gPar cI (b 3) (u.2 3), gPar cI (b 4) (u.2 4), gPar cI (b 5) (u.2 5), gPar cI (b 6) (u.2 6), gPar cI (b 7) (u.2 7), gA cI re 7 rf]) [10, 9, 0, 1, 2, 3, 4, 5, 6, 7, 8, 11] 12 (fun _ => rfl) pmb_10_9_0_1_2_3_4_5_6_7_8_11 (fun _ => rfl) hw (fun u2 hw => ?_)
    obtain ⟨hhv3, Pv4⟩ := u2
    refine g_aload_n C dX5_blocks_28 0 rfl rfl ?_
    refine g_get (v := .ref (an 0)) (ci := 4) C dX5_blocks_29 inw_X5 rfl 0 0 0 rfl rfl (Nat.le_of_ble_eq_true rfl) rfl fl_X5_10 rfl rfl ?_
    refine g_iload_n C dX5_blocks_32 1 rfl rfl ?_
    refine g_callVi (As := [.int p1]) (gr := [gObj x an am aq ap al au re pq, gPas cQ ap b hhv3, gPar cI (b 0) (Pv4 0), gPar cI (b 1) (Pv4 1), gPar cI (b 2) (Pv4 2), gPar cI (b 3) (Pv4 3), gPar cI (b 4) (Pv4 4), gPar cI (b 5) (Pv4 5), gPar cI (b 6) (Pv4 6), gPar cI (b 7) (Pv4 7), gA cI re 7 rf]) C (c_X3_blockOrFree l D cI cQ an n p1 _) dX5_blocks_33 ⟨ml_X5_113, kV_X3_blockOrFree⟩ ⟨Nat.le_of_ble_eq_true rfl, Nat.le_of_ble_eq_true rfl⟩ ⟨Nat.le_refl _, Nat.le_refl _⟩ rfl rfl 0 0 rfl rfl [1, 0, 2, 3, 4, 5, 6, 7, 8, 9, 10, 11] 12 rfl pmb_1_0_2_3_4_5_6_7_8_9_10_11 rfl rfl rfl (Nat.le_of_ble_eq_true rfl) rfl (fun (u : PT) => [gObj x an am aq ap al au re pq, gPar cI an u, gPas cQ ap b hhv3, gPar cI (b 0) (Pv4 0), gPar cI (b 1) (Pv4 1), gPar cI (b 2) (Pv4 2), gPar cI (b 3) (Pv4 3), gPar cI (b 4) (Pv4 4), gPar cI (b 5) (Pv4 5), gPar cI (b 6) (Pv4 6), gPar cI (b 7) (Pv4 7), gA cI re 7 rf]) [1, 0, 2, 3, 4, 5, 6, 7, 8, 9, 10, 11] 12 (fun _ => rfl) pmb_1_0_2_3_4_5_6_7_8_9_10_11 (fun _ => rfl) hw (fun r5 u5 hw => ?_)
    obtain ⟨nv6, rfl⟩ : ∃ z, z = u5 := ⟨_, rfl⟩
    refine g_pop C dX5_blocks_36 rfl rfl ?_
    refine g_aload_n C dX5_blocks_37 0 rfl rfl ?_
    refine g_get (v := .ref (an 0)) (ci := 4) C dX5_blocks_38 inw_X5 rfl 0 0 0 rfl rfl (Nat.le_of_ble_eq_true rfl) rfl fl_X5_10 rfl rfl ?_
    refine g_iload_n C dX5_blocks_41 1 rfl rfl ?_
    refine g_callVi (As := [.int p1]) (gr := [gObj x an am aq ap al au re pq, gPas cQ ap b hhv3, gPar cI (b 0) (Pv4 0), gPar cI (b 1) (Pv4 1), gPar cI (b 2) (Pv4 2), gPar cI (b 3) (Pv4 3), gPar cI (b 4) (Pv4 4), gPar cI (b 5) (Pv4 5), gPar cI (b 6) (Pv4 6), gPar cI (b 7) (Pv4 7), gA cI re 7 rf]) C (c_X3_isBlocked l D cI cQ an nv6 p1 _) dX5_blocks_42 ⟨ml_X5_87, kV_X3_isBlocked⟩ ⟨Nat.le_of_ble_eq_true rfl, Nat.le_of_ble_eq_true rfl⟩ ⟨Nat.le_refl _, Nat.le_refl _⟩ rfl rfl 0 0 rfl rfl [1, 0, 2, 3, 4, 5, 6, 7, 8, 9, 10, 11] 12 rfl pmb_1_0_2_3_4_5_6_7_8_9_10_11 rfl rfl rfl (Nat.le_of_ble_eq_true rfl) rfl (fun (u : Unit) => [gObj x an am aq ap al au re pq, gPar cI an nv6, gPas cQ ap b hhv3, gPar cI (b 0) (Pv4 0), gPar cI (b 1) (Pv4 1), gPar cI (b 2) (Pv4 2), gPar cI (b 3) (Pv4 3), gPar cI (b 4) (Pv4 4), gPar cI (b 5) (Pv4 5), gPar cI (b 6) (Pv4 6), gPar cI (b 7) (Pv4 7), gA cI re 7 rf]) [1, 0, 2, 3, 4, 5, 6, 7, 8, 9, 10, 11] 12 (fun _ => rfl) pmb_1_0_2_3_4_5_6_7_8_9_10_11 (fun _ => rfl) hw (fun r7 u7 hw => ?_)
    refine g_if_eq (tgt := 52) C dX5_blocks_45 (by decide) rfl hw (fun _ hw => ?_) (fun _ hw => ?_)
    · refine g_iconst (v := 0) C dX5_blocks_52 rfl rfl ?_
      exact hret 53 (0 : Int32) (nv6, hhv3, Pv4, rf) _ dX5_blocks_53 hw
    · refine g_iconst (v := 1) C dX5_blocks_48 rfl rfl ?_
      refine g_goto (pc' := 53) C dX5_blocks_49 (by decide) rfl ?_
      exact hret 53 (1 : Int32) (nv6, hhv3, Pv4, rf) _ dX5_blocks_53 hw
  · refine g_aload_n C dX5_blocks_11 0 rfl rfl ?_
    refine g_iconst (v := -1) C dX5_blocks_12 (by decide) rfl ?_
    refine g_callVi (As := [.int (-1 : Int32)]) (gr := [gPar cI an n, gPas cQ ap b hh, gPar cI (b 0) (P 0), gPar cI (b 1) (P 1), gPar cI (b 2) (P 2), gPar cI (b 3) (P 3), gPar cI (b 4) (P 4), gPar cI (b 5) (P 5), gPar cI (b 6) (P 6), gPar cI (b 7) (P 7)]) C (c_X5_refuse l D cI cQ x an am aq ap b al au re pq rf (-1 : Int32) _) dX5_blocks_13 ⟨ml_X5_51, kV_X5_refuse⟩ ⟨Nat.le_of_ble_eq_true rfl, Nat.le_of_ble_eq_true rfl⟩ ⟨Nat.le_refl _, Nat.le_refl _⟩ rfl rfl 0 0 rfl rfl [0, 11, 1, 2, 3, 4, 5, 6, 7, 8, 9, 10] 12 rfl pmb_0_11_1_2_3_4_5_6_7_8_9_10 rfl rfl rfl (Nat.le_of_ble_eq_true rfl) rfl (fun (u : F1) => [gObj x an am aq ap al au re pq, gPar cI an n, gPas cQ ap b hh, gPar cI (b 0) (P 0), gPar cI (b 1) (P 1), gPar cI (b 2) (P 2), gPar cI (b 3) (P 3), gPar cI (b 4) (P 4), gPar cI (b 5) (P 5), gPar cI (b 6) (P 6), gPar cI (b 7) (P 7), gA cI re 7 u]) [0, 2, 3, 4, 5, 6, 7, 8, 9, 10, 11, 1] 12 (fun _ => rfl) pmb_0_2_3_4_5_6_7_8_9_10_11_1 (fun _ => rfl) hw (fun r8 u8 hw => ?_)
    obtain ⟨rfv9, rfl⟩ : ∃ z, z = u8 := ⟨_, rfl⟩
    exact hret 16 r8 (n, hh, P, rfv9) _ dX5_blocks_16 hw
set_option maxRecDepth 100000 in
theorem c_X5_blocks (l : Launch) (D : va_G) (cI cQ : ClassId) (x : Nat) (an : Nat → Nat) (am : Nat → Nat) (aq : Nat → Nat) (ap : Nat → Nat) (b : Nat → Nat → Nat) (al : Nat → Nat) (au : Nat → Nat) (re : Nat) (pq : Int32) (n : PT) (hh : HT) (P : (Nat → PT)) (rf : F1) (p1 : Int32) (post : Int32 → PT × HT × (Nat → PT) × F1 → Prop) (sz : Nat) : Met l yX5_blocks (wsY yX5_blocks cX5_blocks 2 (some .int)) (rmL 3 0 0 83) (xP D (tyL cI cQ) [.ref x, .int p1] [gObj x an am aq ap al au re pq, gPar cI an n, gPas cQ ap b hh, gPar cI (b 0) (P 0), gPar cI (b 1) (P 1), gPar cI (b 2) (P 2), gPar cI (b 3) (P 3), gPar cI (b 4) (P 4), gPar cI (b 5) (P 5), gPar cI (b 6) (P 6), gPar cI (b 7) (P 7), gA cI re 7 rf] sz (p_X5_blocks n hh P rf p1 post)) (xQi D (tyL cI cQ) post (fun (u : PT × HT × (Nat → PT) × F1) => [gObj x an am aq ap al au re pq, gPar cI an u.1, gPas cQ ap b u.2.1, gPar cI (b 0) (u.2.2.1 0), gPar cI (b 1) (u.2.2.1 1), gPar cI (b 2) (u.2.2.1 2), gPar cI (b 3) (u.2.2.1 3), gPar cI (b 4) (u.2.2.1 4), gPar cI (b 5) (u.2.2.1 5), gPar cI (b 6) (u.2.2.1 6), gPar cI (b 7) (u.2.2.1 7), gA cI re 7 u.2.2.2]) (va_A [gObj x an am aq ap al au re pq, gPar cI an n, gPas cQ ap b hh, gPar cI (b 0) (P 0), gPar cI (b 1) (P 1), gPar cI (b 2) (P 2), gPar cI (b 3) (P 3), gPar cI (b 4) (P 4), gPar cI (b 5) (P 5), gPar cI (b 6) (P 6), gPar cI (b 7) (P 7), gA cI re 7 rf].flatten sz)) 0 0 (va_A [gObj x an am aq ap al au re pq, gPar cI an n, gPas cQ ap b hh, gPar cI (b 0) (P 0), gPar cI (b 1) (P 1), gPar cI (b 2) (P 2), gPar cI (b 3) (P 3), gPar cI (b 4) (P 4), gPar cI (b 5) (P 5), gPar cI (b 6) (P 6), gPar cI (b 7) (P 7), gA cI re 7 rf].flatten sz) :=
  Met_i pn_X5 (Nat.le_of_ble_eq_true rfl) (fun p e s mi below meth co A Q _ C hret hw => w_X5_blocks x an am aq ap b al au re pq n hh P rf p1 C hret hw)
theorem kV_X5_blocks : Cond.instanceMethod yX5_blocks ∈ gTbl ∧ Cond.selects yX5_blocks.cls yX5_blocks yX5_blocks ∈ gTbl ∧ Cond.initialized yX5_blocks.cls ∈ gTbl ∧ Cond.code yX5_blocks cX5_blocks 2 (some .int) ∈ gTbl ∧ (yX5_blocks.cls ≠ "java/lang/invoke/MethodHandle" ∧ yX5_blocks.cls ≠ "java/lang/invoke/VarHandle" ∧ (parseMethodDescriptor yX5_blocks.desc).map (fun d => d.parameters.length) = some 1) := ⟨im_X5_blocks, sl_X5_blocks, in_X5, cd_X5_blocks, (by decide +kernel)⟩
set_option maxRecDepth 100000 in
def p_X5_pours (n : PT) (hh : HT) (P : (Nat → PT)) (rf : F1) (p1 : Int32) (p2 : Int32) (post : Int32 → PT × HT × (Nat → PT) × F1 → Prop) : Prop := p_X3_there n p1 (fun (r1 : Int32) => ((r1 = 0 → p_X5_refuse rf (-1 : Int32) (fun (r11 : Int32) (u11 : F1) => (fun (rfv12 : F1) => post r11 (n, hh, P, rfv12)) u11)) ∧ (¬ r1 = 0 → p_X5_outside p2 (0 : Int32) (99 : Int32) (fun (r2 : Int32) => ((r2 = 0 → p_X4_keep hh P n (fun (u3 : HT × (Nat → PT)) => (fun (hhv4 : HT) (Pv5 : (Nat → PT)) => p_X3_fill n p1 p2 (fun (r6 : Int32) (u6 : PT) => (fun (nv7 : PT) => p_X3_holdsOf nv7 p1 (fun (r8 : Int32) => post r8 (nv7, hhv4, Pv5, rf))) u6)) u3.1 u3.2)) ∧ (¬ r2 = 0 → p_X5_refuse rf r2 (fun (r9 : Int32) (u9 : F1) => (fun (rfv10 : F1) => post r9 (n, hh, P, rfv10)) u9)))))))
set_option maxHeartbeats 4000000 in
set_option maxRecDepth 100000 in
theorem w_X5_pours {p : Program} {l : Launch} {e : Env} {s : State} {mi : MethodId} {args : Array Value} {below : List Frame} {meth : Method} {co : Code} {D : va_G} {cI cQ : ClassId} {A : Nat → Prop} {Q : State → Prop} (x : Nat) (an : Nat → Nat) (am : Nat → Nat) (aq : Nat → Nat) (ap : Nat → Nat) (b : Nat → Nat → Nat) (al : Nat → Nat) (au : Nat → Nat) (re : Nat) (pq : Int32) (n : PT) (hh : HT) (P : (Nat → PT)) (rf : F1) (p1 : Int32) (p2 : Int32) {post : Int32 → PT × HT × (Nat → PT) × F1 → Prop} (C : xC p s mi args co cX5_pours RX5 4 D (tyL cI cQ) A) (hret : ∀ (pc : Nat) (r : Int32) (u : PT × HT × (Nat → PT) × F1) (lv : List (Nat × Value)), decode cX5_pours pc = .ok (.ireturn, 1) → post r u → xG p l e (rmL 3 0 0 83) s mi args below meth co D A 4 Q 0 0 pc [.int r] [gObj x an am aq ap al au re pq, gPar cI an u.1, gPas cQ ap b u.2.1, gPar cI (b 0) (u.2.2.1 0), gPar cI (b 1) (u.2.2.1 1), gPar cI (b 2) (u.2.2.1 2), gPar cI (b 3) (u.2.2.1 3), gPar cI (b 4) (u.2.2.1 4), gPar cI (b 5) (u.2.2.1 5), gPar cI (b 6) (u.2.2.1 6), gPar cI (b 7) (u.2.2.1 7), gA cI re 7 u.2.2.2] lv) (hw : p_X5_pours n hh P rf p1 p2 post) : xG p l e (rmL 3 0 0 83) s mi args below meth co D A 4 Q 0 0 0 [] [gObj x an am aq ap al au re pq, gPar cI an n, gPas cQ ap b hh, gPar cI (b 0) (P 0), gPar cI (b 1) (P 1), gPar cI (b 2) (P 2), gPar cI (b 3) (P 3), gPar cI (b 4) (P 4), gPar cI (b 5) (P 5), gPar cI (b 6) (P 6), gPar cI (b 7) (P 7), gA cI re 7 rf] [(0, .ref x), (1, .int p1), (2, .int p2)] := by
  unfold p_X5_pours at hw
  try dsimp only at hw
  show xG p l e (rmL 3 0 0 83) s mi args below meth co D A 4 Q 0 0 0 [] [gObj x an am aq ap al au re pq, gPar cI an n, gPas cQ ap b hh, gPar cI (b 0) (P 0), gPar cI (b 1) (P 1), gPar cI (b 2) (P 2), gPar cI (b 3) (P 3), gPar cI (b 4) (P 4), gPar cI (b 5) (P 5), gPar cI (b 6) (P 6), gPar cI (b 7) (P 7), gA cI re 7 rf] [(0, .ref x), (1, .int p1), (2, .int p2)]
  refine g_aload_n C dX5_pours_0 0 rfl rfl ?_
  refine g_get (v := .ref (an 0)) (ci := 4) C dX5_pours_1 inw_X5 rfl 0 0 0 rfl rfl (Nat.le_of_ble_eq_true rfl) rfl fl_X5_10 rfl rfl ?_
  refine g_iload_n C dX5_pours_4 1 rfl rfl ?_
  refine g_callVi (As := [.int p1]) (gr := [gObj x an am aq ap al au re pq, gPas cQ ap b hh, gPar cI (b 0) (P 0), gPar cI (b 1) (P 1), gPar cI (b 2) (P 2), gPar cI (b 3) (P 3), gPar cI (b 4) (P 4), gPar cI (b 5) (P 5), gPar cI (b 6) (P 6), gPar cI (b 7) (P 7), gA cI re 7 rf]) C (c_X3_there l D cI cQ an n p1 _) dX5_pours_5 ⟨ml_X5_72, kV_X3_there⟩ ⟨Nat.le_of_ble_eq_true rfl, Nat.le_of_ble_eq_true rfl⟩ ⟨Nat.le_refl _, Nat.le_refl _⟩ rfl rfl 0 0 rfl rfl [1, 0, 2, 3, 4, 5, 6, 7, 8, 9, 10, 11] 12 rfl pmb_1_0_2_3_4_5_6_7_8_9_10_11 rfl rfl rfl (Nat.le_of_ble_eq_true rfl) rfl (fun (u : Unit) => [gObj x an am aq ap al au re pq, gPar cI an n, gPas cQ ap b hh, gPar cI (b 0) (P 0), gPar cI (b 1) (P 1), gPar cI (b 2) (P 2), gPar cI (b 3) (P 3), gPar cI (b 4) (P 4), gPar cI (b 5) (P 5), gPar cI (b 6) (P 6), gPar cI (b 7) (P 7), gA cI re 7 rf]) [1, 0, 2, 3, 4, 5, 6, 7, 8, 9, 10, 11] 12 (fun _ => rfl) pmb_1_0_2_3_4_5_6_7_8_9_10_11 (fun _ => rfl) hw (fun r1 u1 hw => ?_)
  refine g_if_ne (tgt := 17) C dX5_pours_8 (by decide) rfl hw (fun _ hw => ?_) (fun _ hw => ?_)
  · refine g_iload_n C dX5_pours_17 2 rfl rfl ?_
    refine g_iconst (v := 0) C dX5_pours_18 rfl rfl ?_
    refine g_bipush (v := 99) C dX5_pours_19 (by decide) rfl ?_
    refine g_callSi (As := [.int p2, .int (0 : Int32), .int (99 : Int32)]) (gr := [gObj x an am aq ap al au re pq, gPar cI an n, gPas cQ ap b hh, gPar cI (b 0) (P 0), gPar cI (b 1) (P 1), gPar cI (b 2) (P 2), gPar cI (b 3) (P 3), gPar cI (b 4) (P 4), gPar cI (b 5) (P 5), gPar cI (b 6) (P 6), gPar cI (b 7) (P 7), gA cI re 7 rf]) C (c_X5_outside l D cI cQ   p2 (0 : Int32) (99 : Int32) _) dX5_pours_21 ⟨ml_X5_47, kS_X5_outside⟩ ⟨Nat.le_of_ble_eq_true rfl, Nat.le_of_ble_eq_true rfl⟩ ⟨Nat.le_refl _, Nat.le_refl _⟩ [0, 1, 2, 3, 4, 5, 6, 7, 8, 9, 10, 11] 12 rfl pmb_0_1_2_3_4_5_6_7_8_9_10_11 rfl rfl rfl (Nat.le_of_ble_eq_true rfl) rfl (fun (u : Unit) => [gObj x an am aq ap al au re pq, gPar cI an n, gPas cQ ap b hh, gPar cI (b 0) (P 0), gPar cI (b 1) (P 1), gPar cI (b 2) (P 2), gPar cI (b 3) (P 3), gPar cI (b 4) (P 4), gPar cI (b 5) (P 5), gPar cI (b 6) (P 6), gPar cI (b 7) (P 7), gA cI re 7 rf]) [0, 1, 2, 3, 4, 5, 6, 7, 8, 9, 10, 11] 12 (fun _ => rfl) pmb_0_1_2_3_4_5_6_7_8_9_10_11 (fun _ => rfl) hw (fun r2 u2 hw => ?_)
    refine g_istore_n (v := r2) C dX5_pours_24 rfl (Nat.le_of_ble_eq_true rfl) (lv' := [(3, .int r2), (0, .ref x), (1, .int p1), (2, .int p2)]) rfl rfl ?_
    refine g_iload_n C dX5_pours_25 0 rfl rfl ?_
    refine g_if_eq (tgt := 35) C dX5_pours_26 (by decide) rfl hw (fun _ hw => ?_) (fun _ hw => ?_)
    · refine g_aload_n C dX5_pours_35 1 rfl rfl ?_
      refine g_get (v := .ref (ap 0)) (ci := 4) C dX5_pours_36 inw_X5 rfl 0 0 3 rfl rfl (Nat.le_of_ble_eq_true rfl) rfl fl_X5_25 rfl rfl ?_
      refine g_aload_n C dX5_pours_39 1 rfl rfl ?_
      refine g_get (v := .ref (an 0)) (ci := 4) C dX5_pours_40 inw_X5 rfl 0 0 0 rfl rfl (Nat.le_of_ble_eq_true rfl) rfl fl_X5_10 rfl rfl ?_
      refine g_callVv (As := [.ref (an 0)]) (gr := [gObj x an am aq ap al au re pq, gA cI re 7 rf]) C (c_X4_keep l D cI cQ ap b an hh P n  _) dX5_pours_43 ⟨ml_X5_106, kV_X4_keep⟩ ⟨Nat.le_of_ble_eq_true rfl, Nat.le_of_ble_eq_true rfl⟩ ⟨Nat.le_refl _, Nat.le_refl _⟩ rfl rfl 0 0 rfl rfl [2, 3, 4, 5, 6, 7, 8, 9, 10, 1, 0, 11] 12 rfl pmb_2_3_4_5_6_7_8_9_10_1_0_11 rfl rfl rfl (Nat.le_of_ble_eq_true rfl) rfl (fun (u : HT × (Nat → PT)) => [gObj x an am aq ap al au re pq, gPar cI an n, gPas cQ ap b u.1, gPar cI (b 0) (u.2 0), gPar cI (b 1) (u.2 1), gPar cI (b 2) (u.2 2), gPar cI (b 3) (u.2 3), gPar cI (b 4) (u.2 4), gPar cI (b 5) (u.2 5), gPar cI (b 6) (u.2 6), gPar cI (b 7) (u.2 7), gA cI re 7 rf]) [10, 9, 0, 1, 2, 3, 4, 5, 6, 7, 8, 11] 12 (fun _ => rfl) pmb_10_9_0_1_2_3_4_5_6_7_8_11 (fun _ => rfl) hw (fun u3 hw => ?_)
      obtain ⟨hhv4, Pv5⟩ := u3
      refine g_aload_n C dX5_pours_46 1 rfl rfl ?_
      refine g_get (v := .ref (an 0)) (ci := 4) C dX5_pours_47 inw_X5 rfl 0 0 0 rfl rfl (Nat.le_of_ble_eq_true rfl) rfl fl_X5_10 rfl rfl ?_
      refine g_iload_n C dX5_pours_50 2 rfl rfl ?_
      refine g_iload_n C dX5_pours_51 3 rfl rfl ?_
      refine g_callVi (As := [.int p1, .int p2]) (gr := [gObj x an am aq ap al au re pq, gPas cQ ap b hhv4, gPar cI (b 0) (Pv5 0), gPar cI (b 1) (Pv5 1), gPar cI (b 2) (Pv5 2), gPar cI (b 3) (Pv5 3), gPar cI (b 4) (Pv5 4), gPar cI (b 5) (Pv5 5), gPar cI (b 6) (Pv5 6), gPar cI (b 7) (Pv5 7), gA cI re 7 rf]) C (c_X3_fill l D cI cQ an n p1 p2 _) dX5_pours_52 ⟨ml_X5_116, kV_X3_fill⟩ ⟨Nat.le_of_ble_eq_true rfl, Nat.le_of_ble_eq_true rfl⟩ ⟨Nat.le_refl _, Nat.le_refl _⟩ rfl rfl 0 0 rfl rfl [1, 0, 2, 3, 4, 5, 6, 7, 8, 9, 10, 11] 12 rfl pmb_1_0_2_3_4_5_6_7_8_9_10_11 rfl rfl rfl (Nat.le_of_ble_eq_true rfl) rfl (fun (u : PT) => [gObj x an am aq ap al au re pq, gPar cI an u, gPas cQ ap b hhv4, gPar cI (b 0) (Pv5 0), gPar cI (b 1) (Pv5 1), gPar cI (b 2) (Pv5 2), gPar cI (b 3) (Pv5 3), gPar cI (b 4) (Pv5 4), gPar cI (b 5) (Pv5 5), gPar cI (b 6) (Pv5 6), gPar cI (b 7) (Pv5 7), gA cI re 7 rf]) [1, 0, 2, 3, 4, 5, 6, 7, 8, 9, 10, 11] 12 (fun _ => rfl) pmb_1_0_2_3_4_5_6_7_8_9_10_11 (fun _ => rfl) hw (fun r6 u6 hw => ?_)
      obtain ⟨nv7, rfl⟩ : ∃ z, z = u6 := ⟨_, rfl⟩
      refine g_pop C dX5_pours_55 rfl rfl ?_
      refine g_aload_n C dX5_pours_56 1 rfl rfl ?_
      refine g_get (v := .ref (an 0)) (ci := 4) C dX5_pours_57 inw_X5 rfl 0 0 0 rfl rfl (Nat.le_of_ble_eq_true rfl) rfl fl_X5_10 rfl rfl ?_
      refine g_iload_n C dX5_pours_60 2 rfl rfl ?_
      refine g_callVi (As := [.int p1]) (gr := [gObj x an am aq ap al au re pq, gPas cQ ap b hhv4, gPar cI (b 0) (Pv5 0), gPar cI (b 1) (Pv5 1), gPar cI (b 2) (Pv5 2), gPar cI (b 3) (Pv5 3), gPar cI (b 4) (Pv5 4), gPar cI (b 5) (Pv5 5), gPar cI (b 6) (Pv5 6), gPar cI (b 7) (Pv5 7), gA cI re 7 rf]) C (c_X3_holdsOf l D cI cQ an nv7 p1 _) dX5_pours_61 ⟨ml_X5_81, kV_X3_holdsOf⟩ ⟨Nat.le_of_ble_eq_true rfl, Nat.le_of_ble_eq_true rfl⟩ ⟨Nat.le_refl _, Nat.le_refl _⟩ rfl rfl 0 0 rfl rfl [1, 0, 2, 3, 4, 5, 6, 7, 8, 9, 10, 11] 12 rfl pmb_1_0_2_3_4_5_6_7_8_9_10_11 rfl rfl rfl (Nat.le_of_ble_eq_true rfl) rfl (fun (u : Unit) => [gObj x an am aq ap al au re pq, gPar cI an nv7, gPas cQ ap b hhv4, gPar cI (b 0) (Pv5 0), gPar cI (b 1) (Pv5 1), gPar cI (b 2) (Pv5 2), gPar cI (b 3) (Pv5 3), gPar cI (b 4) (Pv5 4), gPar cI (b 5) (Pv5 5), gPar cI (b 6) (Pv5 6), gPar cI (b 7) (Pv5 7), gA cI re 7 rf]) [1, 0, 2, 3, 4, 5, 6, 7, 8, 9, 10, 11] 12 (fun _ => rfl) pmb_1_0_2_3_4_5_6_7_8_9_10_11 (fun _ => rfl) hw (fun r8 u8 hw => ?_)
      exact hret 64 r8 (nv7, hhv4, Pv5, rf) _ dX5_pours_64 hw
    · refine g_aload_n C dX5_pours_29 1 rfl rfl ?_
      refine g_iload_n C dX5_pours_30 0 rfl rfl ?_
      refine g_callVi (As := [.int r2]) (gr := [gPar cI an n, gPas cQ ap b hh, gPar cI (b 0) (P 0), gPar cI (b 1) (P 1), gPar cI (b 2) (P 2), gPar cI (b 3) (P 3), gPar cI (b 4) (P 4), gPar cI (b 5) (P 5), gPar cI (b 6) (P 6), gPar cI (b 7) (P 7)]) C (c_X5_refuse l D cI cQ x an am aq ap b al au re pq rf r2 _) dX5_pours_31 ⟨ml_X5_51, kV_X5_refuse⟩ ⟨Nat.le_of_ble_eq_true rfl, Nat.le_of_ble_eq_true rfl⟩ ⟨Nat.le_refl _, Nat.le_refl _⟩ rfl rfl 0 0 rfl rfl [0, 11, 1, 2, 3, 4, 5, 6, 7, 8, 9, 10] 12 rfl pmb_0_11_1_2_3_4_5_6_7_8_9_10 rfl rfl rfl (Nat.le_of_ble_eq_true rfl) rfl (fun (u : F1) => [gObj x an am aq ap al au re pq, gPar cI an n, gPas cQ ap b hh, gPar cI (b 0) (P 0), gPar cI (b 1) (P 1), gPar cI (b 2) (P 2), gPar cI (b 3) (P 3), gPar cI (b 4) (P 4), gPar cI (b 5) (P 5), gPar cI (b 6) (P 6), gPar cI (b 7) (P 7), gA cI re 7 u]) [0, 2, 3, 4, 5, 6, 7, 8, 9, 10, 11, 1] 12 (fun _ => rfl) pmb_0_2_3_4_5_6_7_8_9_10_11_1 (fun _ => rfl) hw (fun r9 u9 hw => ?_)
      obtain ⟨rfv10, rfl⟩ : ∃ z, z = u9 := ⟨_, rfl⟩
      exact hret 34 r9 (n, hh, P, rfv10) _ dX5_pours_34 hw
  · refine g_aload_n C dX5_pours_11 0 rfl rfl ?_
    refine g_iconst (v := -1) C dX5_pours_12 (by decide) rfl ?_
    refine g_callVi (As := [.int (-1 : Int32)]) (gr := [gPar cI an n, gPas cQ ap b hh, gPar cI (b 0) (P 0), gPar cI (b 1) (P 1), gPar cI (b 2) (P 2), gPar cI (b 3) (P 3), gPar cI (b 4) (P 4), gPar cI (b 5) (P 5), gPar cI (b 6) (P 6), gPar cI (b 7) (P 7)]) C (c_X5_refuse l D cI cQ x an am aq ap b al au re pq rf (-1 : Int32) _) dX5_pours_13 ⟨ml_X5_51, kV_X5_refuse⟩ ⟨Nat.le_of_ble_eq_true rfl, Nat.le_of_ble_eq_true rfl⟩ ⟨Nat.le_refl _, Nat.le_refl _⟩ rfl rfl 0 0 rfl rfl [0, 11, 1, 2, 3, 4, 5, 6, 7, 8, 9, 10] 12 rfl pmb_0_11_1_2_3_4_5_6_7_8_9_10 rfl rfl rfl (Nat.le_of_ble_eq_true rfl) rfl (fun (u : F1) => [gObj x an am aq ap al au re pq, gPar cI an n, gPas cQ ap b hh, gPar cI (b 0) (P 0), gPar cI (b 1) (P 1), gPar cI (b 2) (P 2), gPar cI (b 3) (P 3), gPar cI (b 4) (P 4), gPar cI (b 5) (P 5), gPar cI (b 6) (P 6), gPar cI (b 7) (P 7), gA cI re 7 u]) [0, 2, 3, 4, 5, 6, 7, 8, 9, 10, 11, 1] 12 (fun _ => rfl) pmb_0_2_3_4_5_6_7_8_9_10_11_1 (fun _ => rfl) hw (fun r11 u11 hw => ?_)
    obtain ⟨rfv12, rfl⟩ : ∃ z, z = u11 := ⟨_, rfl⟩
    exact hret 16 r11 (n, hh, P, rfv12) _ dX5_pours_16 hw
set_option maxRecDepth 100000 in
theorem c_X5_pours (l : Launch) (D : va_G) (cI cQ : ClassId) (x : Nat) (an : Nat → Nat) (am : Nat → Nat) (aq : Nat → Nat) (ap : Nat → Nat) (b : Nat → Nat → Nat) (al : Nat → Nat) (au : Nat → Nat) (re : Nat) (pq : Int32) (n : PT) (hh : HT) (P : (Nat → PT)) (rf : F1) (p1 : Int32) (p2 : Int32) (post : Int32 → PT × HT × (Nat → PT) × F1 → Prop) (sz : Nat) : Met l yX5_pours (wsY yX5_pours cX5_pours 4 (some .int)) (rmL 3 0 0 83) (xP D (tyL cI cQ) [.ref x, .int p1, .int p2] [gObj x an am aq ap al au re pq, gPar cI an n, gPas cQ ap b hh, gPar cI (b 0) (P 0), gPar cI (b 1) (P 1), gPar cI (b 2) (P 2), gPar cI (b 3) (P 3), gPar cI (b 4) (P 4), gPar cI (b 5) (P 5), gPar cI (b 6) (P 6), gPar cI (b 7) (P 7), gA cI re 7 rf] sz (p_X5_pours n hh P rf p1 p2 post)) (xQi D (tyL cI cQ) post (fun (u : PT × HT × (Nat → PT) × F1) => [gObj x an am aq ap al au re pq, gPar cI an u.1, gPas cQ ap b u.2.1, gPar cI (b 0) (u.2.2.1 0), gPar cI (b 1) (u.2.2.1 1), gPar cI (b 2) (u.2.2.1 2), gPar cI (b 3) (u.2.2.1 3), gPar cI (b 4) (u.2.2.1 4), gPar cI (b 5) (u.2.2.1 5), gPar cI (b 6) (u.2.2.1 6), gPar cI (b 7) (u.2.2.1 7), gA cI re 7 u.2.2.2]) (va_A [gObj x an am aq ap al au re pq, gPar cI an n, gPas cQ ap b hh, gPar cI (b 0) (P 0), gPar cI (b 1) (P 1), gPar cI (b 2) (P 2), gPar cI (b 3) (P 3), gPar cI (b 4) (P 4), gPar cI (b 5) (P 5), gPar cI (b 6) (P 6), gPar cI (b 7) (P 7), gA cI re 7 rf].flatten sz)) 0 0 (va_A [gObj x an am aq ap al au re pq, gPar cI an n, gPas cQ ap b hh, gPar cI (b 0) (P 0), gPar cI (b 1) (P 1), gPar cI (b 2) (P 2), gPar cI (b 3) (P 3), gPar cI (b 4) (P 4), gPar cI (b 5) (P 5), gPar cI (b 6) (P 6), gPar cI (b 7) (P 7), gA cI re 7 rf].flatten sz) :=
  Met_i pn_X5 (Nat.le_of_ble_eq_true rfl) (fun p e s mi below meth co A Q _ C hret hw => w_X5_pours x an am aq ap b al au re pq n hh P rf p1 p2 C hret hw)
theorem kV_X5_pours : Cond.instanceMethod yX5_pours ∈ gTbl ∧ Cond.selects yX5_pours.cls yX5_pours yX5_pours ∈ gTbl ∧ Cond.initialized yX5_pours.cls ∈ gTbl ∧ Cond.code yX5_pours cX5_pours 4 (some .int) ∈ gTbl ∧ (yX5_pours.cls ≠ "java/lang/invoke/MethodHandle" ∧ yX5_pours.cls ≠ "java/lang/invoke/VarHandle" ∧ (parseMethodDescriptor yX5_pours.desc).map (fun d => d.parameters.length) = some 2) := ⟨im_X5_pours, sl_X5_pours, in_X5, cd_X5_pours, (by decide +kernel)⟩
set_option maxRecDepth 100000 in
def p_X5_empties (n : PT) (hh : HT) (post : Int32 → PT × HT → Prop) : Prop := p_X3_inCup n (fun (r1 : Int32) => p_X3_emptyCup n (fun (u2 : PT) => (fun (nv3 : PT) => p_X4_forget hh (fun (u4 : HT) => (fun (hhv5 : HT) => post r1 (nv3, hhv5)) u4)) u2))
set_option maxHeartbeats 4000000 in
set_option maxRecDepth 100000 in
theorem w_X5_empties {p : Program} {l : Launch} {e : Env} {s : State} {mi : MethodId} {args : Array Value} {below : List Frame} {meth : Method} {co : Code} {D : va_G} {cI cQ : ClassId} {A : Nat → Prop} {Q : State → Prop} (x : Nat) (an : Nat → Nat) (am : Nat → Nat) (aq : Nat → Nat) (ap : Nat → Nat) (b : Nat → Nat → Nat) (al : Nat → Nat) (au : Nat → Nat) (re : Nat) (pq : Int32) (n : PT) (hh : HT) {post : Int32 → PT × HT → Prop} (C : xC p s mi args co cX5_empties RX5 2 D (tyL cI cQ) A) (hret : ∀ (pc : Nat) (r : Int32) (u : PT × HT) (lv : List (Nat × Value)), decode cX5_empties pc = .ok (.ireturn, 1) → post r u → xG p l e (rmL 1 0 0 20) s mi args below meth co D A 2 Q 0 0 pc [.int r] [gObj x an am aq ap al au re pq, gPar cI an u.1, gPas cQ ap b u.2] lv) (hw : p_X5_empties n hh post) : xG p l e (rmL 1 0 0 20) s mi args below meth co D A 2 Q 0 0 0 [] [gObj x an am aq ap al au re pq, gPar cI an n, gPas cQ ap b hh] [(0, .ref x)] := by
  unfold p_X5_empties at hw
  try dsimp only at hw
  show xG p l e (rmL 1 0 0 20) s mi args below meth co D A 2 Q 0 0 0 [] [gObj x an am aq ap al au re pq, gPar cI an n, gPas cQ ap b hh] [(0, .ref x)]
  refine g_aload_n C dX5_empties_0 0 rfl rfl ?_
  refine g_get (v := .ref (an 0)) (ci := 4) C dX5_empties_1 inw_X5 rfl 0 0 0 rfl rfl (Nat.le_of_ble_eq_true rfl) rfl fl_X5_10 rfl rfl ?_
  refine g_callVi (As := []) (gr := [gObj x an am aq ap al au re pq, gPas cQ ap b hh]) C (c_X3_inCup l D cI cQ an n  _) dX5_empties_4 ⟨ml_X5_119, kV_X3_inCup⟩ ⟨Nat.le_of_ble_eq_true rfl, Nat.le_of_ble_eq_true rfl⟩ ⟨Nat.le_refl _, Nat.le_refl _⟩ rfl rfl 0 0 rfl rfl [1, 0, 2] 3 rfl pmb_1_0_2 rfl rfl rfl (Nat.le_of_ble_eq_true rfl) rfl (fun (u : Unit) => [gObj x an am aq ap al au re pq, gPar cI an n, gPas cQ ap b hh]) [1, 0, 2] 3 (fun _ => rfl) pmb_1_0_2 (fun _ => rfl) hw (fun r1 u1 hw => ?_)
  refine g_istore_n (v := r1) C dX5_empties_7 rfl (Nat.le_of_ble_eq_true rfl) (lv' := [(1, .int r1), (0, .ref x)]) rfl rfl ?_
  refine g_aload_n C dX5_empties_8 1 rfl rfl ?_
  refine g_get (v := .ref (an 0)) (ci := 4) C dX5_empties_9 inw_X5 rfl 0 0 0 rfl rfl (Nat.le_of_ble_eq_true rfl) rfl fl_X5_10 rfl rfl ?_
  refine g_callVv (As := []) (gr := [gObj x an am aq ap al au re pq, gPas cQ ap b hh]) C (c_X3_emptyCup l D cI cQ an n  _) dX5_empties_12 ⟨ml_X5_122, kV_X3_emptyCup⟩ ⟨Nat.le_of_ble_eq_true rfl, Nat.le_of_ble_eq_true rfl⟩ ⟨Nat.le_refl _, Nat.le_refl _⟩ rfl rfl 0 0 rfl rfl [1, 0, 2] 3 rfl pmb_1_0_2 rfl rfl rfl (Nat.le_of_ble_eq_true rfl) rfl (fun (u : PT) => [gObj x an am aq ap al au re pq, gPar cI an u, gPas cQ ap b hh]) [1, 0, 2] 3 (fun _ => rfl) pmb_1_0_2 (fun _ => rfl) hw (fun u2 hw => ?_)
  obtain ⟨nv3, rfl⟩ : ∃ z, z = u2 := ⟨_, rfl⟩
  refine g_aload_n C dX5_empties_15 1 rfl rfl ?_
  refine g_get (v := .ref (ap 0)) (ci := 4) C dX5_empties_16 inw_X5 rfl 0 0 3 rfl rfl (Nat.le_of_ble_eq_true rfl) rfl fl_X5_25 rfl rfl ?_
  refine g_callVv (As := []) (gr := [gObj x an am aq ap al au re pq, gPar cI an nv3]) C (c_X4_forget l D cI cQ ap b hh  _) dX5_empties_19 ⟨ml_X5_100, kV_X4_forget⟩ ⟨Nat.le_of_ble_eq_true rfl, Nat.le_of_ble_eq_true rfl⟩ ⟨Nat.le_refl _, Nat.le_refl _⟩ rfl rfl 0 0 rfl rfl [2, 0, 1] 3 rfl pmb_2_0_1 rfl rfl rfl (Nat.le_of_ble_eq_true rfl) rfl (fun (u : HT) => [gObj x an am aq ap al au re pq, gPar cI an nv3, gPas cQ ap b u]) [1, 2, 0] 3 (fun _ => rfl) pmb_1_2_0 (fun _ => rfl) hw (fun u4 hw => ?_)
  obtain ⟨hhv5, rfl⟩ : ∃ z, z = u4 := ⟨_, rfl⟩
  refine g_iload_n C dX5_empties_22 0 rfl rfl ?_
  exact hret 23 r1 (nv3, hhv5) _ dX5_empties_23 hw
set_option maxRecDepth 100000 in
theorem c_X5_empties (l : Launch) (D : va_G) (cI cQ : ClassId) (x : Nat) (an : Nat → Nat) (am : Nat → Nat) (aq : Nat → Nat) (ap : Nat → Nat) (b : Nat → Nat → Nat) (al : Nat → Nat) (au : Nat → Nat) (re : Nat) (pq : Int32) (n : PT) (hh : HT) (post : Int32 → PT × HT → Prop) (sz : Nat) : Met l yX5_empties (wsY yX5_empties cX5_empties 2 (some .int)) (rmL 1 0 0 20) (xP D (tyL cI cQ) [.ref x] [gObj x an am aq ap al au re pq, gPar cI an n, gPas cQ ap b hh] sz (p_X5_empties n hh post)) (xQi D (tyL cI cQ) post (fun (u : PT × HT) => [gObj x an am aq ap al au re pq, gPar cI an u.1, gPas cQ ap b u.2]) (va_A [gObj x an am aq ap al au re pq, gPar cI an n, gPas cQ ap b hh].flatten sz)) 0 0 (va_A [gObj x an am aq ap al au re pq, gPar cI an n, gPas cQ ap b hh].flatten sz) :=
  Met_i pn_X5 (Nat.le_of_ble_eq_true rfl) (fun p e s mi below meth co A Q _ C hret hw => w_X5_empties x an am aq ap b al au re pq n hh C hret hw)
theorem kV_X5_empties : Cond.instanceMethod yX5_empties ∈ gTbl ∧ Cond.selects yX5_empties.cls yX5_empties yX5_empties ∈ gTbl ∧ Cond.initialized yX5_empties.cls ∈ gTbl ∧ Cond.code yX5_empties cX5_empties 2 (some .int) ∈ gTbl ∧ (yX5_empties.cls ≠ "java/lang/invoke/MethodHandle" ∧ yX5_empties.cls ≠ "java/lang/invoke/VarHandle" ∧ (parseMethodDescriptor yX5_empties.desc).map (fun d => d.parameters.length) = some 0) := ⟨im_X5_empties, sl_X5_empties, in_X5, cd_X5_empties, (by decide +kernel)⟩
set_option maxRecDepth 100000 in
def p_X5_hours (n : PT) (hh : HT) (P : (Nat → PT)) (rf : F1) (p1 : Int32) (post : Int32 → PT × HT × (Nat → PT) × F1 → Prop) : Prop := p_X5_outside p1 (1 : Int32) (60 : Int32) (fun (r1 : Int32) => ((r1 = 0 → p_X3_hasTimeFor n p1 (fun (r2 : Int32) => ((r2 = 0 → p_X5_refuse rf (-6 : Int32) (fun (r9 : Int32) (u9 : F1) => (fun (rfv10 : F1) => post r9 (n, hh, P, rfv10)) u9)) ∧ (¬ r2 = 0 → p_X4_keep hh P n (fun (u3 : HT × (Nat → PT)) => (fun (hhv4 : HT) (Pv5 : (Nat → PT)) => p_X3_pass n p1 (fun (u6 : PT) => (fun (nv7 : PT) => p_X3_inCup nv7 (fun (r8 : Int32) => post r8 (nv7, hhv4, Pv5, rf))) u6)) u3.1 u3.2))))) ∧ (¬ r1 = 0 → p_X5_refuse rf r1 (fun (r11 : Int32) (u11 : F1) => (fun (rfv12 : F1) => post r11 (n, hh, P, rfv12)) u11))))
set_option maxHeartbeats 4000000 in
set_option maxRecDepth 100000 in
theorem w_X5_hours {p : Program} {l : Launch} {e : Env} {s : State} {mi : MethodId} {args : Array Value} {below : List Frame} {meth : Method} {co : Code} {D : va_G} {cI cQ : ClassId} {A : Nat → Prop} {Q : State → Prop} (x : Nat) (an : Nat → Nat) (am : Nat → Nat) (aq : Nat → Nat) (ap : Nat → Nat) (b : Nat → Nat → Nat) (al : Nat → Nat) (au : Nat → Nat) (re : Nat) (pq : Int32) (n : PT) (hh : HT) (P : (Nat → PT)) (rf : F1) (p1 : Int32) {post : Int32 → PT × HT × (Nat → PT) × F1 → Prop} (C : xC p s mi args co cX5_hours RX5 3 D (tyL cI cQ) A) (hret : ∀ (pc : Nat) (r : Int32) (u : PT × HT × (Nat → PT) × F1) (lv : List (Nat × Value)), decode cX5_hours pc = .ok (.ireturn, 1) → post r u → xG p l e (rmL 4 0 0 92) s mi args below meth co D A 3 Q 0 0 pc [.int r] [gObj x an am aq ap al au re pq, gPar cI an u.1, gPas cQ ap b u.2.1, gPar cI (b 0) (u.2.2.1 0), gPar cI (b 1) (u.2.2.1 1), gPar cI (b 2) (u.2.2.1 2), gPar cI (b 3) (u.2.2.1 3), gPar cI (b 4) (u.2.2.1 4), gPar cI (b 5) (u.2.2.1 5), gPar cI (b 6) (u.2.2.1 6), gPar cI (b 7) (u.2.2.1 7), gA cI re 7 u.2.2.2] lv) (hw : p_X5_hours n hh P rf p1 post) : xG p l e (rmL 4 0 0 92) s mi args below meth co D A 3 Q 0 0 0 [] [gObj x an am aq ap al au re pq, gPar cI an n, gPas cQ ap b hh, gPar cI (b 0) (P 0), gPar cI (b 1) (P 1), gPar cI (b 2) (P 2), gPar cI (b 3) (P 3), gPar cI (b 4) (P 4), gPar cI (b 5) (P 5), gPar cI (b 6) (P 6), gPar cI (b 7) (P 7), gA cI re 7 rf] [(0, .ref x), (1, .int p1)] := by
  unfold p_X5_hours at hw
  try dsimp only at hw
  show xG p l e (rmL 4 0 0 92) s mi args below meth co D A 3 Q 0 0 0 [] [gObj x an am aq ap al au re pq, gPar cI an n, gPas cQ ap b hh, gPar cI (b 0) (P 0), gPar cI (b 1) (P 1), gPar cI (b 2) (P 2), gPar cI (b 3) (P 3), gPar cI (b 4) (P 4), gPar cI (b 5) (P 5), gPar cI (b 6) (P 6), gPar cI (b 7) (P 7), gA cI re 7 rf] [(0, .ref x), (1, .int p1)]
  refine g_iload_n C dX5_hours_0 1 rfl rfl ?_
  refine g_iconst (v := 1) C dX5_hours_1 rfl rfl ?_
  refine g_bipush (v := 60) C dX5_hours_2 (by decide) rfl ?_
  refine g_callSi (As := [.int p1, .int (1 : Int32), .int (60 : Int32)]) (gr := [gObj x an am aq ap al au re pq, gPar cI an n, gPas cQ ap b hh, gPar cI (b 0) (P 0), gPar cI (b 1) (P 1), gPar cI (b 2) (P 2), gPar cI (b 3) (P 3), gPar cI (b 4) (P 4), gPar cI (b 5) (P 5), gPar cI (b 6) (P 6), gPar cI (b 7) (P 7), gA cI re 7 rf]) C (c_X5_outside l D cI cQ   p1 (1 : Int32) (60 : Int32) _) dX5_hours_4 ⟨ml_X5_47, kS_X5_outside⟩ ⟨Nat.le_of_ble_eq_true rfl, Nat.le_of_ble_eq_true rfl⟩ ⟨Nat.le_refl _, Nat.le_refl _⟩ [0, 1, 2, 3, 4, 5, 6, 7, 8, 9, 10, 11] 12 rfl pmb_0_1_2_3_4_5_6_7_8_9_10_11 rfl rfl rfl (Nat.le_of_ble_eq_true rfl) rfl (fun (u : Unit) => [gObj x an am aq ap al au re pq, gPar cI an n, gPas cQ ap b hh, gPar cI (b 0) (P 0), gPar cI (b 1) (P 1), gPar cI (b 2) (P 2), gPar cI (b 3) (P 3), gPar cI (b 4) (P 4), gPar cI (b 5) (P 5), gPar cI (b 6) (P 6), gPar cI (b 7) (P 7), gA cI re 7 rf]) [0, 1, 2, 3, 4, 5, 6, 7, 8, 9, 10, 11] 12 (fun _ => rfl) pmb_0_1_2_3_4_5_6_7_8_9_10_11 (fun _ => rfl) hw (fun r1 u1 hw => ?_)
  refine g_istore_n (v := r1) C dX5_hours_7 rfl (Nat.le_of_ble_eq_true rfl) (lv' := [(2, .int r1), (0, .ref x), (1, .int p1)]) rfl rfl ?_
  refine g_iload_n C dX5_hours_8 0 rfl rfl ?_
  refine g_if_eq (tgt := 18) C dX5_hours_9 (by decide) rfl hw (fun _ hw => ?_) (fun _ hw => ?_)
  · refine g_aload_n C dX5_hours_18 1 rfl rfl ?_
    refine g_get (v := .ref (an 0)) (ci := 4) C dX5_hours_19 inw_X5 rfl 0 0 0 rfl rfl (Nat.le_of_ble_eq_true rfl) rfl fl_X5_10 rfl rfl ?_
    refine g_iload_n C dX5_hours_22 2 rfl rfl ?_
    refine g_callVi (As := [.int p1]) (gr := [gObj x an am aq ap al au re pq, gPas cQ ap b hh, gPar cI (b 0) (P 0), gPar cI (b 1) (P 1), gPar cI (b 2) (P 2), gPar cI (b 3) (P 3), gPar cI (b 4) (P 4), gPar cI (b 5) (P 5), gPar cI (b 6) (P 6), gPar cI (b 7) (P 7), gA cI re 7 rf]) C (c_X3_hasTimeFor l D cI cQ an n p1 _) dX5_hours_23 ⟨ml_X5_125, kV_X3_hasTimeFor⟩ ⟨Nat.le_of_ble_eq_true rfl, Nat.le_of_ble_eq_true rfl⟩ ⟨Nat.le_refl _, Nat.le_refl _⟩ rfl rfl 0 0 rfl rfl [1, 0, 2, 3, 4, 5, 6, 7, 8, 9, 10, 11] 12 rfl pmb_1_0_2_3_4_5_6_7_8_9_10_11 rfl rfl rfl (Nat.le_of_ble_eq_true rfl) rfl (fun (u : Unit) => [gObj x an am aq ap al au re pq, gPar cI an n, gPas cQ ap b hh, gPar cI (b 0) (P 0), gPar cI (b 1) (P 1), gPar cI (b 2) (P 2), gPar cI (b 3) (P 3), gPar cI (b 4) (P 4), gPar cI (b 5) (P 5), gPar cI (b 6) (P 6), gPar cI (b 7) (P 7), gA cI re 7 rf]) [1, 0, 2, 3, 4, 5, 6, 7, 8, 9, 10, 11] 12 (fun _ => rfl) pmb_1_0_2_3_4_5_6_7_8_9_10_11 (fun _ => rfl) hw (fun r2 u2 hw => ?_)
    refine g_if_ne (tgt := 36) C dX5_hours_26 (by decide) rfl hw (fun _ hw => ?_) (fun _ hw => ?_)
    · refine g_aload_n C dX5_hours_36 1 rfl rfl ?_
      refine g_get (v := .ref (ap 0)) (ci := 4) C dX5_hours_37 inw_X5 rfl 0 0 3 rfl rfl (Nat.le_of_ble_eq_true rfl) rfl fl_X5_25 rfl rfl ?_
      refine g_aload_n C dX5_hours_40 1 rfl rfl ?_
      refine g_get (v := .ref (an 0)) (ci := 4) C dX5_hours_41 inw_X5 rfl 0 0 0 rfl rfl (Nat.le_of_ble_eq_true rfl) rfl fl_X5_10 rfl rfl ?_
      refine g_callVv (As := [.ref (an 0)]) (gr := [gObj x an am aq ap al au re pq, gA cI re 7 rf]) C (c_X4_keep l D cI cQ ap b an hh P n  _) dX5_hours_44 ⟨ml_X5_106, kV_X4_keep⟩ ⟨Nat.le_of_ble_eq_true rfl, Nat.le_of_ble_eq_true rfl⟩ ⟨Nat.le_refl _, Nat.le_refl _⟩ rfl rfl 0 0 rfl rfl [2, 3, 4, 5, 6, 7, 8, 9, 10, 1, 0, 11] 12 rfl pmb_2_3_4_5_6_7_8_9_10_1_0_11 rfl rfl rfl (Nat.le_of_ble_eq_true rfl) rfl (fun (u : HT × (Nat → PT)) => [gObj x an am aq ap al au re pq, gPar cI an n, gPas cQ ap b u.1, gPar cI (b 0) (u.2 0), gPar cI (b 1) (u.2 1), gPar cI (b 2) (u.2 2), gPar cI (b 3) (u.2 3), gPar cI (b 4) (u.2 4), gPar cI (b 5) (u.2 5), gPar cI (b 6) (u.2 6), gPar cI (b 7) (u.2 7), gA cI re 7 rf]) [10, 9, 0, 1, 2, 3, 4, 5, 6, 7, 8, 11] 12 (fun _ => rfl) pmb_10_9_0_1_2_3_4_5_6_7_8_11 (fun _ => rfl) hw (fun u3 hw => ?_)
      obtain ⟨hhv4, Pv5⟩ := u3
      refine g_aload_n C dX5_hours_47 1 rfl rfl ?_
      refine g_get (v := .ref (an 0)) (ci := 4) C dX5_hours_48 inw_X5 rfl 0 0 0 rfl rfl (Nat.le_of_ble_eq_true rfl) rfl fl_X5_10 rfl rfl ?_
      refine g_iload_n C dX5_hours_51 2 rfl rfl ?_
      refine g_callVv (As := [.int p1]) (gr := [gObj x an am aq ap al au re pq, gPas cQ ap b hhv4, gPar cI (b 0) (Pv5 0), gPar cI (b 1) (Pv5 1), gPar cI (b 2) (Pv5 2), gPar cI (b 3) (Pv5 3), gPar cI (b 4) (Pv5 4), gPar cI (b 5) (Pv5 5), gPar cI (b 6) (Pv5 6), gPar cI (b 7) (Pv5 7), gA cI re 7 rf]) C (c_X3_pass l D cI cQ an n p1 _) dX5_hours_52 ⟨ml_X5_128, kV_X3_pass⟩ ⟨Nat.le_of_ble_eq_true rfl, Nat.le_of_ble_eq_true rfl⟩ ⟨Nat.le_refl _, Nat.le_refl _⟩ rfl rfl 0 0 rfl rfl [1, 0, 2, 3, 4, 5, 6, 7, 8, 9, 10, 11] 12 rfl pmb_1_0_2_3_4_5_6_7_8_9_10_11 rfl rfl rfl (Nat.le_of_ble_eq_true rfl) rfl (fun (u : PT) => [gObj x an am aq ap al au re pq, gPar cI an u, gPas cQ ap b hhv4, gPar cI (b 0) (Pv5 0), gPar cI (b 1) (Pv5 1), gPar cI (b 2) (Pv5 2), gPar cI (b 3) (Pv5 3), gPar cI (b 4) (Pv5 4), gPar cI (b 5) (Pv5 5), gPar cI (b 6) (Pv5 6), gPar cI (b 7) (Pv5 7), gA cI re 7 rf]) [1, 0, 2, 3, 4, 5, 6, 7, 8, 9, 10, 11] 12 (fun _ => rfl) pmb_1_0_2_3_4_5_6_7_8_9_10_11 (fun _ => rfl) hw (fun u6 hw => ?_)
      obtain ⟨nv7, rfl⟩ : ∃ z, z = u6 := ⟨_, rfl⟩
      refine g_aload_n C dX5_hours_55 1 rfl rfl ?_
      refine g_get (v := .ref (an 0)) (ci := 4) C dX5_hours_56 inw_X5 rfl 0 0 0 rfl rfl (Nat.le_of_ble_eq_true rfl) rfl fl_X5_10 rfl rfl ?_
      refine g_callVi (As := []) (gr := [gObj x an am aq ap al au re pq, gPas cQ ap b hhv4, gPar cI (b 0) (Pv5 0), gPar cI (b 1) (Pv5 1), gPar cI (b 2) (Pv5 2), gPar cI (b 3) (Pv5 3), gPar cI (b 4) (Pv5 4), gPar cI (b 5) (Pv5 5), gPar cI (b 6) (Pv5 6), gPar cI (b 7) (Pv5 7), gA cI re 7 rf]) C (c_X3_inCup l D cI cQ an nv7  _) dX5_hours_59 ⟨ml_X5_119, kV_X3_inCup⟩ ⟨Nat.le_of_ble_eq_true rfl, Nat.le_of_ble_eq_true rfl⟩ ⟨Nat.le_refl _, Nat.le_refl _⟩ rfl rfl 0 0 rfl rfl [1, 0, 2, 3, 4, 5, 6, 7, 8, 9, 10, 11] 12 rfl pmb_1_0_2_3_4_5_6_7_8_9_10_11 rfl rfl rfl (Nat.le_of_ble_eq_true rfl) rfl (fun (u : Unit) => [gObj x an am aq ap al au re pq, gPar cI an nv7, gPas cQ ap b hhv4, gPar cI (b 0) (Pv5 0), gPar cI (b 1) (Pv5 1), gPar cI (b 2) (Pv5 2), gPar cI (b 3) (Pv5 3), gPar cI (b 4) (Pv5 4), gPar cI (b 5) (Pv5 5), gPar cI (b 6) (Pv5 6), gPar cI (b 7) (Pv5 7), gA cI re 7 rf]) [1, 0, 2, 3, 4, 5, 6, 7, 8, 9, 10, 11] 12 (fun _ => rfl) pmb_1_0_2_3_4_5_6_7_8_9_10_11 (fun _ => rfl) hw (fun r8 u8 hw => ?_)
      exact hret 62 r8 (nv7, hhv4, Pv5, rf) _ dX5_hours_62 hw
    · refine g_aload_n C dX5_hours_29 1 rfl rfl ?_
      refine g_bipush (v := -6) C dX5_hours_30 (by decide) rfl ?_
      refine g_callVi (As := [.int (-6 : Int32)]) (gr := [gPar cI an n, gPas cQ ap b hh, gPar cI (b 0) (P 0), gPar cI (b 1) (P 1), gPar cI (b 2) (P 2), gPar cI (b 3) (P 3), gPar cI (b 4) (P 4), gPar cI (b 5) (P 5), gPar cI (b 6) (P 6), gPar cI (b 7) (P 7)]) C (c_X5_refuse l D cI cQ x an am aq ap b al au re pq rf (-6 : Int32) _) dX5_hours_32 ⟨ml_X5_51, kV_X5_refuse⟩ ⟨Nat.le_of_ble_eq_true rfl, Nat.le_of_ble_eq_true rfl⟩ ⟨Nat.le_refl _, Nat.le_refl _⟩ rfl rfl 0 0 rfl rfl [0, 11, 1, 2, 3, 4, 5, 6, 7, 8, 9, 10] 12 rfl pmb_0_11_1_2_3_4_5_6_7_8_9_10 rfl rfl rfl (Nat.le_of_ble_eq_true rfl) rfl (fun (u : F1) => [gObj x an am aq ap al au re pq, gPar cI an n, gPas cQ ap b hh, gPar cI (b 0) (P 0), gPar cI (b 1) (P 1), gPar cI (b 2) (P 2), gPar cI (b 3) (P 3), gPar cI (b 4) (P 4), gPar cI (b 5) (P 5), gPar cI (b 6) (P 6), gPar cI (b 7) (P 7), gA cI re 7 u]) [0, 2, 3, 4, 5, 6, 7, 8, 9, 10, 11, 1] 12 (fun _ => rfl) pmb_0_2_3_4_5_6_7_8_9_10_11_1 (fun _ => rfl) hw (fun r9 u9 hw => ?_)
      obtain ⟨rfv10, rfl⟩ : ∃ z, z = u9 := ⟨_, rfl⟩
      exact hret 35 r9 (n, hh, P, rfv10) _ dX5_hours_35 hw
  · refine g_aload_n C dX5_hours_12 1 rfl rfl ?_
    refine g_iload_n C dX5_hours_13 0 rfl rfl ?_
    refine g_callVi (As := [.int r1]) (gr := [gPar cI an n, gPas cQ ap b hh, gPar cI (b 0) (P 0), gPar cI (b 1) (P 1), gPar cI (b 2) (P 2), gPar cI (b 3) (P 3), gPar cI (b 4) (P 4), gPar cI (b 5) (P 5), gPar cI (b 6) (P 6), gPar cI (b 7) (P 7)]) C (c_X5_refuse l D cI cQ x an am aq ap b al au re pq rf r1 _) dX5_hours_14 ⟨ml_X5_51, kV_X5_refuse⟩ ⟨Nat.le_of_ble_eq_true rfl, Nat.le_of_ble_eq_true rfl⟩ ⟨Nat.le_refl _, Nat.le_refl _⟩ rfl rfl 0 0 rfl rfl [0, 11, 1, 2, 3, 4, 5, 6, 7, 8, 9, 10] 12 rfl pmb_0_11_1_2_3_4_5_6_7_8_9_10 rfl rfl rfl (Nat.le_of_ble_eq_true rfl) rfl (fun (u : F1) => [gObj x an am aq ap al au re pq, gPar cI an n, gPas cQ ap b hh, gPar cI (b 0) (P 0), gPar cI (b 1) (P 1), gPar cI (b 2) (P 2), gPar cI (b 3) (P 3), gPar cI (b 4) (P 4), gPar cI (b 5) (P 5), gPar cI (b 6) (P 6), gPar cI (b 7) (P 7), gA cI re 7 u]) [0, 2, 3, 4, 5, 6, 7, 8, 9, 10, 11, 1] 12 (fun _ => rfl) pmb_0_2_3_4_5_6_7_8_9_10_11_1 (fun _ => rfl) hw (fun r11 u11 hw => ?_)
    obtain ⟨rfv12, rfl⟩ : ∃ z, z = u11 := ⟨_, rfl⟩
    exact hret 17 r11 (n, hh, P, rfv12) _ dX5_hours_17 hw
set_option maxRecDepth 100000 in
theorem c_X5_hours (l : Launch) (D : va_G) (cI cQ : ClassId) (x : Nat) (an : Nat → Nat) (am : Nat → Nat) (aq : Nat → Nat) (ap : Nat → Nat) (b : Nat → Nat → Nat) (al : Nat → Nat) (au : Nat → Nat) (re : Nat) (pq : Int32) (n : PT) (hh : HT) (P : (Nat → PT)) (rf : F1) (p1 : Int32) (post : Int32 → PT × HT × (Nat → PT) × F1 → Prop) (sz : Nat) : Met l yX5_hours (wsY yX5_hours cX5_hours 3 (some .int)) (rmL 4 0 0 92) (xP D (tyL cI cQ) [.ref x, .int p1] [gObj x an am aq ap al au re pq, gPar cI an n, gPas cQ ap b hh, gPar cI (b 0) (P 0), gPar cI (b 1) (P 1), gPar cI (b 2) (P 2), gPar cI (b 3) (P 3), gPar cI (b 4) (P 4), gPar cI (b 5) (P 5), gPar cI (b 6) (P 6), gPar cI (b 7) (P 7), gA cI re 7 rf] sz (p_X5_hours n hh P rf p1 post)) (xQi D (tyL cI cQ) post (fun (u : PT × HT × (Nat → PT) × F1) => [gObj x an am aq ap al au re pq, gPar cI an u.1, gPas cQ ap b u.2.1, gPar cI (b 0) (u.2.2.1 0), gPar cI (b 1) (u.2.2.1 1), gPar cI (b 2) (u.2.2.1 2), gPar cI (b 3) (u.2.2.1 3), gPar cI (b 4) (u.2.2.1 4), gPar cI (b 5) (u.2.2.1 5), gPar cI (b 6) (u.2.2.1 6), gPar cI (b 7) (u.2.2.1 7), gA cI re 7 u.2.2.2]) (va_A [gObj x an am aq ap al au re pq, gPar cI an n, gPas cQ ap b hh, gPar cI (b 0) (P 0), gPar cI (b 1) (P 1), gPar cI (b 2) (P 2), gPar cI (b 3) (P 3), gPar cI (b 4) (P 4), gPar cI (b 5) (P 5), gPar cI (b 6) (P 6), gPar cI (b 7) (P 7), gA cI re 7 rf].flatten sz)) 0 0 (va_A [gObj x an am aq ap al au re pq, gPar cI an n, gPas cQ ap b hh, gPar cI (b 0) (P 0), gPar cI (b 1) (P 1), gPar cI (b 2) (P 2), gPar cI (b 3) (P 3), gPar cI (b 4) (P 4), gPar cI (b 5) (P 5), gPar cI (b 6) (P 6), gPar cI (b 7) (P 7), gA cI re 7 rf].flatten sz) :=
  Met_i pn_X5 (Nat.le_of_ble_eq_true rfl) (fun p e s mi below meth co A Q _ C hret hw => w_X5_hours x an am aq ap b al au re pq n hh P rf p1 C hret hw)
theorem kV_X5_hours : Cond.instanceMethod yX5_hours ∈ gTbl ∧ Cond.selects yX5_hours.cls yX5_hours yX5_hours ∈ gTbl ∧ Cond.initialized yX5_hours.cls ∈ gTbl ∧ Cond.code yX5_hours cX5_hours 3 (some .int) ∈ gTbl ∧ (yX5_hours.cls ≠ "java/lang/invoke/MethodHandle" ∧ yX5_hours.cls ≠ "java/lang/invoke/VarHandle" ∧ (parseMethodDescriptor yX5_hours.desc).map (fun d => d.parameters.length) = some 1) := ⟨im_X5_hours, sl_X5_hours, in_X5, cd_X5_hours, (by decide +kernel)⟩
set_option maxRecDepth 100000 in
def p_X5_back (n : PT) (hh : HT) (P : (Nat → PT)) (rf : F1) (post : Int32 → PT × HT × F1 → Prop) : Prop := p_X4_giveLatest hh P n (fun (r1 : Int32) (u1 : HT × PT) => (fun (hhv2 : HT) (nv3 : PT) => ((r1 = 0 → p_X5_refuse rf (-3 : Int32) (fun (r5 : Int32) (u5 : F1) => (fun (rfv6 : F1) => post r5 (nv3, hhv2, rfv6)) u5)) ∧ (¬ r1 = 0 → p_X4_size hhv2 (fun (r4 : Int32) => post r4 (nv3, hhv2, rf))))) u1.1 u1.2)
set_option maxHeartbeats 4000000 in
set_option maxRecDepth 100000 in
theorem w_X5_back {p : Program} {l : Launch} {e : Env} {s : State} {mi : MethodId} {args : Array Value} {below : List Frame} {meth : Method} {co : Code} {D : va_G} {cI cQ : ClassId} {A : Nat → Prop} {Q : State → Prop} (x : Nat) (an : Nat → Nat) (am : Nat → Nat) (aq : Nat → Nat) (ap : Nat → Nat) (b : Nat → Nat → Nat) (al : Nat → Nat) (au : Nat → Nat) (re : Nat) (pq : Int32) (n : PT) (hh : HT) (P : (Nat → PT)) (rf : F1) {post : Int32 → PT × HT × F1 → Prop} (C : xC p s mi args co cX5_back RX5 1 D (tyL cI cQ) A) (hret : ∀ (pc : Nat) (r : Int32) (u : PT × HT × F1) (lv : List (Nat × Value)), decode cX5_back pc = .ok (.ireturn, 1) → post r u → xG p l e (rmL 3 0 0 82) s mi args below meth co D A 1 Q 0 0 pc [.int r] [gObj x an am aq ap al au re pq, gPar cI an u.1, gPas cQ ap b u.2.1, gPar cI (b 0) (P 0), gPar cI (b 1) (P 1), gPar cI (b 2) (P 2), gPar cI (b 3) (P 3), gPar cI (b 4) (P 4), gPar cI (b 5) (P 5), gPar cI (b 6) (P 6), gPar cI (b 7) (P 7), gA cI re 7 u.2.2] lv) (hw : p_X5_back n hh P rf post) : xG p l e (rmL 3 0 0 82) s mi args below meth co D A 1 Q 0 0 0 [] [gObj x an am aq ap al au re pq, gPar cI an n, gPas cQ ap b hh, gPar cI (b 0) (P 0), gPar cI (b 1) (P 1), gPar cI (b 2) (P 2), gPar cI (b 3) (P 3), gPar cI (b 4) (P 4), gPar cI (b 5) (P 5), gPar cI (b 6) (P 6), gPar cI (b 7) (P 7), gA cI re 7 rf] [(0, .ref x)] := by
  unfold p_X5_back at hw
  try dsimp only at hw
  show xG p l e (rmL 3 0 0 82) s mi args below meth co D A 1 Q 0 0 0 [] [gObj x an am aq ap al au re pq, gPar cI an n, gPas cQ ap b hh, gPar cI (b 0) (P 0), gPar cI (b 1) (P 1), gPar cI (b 2) (P 2), gPar cI (b 3) (P 3), gPar cI (b 4) (P 4), gPar cI (b 5) (P 5), gPar cI (b 6) (P 6), gPar cI (b 7) (P 7), gA cI re 7 rf] [(0, .ref x)]
  refine g_aload_n C dX5_back_0 0 rfl rfl ?_
  refine g_get (v := .ref (ap 0)) (ci := 4) C dX5_back_1 inw_X5 rfl 0 0 3 rfl rfl (Nat.le_of_ble_eq_true rfl) rfl fl_X5_25 rfl rfl ?_
  refine g_aload_n C dX5_back_4 0 rfl rfl ?_
  refine g_get (v := .ref (an 0)) (ci := 4) C dX5_back_5 inw_X5 rfl 0 0 0 rfl rfl (Nat.le_of_ble_eq_true rfl) rfl fl_X5_10 rfl rfl ?_
  refine g_callVi (As := [.ref (an 0)]) (gr := [gObj x an am aq ap al au re pq, gA cI re 7 rf]) C (c_X4_giveLatest l D cI cQ ap b an hh P n  _) dX5_back_8 ⟨ml_X5_132, kV_X4_giveLatest⟩ ⟨Nat.le_of_ble_eq_true rfl, Nat.le_of_ble_eq_true rfl⟩ ⟨Nat.le_refl _, Nat.le_refl _⟩ rfl rfl 0 0 rfl rfl [2, 3, 4, 5, 6, 7, 8, 9, 10, 1, 0, 11] 12 rfl pmb_2_3_4_5_6_7_8_9_10_1_0_11 rfl rfl rfl (Nat.le_of_ble_eq_true rfl) rfl (fun (u : HT × PT) => [gObj x an am aq ap al au re pq, gPar cI an u.2, gPas cQ ap b u.1, gPar cI (b 0) (P 0), gPar cI (b 1) (P 1), gPar cI (b 2) (P 2), gPar cI (b 3) (P 3), gPar cI (b 4) (P 4), gPar cI (b 5) (P 5), gPar cI (b 6) (P 6), gPar cI (b 7) (P 7), gA cI re 7 rf]) [10, 9, 0, 1, 2, 3, 4, 5, 6, 7, 8, 11] 12 (fun _ => rfl) pmb_10_9_0_1_2_3_4_5_6_7_8_11 (fun _ => rfl) hw (fun r1 u1 hw => ?_)
  obtain ⟨hhv2, nv3⟩ := u1
  refine g_if_ne (tgt := 21) C dX5_back_11 (by decide) rfl hw (fun _ hw => ?_) (fun _ hw => ?_)
  · refine g_aload_n C dX5_back_21 0 rfl rfl ?_
    refine g_get (v := .ref (ap 0)) (ci := 4) C dX5_back_22 inw_X5 rfl 0 0 3 rfl rfl (Nat.le_of_ble_eq_true rfl) rfl fl_X5_25 rfl rfl ?_
    refine g_callVi (As := []) (gr := [gObj x an am aq ap al au re pq, gPar cI an nv3, gPar cI (b 0) (P 0), gPar cI (b 1) (P 1), gPar cI (b 2) (P 2), gPar cI (b 3) (P 3), gPar cI (b 4) (P 4), gPar cI (b 5) (P 5), gPar cI (b 6) (P 6), gPar cI (b 7) (P 7), gA cI re 7 rf]) C (c_X4_size l D cI cQ ap b hhv2  _) dX5_back_25 ⟨ml_X5_136, kV_X4_size⟩ ⟨Nat.le_of_ble_eq_true rfl, Nat.le_of_ble_eq_true rfl⟩ ⟨Nat.le_refl _, Nat.le_refl _⟩ rfl rfl 0 0 rfl rfl [2, 0, 1, 3, 4, 5, 6, 7, 8, 9, 10, 11] 12 rfl pmb_2_0_1_3_4_5_6_7_8_9_10_11 rfl rfl rfl (Nat.le_of_ble_eq_true rfl) rfl (fun (u : Unit) => [gObj x an am aq ap al au re pq, gPar cI an nv3, gPas cQ ap b hhv2, gPar cI (b 0) (P 0), gPar cI (b 1) (P 1), gPar cI (b 2) (P 2), gPar cI (b 3) (P 3), gPar cI (b 4) (P 4), gPar cI (b 5) (P 5), gPar cI (b 6) (P 6), gPar cI (b 7) (P 7), gA cI re 7 rf]) [1, 2, 0, 3, 4, 5, 6, 7, 8, 9, 10, 11] 12 (fun _ => rfl) pmb_1_2_0_3_4_5_6_7_8_9_10_11 (fun _ => rfl) hw (fun r4 u4 hw => ?_)
    exact hret 28 r4 (nv3, hhv2, rf) _ dX5_back_28 hw
  · refine g_aload_n C dX5_back_14 0 rfl rfl ?_
    refine g_bipush (v := -3) C dX5_back_15 (by decide) rfl ?_
    refine g_callVi (As := [.int (-3 : Int32)]) (gr := [gPar cI an nv3, gPas cQ ap b hhv2, gPar cI (b 0) (P 0), gPar cI (b 1) (P 1), gPar cI (b 2) (P 2), gPar cI (b 3) (P 3), gPar cI (b 4) (P 4), gPar cI (b 5) (P 5), gPar cI (b 6) (P 6), gPar cI (b 7) (P 7)]) C (c_X5_refuse l D cI cQ x an am aq ap b al au re pq rf (-3 : Int32) _) dX5_back_17 ⟨ml_X5_51, kV_X5_refuse⟩ ⟨Nat.le_of_ble_eq_true rfl, Nat.le_of_ble_eq_true rfl⟩ ⟨Nat.le_refl _, Nat.le_refl _⟩ rfl rfl 0 0 rfl rfl [0, 11, 1, 2, 3, 4, 5, 6, 7, 8, 9, 10] 12 rfl pmb_0_11_1_2_3_4_5_6_7_8_9_10 rfl rfl rfl (Nat.le_of_ble_eq_true rfl) rfl (fun (u : F1) => [gObj x an am aq ap al au re pq, gPar cI an nv3, gPas cQ ap b hhv2, gPar cI (b 0) (P 0), gPar cI (b 1) (P 1), gPar cI (b 2) (P 2), gPar cI (b 3) (P 3), gPar cI (b 4) (P 4), gPar cI (b 5) (P 5), gPar cI (b 6) (P 6), gPar cI (b 7) (P 7), gA cI re 7 u]) [0, 2, 3, 4, 5, 6, 7, 8, 9, 10, 11, 1] 12 (fun _ => rfl) pmb_0_2_3_4_5_6_7_8_9_10_11_1 (fun _ => rfl) hw (fun r5 u5 hw => ?_)
    obtain ⟨rfv6, rfl⟩ : ∃ z, z = u5 := ⟨_, rfl⟩
    exact hret 20 r5 (nv3, hhv2, rfv6) _ dX5_back_20 hw
set_option maxRecDepth 100000 in
theorem c_X5_back (l : Launch) (D : va_G) (cI cQ : ClassId) (x : Nat) (an : Nat → Nat) (am : Nat → Nat) (aq : Nat → Nat) (ap : Nat → Nat) (b : Nat → Nat → Nat) (al : Nat → Nat) (au : Nat → Nat) (re : Nat) (pq : Int32) (n : PT) (hh : HT) (P : (Nat → PT)) (rf : F1) (post : Int32 → PT × HT × F1 → Prop) (sz : Nat) : Met l yX5_back (wsY yX5_back cX5_back 1 (some .int)) (rmL 3 0 0 82) (xP D (tyL cI cQ) [.ref x] [gObj x an am aq ap al au re pq, gPar cI an n, gPas cQ ap b hh, gPar cI (b 0) (P 0), gPar cI (b 1) (P 1), gPar cI (b 2) (P 2), gPar cI (b 3) (P 3), gPar cI (b 4) (P 4), gPar cI (b 5) (P 5), gPar cI (b 6) (P 6), gPar cI (b 7) (P 7), gA cI re 7 rf] sz (p_X5_back n hh P rf post)) (xQi D (tyL cI cQ) post (fun (u : PT × HT × F1) => [gObj x an am aq ap al au re pq, gPar cI an u.1, gPas cQ ap b u.2.1, gPar cI (b 0) (P 0), gPar cI (b 1) (P 1), gPar cI (b 2) (P 2), gPar cI (b 3) (P 3), gPar cI (b 4) (P 4), gPar cI (b 5) (P 5), gPar cI (b 6) (P 6), gPar cI (b 7) (P 7), gA cI re 7 u.2.2]) (va_A [gObj x an am aq ap al au re pq, gPar cI an n, gPas cQ ap b hh, gPar cI (b 0) (P 0), gPar cI (b 1) (P 1), gPar cI (b 2) (P 2), gPar cI (b 3) (P 3), gPar cI (b 4) (P 4), gPar cI (b 5) (P 5), gPar cI (b 6) (P 6), gPar cI (b 7) (P 7), gA cI re 7 rf].flatten sz)) 0 0 (va_A [gObj x an am aq ap al au re pq, gPar cI an n, gPas cQ ap b hh, gPar cI (b 0) (P 0), gPar cI (b 1) (P 1), gPar cI (b 2) (P 2), gPar cI (b 3) (P 3), gPar cI (b 4) (P 4), gPar cI (b 5) (P 5), gPar cI (b 6) (P 6), gPar cI (b 7) (P 7), gA cI re 7 rf].flatten sz) :=
  Met_i pn_X5 (Nat.le_of_ble_eq_true rfl) (fun p e s mi below meth co A Q _ C hret hw => w_X5_back x an am aq ap b al au re pq n hh P rf C hret hw)
theorem kV_X5_back : Cond.instanceMethod yX5_back ∈ gTbl ∧ Cond.selects yX5_back.cls yX5_back yX5_back ∈ gTbl ∧ Cond.initialized yX5_back.cls ∈ gTbl ∧ Cond.code yX5_back cX5_back 1 (some .int) ∈ gTbl ∧ (yX5_back.cls ≠ "java/lang/invoke/MethodHandle" ∧ yX5_back.cls ≠ "java/lang/invoke/VarHandle" ∧ (parseMethodDescriptor yX5_back.desc).map (fun d => d.parameters.length) = some 0) := ⟨im_X5_back, sl_X5_back, in_X5, cd_X5_back, (by decide +kernel)⟩
set_option maxRecDepth 100000 in
def p_X5_holdsIn (n : PT) (m : PT) (rf : F1) (p1 : Int32) (p2 : Int32) (post : Int32 → PT × F1 → Prop) : Prop := p_X3_there n p1 (fun (r1 : Int32) => ((r1 = 0 → p_X5_refuse rf (-1 : Int32) (fun (r10 : Int32) (u10 : F1) => (fun (rfv11 : F1) => post r10 (m, rfv11)) u10)) ∧ (¬ r1 = 0 → p_X5_outside p2 (0 : Int32) (60 : Int32) (fun (r2 : Int32) => ((r2 = 0 → p_X5_think n m (fun (u3 : PT) => (fun (mv4 : PT) => p_X3_pass mv4 p2 (fun (u5 : PT) => (fun (mv6 : PT) => p_X3_holdsOf mv6 p1 (fun (r7 : Int32) => post r7 (mv6, rf))) u5)) u3)) ∧ (¬ r2 = 0 → p_X5_refuse rf r2 (fun (r8 : Int32) (u8 : F1) => (fun (rfv9 : F1) => post r8 (m, rfv9)) u8)))))))
set_option maxHeartbeats 4000000 in
set_option maxRecDepth 100000 in
theorem w_X5_holdsIn {p : Program} {l : Launch} {e : Env} {s : State} {mi : MethodId} {args : Array Value} {below : List Frame} {meth : Method} {co : Code} {D : va_G} {cI cQ : ClassId} {A : Nat → Prop} {Q : State → Prop} (x : Nat) (an : Nat → Nat) (am : Nat → Nat) (aq : Nat → Nat) (ap : Nat → Nat) (b : Nat → Nat → Nat) (al : Nat → Nat) (au : Nat → Nat) (re : Nat) (pq : Int32) (n : PT) (m : PT) (rf : F1) (p1 : Int32) (p2 : Int32) {post : Int32 → PT × F1 → Prop} (C : xC p s mi args co cX5_holdsIn RX5 4 D (tyL cI cQ) A) (hret : ∀ (pc : Nat) (r : Int32) (u : PT × F1) (lv : List (Nat × Value)), decode cX5_holdsIn pc = .ok (.ireturn, 1) → post r u → xG p l e (rmL 4 0 0 92) s mi args below meth co D A 4 Q 0 0 pc [.int r] [gObj x an am aq ap al au re pq, gPar cI an n, gPar cI am u.1, gA cI re 7 u.2] lv) (hw : p_X5_holdsIn n m rf p1 p2 post) : xG p l e (rmL 4 0 0 92) s mi args below meth co D A 4 Q 0 0 0 [] [gObj x an am aq ap al au re pq, gPar cI an n, gPar cI am m, gA cI re 7 rf] [(0, .ref x), (1, .int p1), (2, .int p2)] := by
  unfold p_X5_holdsIn at hw
  try dsimp only at hw
  show xG p l e (rmL 4 0 0 92) s mi args below meth co D A 4 Q 0 0 0 [] [gObj x an am aq ap al au re pq, gPar cI an n, gPar cI am m, gA cI re 7 rf] [(0, .ref x), (1, .int p1), (2, .int p2)]
  refine g_aload_n C dX5_holdsIn_0 0 rfl rfl ?_
  refine g_get (v := .ref (an 0)) (ci := 4) C dX5_holdsIn_1 inw_X5 rfl 0 0 0 rfl rfl (Nat.le_of_ble_eq_true rfl) rfl fl_X5_10 rfl rfl ?_
  refine g_iload_n C dX5_holdsIn_4 1 rfl rfl ?_
  refine g_callVi (As := [.int p1]) (gr := [gObj x an am aq ap al au re pq, gPar cI am m, gA cI re 7 rf]) C (c_X3_there l D cI cQ an n p1 _) dX5_holdsIn_5 ⟨ml_X5_72, kV_X3_there⟩ ⟨Nat.le_of_ble_eq_true rfl, Nat.le_of_ble_eq_true rfl⟩ ⟨Nat.le_refl _, Nat.le_refl _⟩ rfl rfl 0 0 rfl rfl [1, 0, 2, 3] 4 rfl pmb_1_0_2_3 rfl rfl rfl (Nat.le_of_ble_eq_true rfl) rfl (fun (u : Unit) => [gObj x an am aq ap al au re pq, gPar cI an n, gPar cI am m, gA cI re 7 rf]) [1, 0, 2, 3] 4 (fun _ => rfl) pmb_1_0_2_3 (fun _ => rfl) hw (fun r1 u1 hw => ?_)
  refine g_if_ne (tgt := 17) C dX5_holdsIn_8 (by decide) rfl hw (fun _ hw => ?_) (fun _ hw => ?_)
  · refine g_iload_n C dX5_holdsIn_17 2 rfl rfl ?_
    refine g_iconst (v := 0) C dX5_holdsIn_18 rfl rfl ?_
    refine g_bipush (v := 60) C dX5_holdsIn_19 (by decide) rfl ?_
    refine g_callSi (As := [.int p2, .int (0 : Int32), .int (60 : Int32)]) (gr := [gObj x an am aq ap al au re pq, gPar cI an n, gPar cI am m, gA cI re 7 rf]) C (c_X5_outside l D cI cQ   p2 (0 : Int32) (60 : Int32) _) dX5_holdsIn_21 ⟨ml_X5_47, kS_X5_outside⟩ ⟨Nat.le_of_ble_eq_true rfl, Nat.le_of_ble_eq_true rfl⟩ ⟨Nat.le_refl _, Nat.le_refl _⟩ [0, 1, 2, 3] 4 rfl pmb_0_1_2_3 rfl rfl rfl (Nat.le_of_ble_eq_true rfl) rfl (fun (u : Unit) => [gObj x an am aq ap al au re pq, gPar cI an n, gPar cI am m, gA cI re 7 rf]) [0, 1, 2, 3] 4 (fun _ => rfl) pmb_0_1_2_3 (fun _ => rfl) hw (fun r2 u2 hw => ?_)
    refine g_istore_n (v := r2) C dX5_holdsIn_24 rfl (Nat.le_of_ble_eq_true rfl) (lv' := [(3, .int r2), (0, .ref x), (1, .int p1), (2, .int p2)]) rfl rfl ?_
    refine g_iload_n C dX5_holdsIn_25 0 rfl rfl ?_
    refine g_if_eq (tgt := 35) C dX5_holdsIn_26 (by decide) rfl hw (fun _ hw => ?_) (fun _ hw => ?_)
    · refine g_aload_n C dX5_holdsIn_35 1 rfl rfl ?_
      refine g_callVv (As := []) (gr := [gA cI re 7 rf]) C (c_X5_think l D cI cQ x an am aq ap b al au re pq n m  _) dX5_holdsIn_36 ⟨ml_X5_137, kV_X5_think⟩ ⟨Nat.le_of_ble_eq_true rfl, Nat.le_of_ble_eq_true rfl⟩ ⟨Nat.le_refl _, Nat.le_refl _⟩ rfl rfl 0 0 rfl rfl [0, 1, 2, 3] 4 rfl pmb_0_1_2_3 rfl rfl rfl (Nat.le_of_ble_eq_true rfl) rfl (fun (u : PT) => [gObj x an am aq ap al au re pq, gPar cI an n, gPar cI am u, gA cI re 7 rf]) [0, 1, 2, 3] 4 (fun _ => rfl) pmb_0_1_2_3 (fun _ => rfl) hw (fun u3 hw => ?_)
      obtain ⟨mv4, rfl⟩ : ∃ z, z = u3 := ⟨_, rfl⟩
      refine g_aload_n C dX5_holdsIn_39 1 rfl rfl ?_
      refine g_get (v := .ref (am 0)) (ci := 4) C dX5_holdsIn_40 inw_X5 rfl 0 0 1 rfl rfl (Nat.le_of_ble_eq_true rfl) rfl fl_X5_16 rfl rfl ?_
      refine g_iload_n C dX5_holdsIn_43 3 rfl rfl ?_
      refine g_callVv (As := [.int p2]) (gr := [gObj x an am aq ap al au re pq, gPar cI an n, gA cI re 7 rf]) C (c_X3_pass l D cI cQ am mv4 p2 _) dX5_holdsIn_44 ⟨ml_X5_128, kV_X3_pass⟩ ⟨Nat.le_of_ble_eq_true rfl, Nat.le_of_ble_eq_true rfl⟩ ⟨Nat.le_refl _, Nat.le_refl _⟩ rfl rfl 0 0 rfl rfl [2, 0, 1, 3] 4 rfl pmb_2_0_1_3 rfl rfl rfl (Nat.le_of_ble_eq_true rfl) rfl (fun (u : PT) => [gObj x an am aq ap al au re pq, gPar cI an n, gPar cI am u, gA cI re 7 rf]) [1, 2, 0, 3] 4 (fun _ => rfl) pmb_1_2_0_3 (fun _ => rfl) hw (fun u5 hw => ?_)
      obtain ⟨mv6, rfl⟩ : ∃ z, z = u5 := ⟨_, rfl⟩
      refine g_aload_n C dX5_holdsIn_47 1 rfl rfl ?_
      refine g_get (v := .ref (am 0)) (ci := 4) C dX5_holdsIn_48 inw_X5 rfl 0 0 1 rfl rfl (Nat.le_of_ble_eq_true rfl) rfl fl_X5_16 rfl rfl ?_
      refine g_iload_n C dX5_holdsIn_51 2 rfl rfl ?_
      refine g_callVi (As := [.int p1]) (gr := [gObj x an am aq ap al au re pq, gPar cI an n, gA cI re 7 rf]) C (c_X3_holdsOf l D cI cQ am mv6 p1 _) dX5_holdsIn_52 ⟨ml_X5_81, kV_X3_holdsOf⟩ ⟨Nat.le_of_ble_eq_true rfl, Nat.le_of_ble_eq_true rfl⟩ ⟨Nat.le_refl _, Nat.le_refl _⟩ rfl rfl 0 0 rfl rfl [2, 0, 1, 3] 4 rfl pmb_2_0_1_3 rfl rfl rfl (Nat.le_of_ble_eq_true rfl) rfl (fun (u : Unit) => [gObj x an am aq ap al au re pq, gPar cI an n, gPar cI am mv6, gA cI re 7 rf]) [1, 2, 0, 3] 4 (fun _ => rfl) pmb_1_2_0_3 (fun _ => rfl) hw (fun r7 u7 hw => ?_)
      exact hret 55 r7 (mv6, rf) _ dX5_holdsIn_55 hw
    · refine g_aload_n C dX5_holdsIn_29 1 rfl rfl ?_
      refine g_iload_n C dX5_holdsIn_30 0 rfl rfl ?_
      refine g_callVi (As := [.int r2]) (gr := [gPar cI an n, gPar cI am m]) C (c_X5_refuse l D cI cQ x an am aq ap b al au re pq rf r2 _) dX5_holdsIn_31 ⟨ml_X5_51, kV_X5_refuse⟩ ⟨Nat.le_of_ble_eq_true rfl, Nat.le_of_ble_eq_true rfl⟩ ⟨Nat.le_refl _, Nat.le_refl _⟩ rfl rfl 0 0 rfl rfl [0, 3, 1, 2] 4 rfl pmb_0_3_1_2 rfl rfl rfl (Nat.le_of_ble_eq_true rfl) rfl (fun (u : F1) => [gObj x an am aq ap al au re pq, gPar cI an n, gPar cI am m, gA cI re 7 u]) [0, 2, 3, 1] 4 (fun _ => rfl) pmb_0_2_3_1 (fun _ => rfl) hw (fun r8 u8 hw => ?_)
      obtain ⟨rfv9, rfl⟩ : ∃ z, z = u8 := ⟨_, rfl⟩
      exact hret 34 r8 (m, rfv9) _ dX5_holdsIn_34 hw
  · refine g_aload_n C dX5_holdsIn_11 0 rfl rfl ?_
    refine g_iconst (v := -1) C dX5_holdsIn_12 (by decide) rfl ?_
    refine g_callVi (As := [.int (-1 : Int32)]) (gr := [gPar cI an n, gPar cI am m]) C (c_X5_refuse l D cI cQ x an am aq ap b al au re pq rf (-1 : Int32) _) dX5_holdsIn_13 ⟨ml_X5_51, kV_X5_refuse⟩ ⟨Nat.le_of_ble_eq_true rfl, Nat.le_of_ble_eq_true rfl⟩ ⟨Nat.le_refl _, Nat.le_refl _⟩ rfl rfl 0 0 rfl rfl [0, 3, 1, 2] 4 rfl pmb_0_3_1_2 rfl rfl rfl (Nat.le_of_ble_eq_true rfl) rfl (fun (u : F1) => [gObj x an am aq ap al au re pq, gPar cI an n, gPar cI am m, gA cI re 7 u]) [0, 2, 3, 1] 4 (fun _ => rfl) pmb_0_2_3_1 (fun _ => rfl) hw (fun r10 u10 hw => ?_)
    obtain ⟨rfv11, rfl⟩ : ∃ z, z = u10 := ⟨_, rfl⟩
    exact hret 16 r10 (m, rfv11) _ dX5_holdsIn_16 hw
set_option maxRecDepth 100000 in
theorem c_X5_holdsIn (l : Launch) (D : va_G) (cI cQ : ClassId) (x : Nat) (an : Nat → Nat) (am : Nat → Nat) (aq : Nat → Nat) (ap : Nat → Nat) (b : Nat → Nat → Nat) (al : Nat → Nat) (au : Nat → Nat) (re : Nat) (pq : Int32) (n : PT) (m : PT) (rf : F1) (p1 : Int32) (p2 : Int32) (post : Int32 → PT × F1 → Prop) (sz : Nat) : Met l yX5_holdsIn (wsY yX5_holdsIn cX5_holdsIn 4 (some .int)) (rmL 4 0 0 92) (xP D (tyL cI cQ) [.ref x, .int p1, .int p2] [gObj x an am aq ap al au re pq, gPar cI an n, gPar cI am m, gA cI re 7 rf] sz (p_X5_holdsIn n m rf p1 p2 post)) (xQi D (tyL cI cQ) post (fun (u : PT × F1) => [gObj x an am aq ap al au re pq, gPar cI an n, gPar cI am u.1, gA cI re 7 u.2]) (va_A [gObj x an am aq ap al au re pq, gPar cI an n, gPar cI am m, gA cI re 7 rf].flatten sz)) 0 0 (va_A [gObj x an am aq ap al au re pq, gPar cI an n, gPar cI am m, gA cI re 7 rf].flatten sz) :=
  Met_i pn_X5 (Nat.le_of_ble_eq_true rfl) (fun p e s mi below meth co A Q _ C hret hw => w_X5_holdsIn x an am aq ap b al au re pq n m rf p1 p2 C hret hw)
theorem kV_X5_holdsIn : Cond.instanceMethod yX5_holdsIn ∈ gTbl ∧ Cond.selects yX5_holdsIn.cls yX5_holdsIn yX5_holdsIn ∈ gTbl ∧ Cond.initialized yX5_holdsIn.cls ∈ gTbl ∧ Cond.code yX5_holdsIn cX5_holdsIn 4 (some .int) ∈ gTbl ∧ (yX5_holdsIn.cls ≠ "java/lang/invoke/MethodHandle" ∧ yX5_holdsIn.cls ≠ "java/lang/invoke/VarHandle" ∧ (parseMethodDescriptor yX5_holdsIn.desc).map (fun d => d.parameters.length) = some 2) := ⟨im_X5_holdsIn, sl_X5_holdsIn, in_X5, cd_X5_holdsIn, (by decide +kernel)⟩
set_option maxRecDepth 100000 in
def p_X5_then (n : PT) (m : PT) (rf : F1) (p1 : Int32) (p2 : Int32) (post : Int32 → PT × F1 → Prop) : Prop := p_X5_outside p1 (0 : Int32) (60 : Int32) (fun (r1 : Int32) => ((r1 = 0 → jn (fun (z2 : Unit) => p_X5_think n m (fun (u3 : PT) => (fun (mv4 : PT) => p_X3_pass mv4 p1 (fun (u5 : PT) => (fun (mv6 : PT) => ((p2 = 0 → p_X3_inCup mv6 (fun (r8 : Int32) => post r8 (mv6, rf))) ∧ (¬ p2 = 0 → p_X3_holdsInAll mv6 (fun (r7 : Int32) => post r7 (mv6, rf))))) u5)) u3)) (fun J2 => ((p2 = 0 → J2 ()) ∧ (¬ p2 = 0 → ((p2 = (1 : Int32) → J2 ()) ∧ (¬ p2 = (1 : Int32) → p_X5_refuse rf (-2 : Int32) (fun (r9 : Int32) (u9 : F1) => (fun (rfv10 : F1) => post r9 (m, rfv10)) u9))))))) ∧ (¬ r1 = 0 → p_X5_refuse rf r1 (fun (r11 : Int32) (u11 : F1) => (fun (rfv12 : F1) => post r11 (m, rfv12)) u11))))
set_option maxHeartbeats 4000000 in
set_option maxRecDepth 100000 in
theorem w_X5_then {p : Program} {l : Launch} {e : Env} {s : State} {mi : MethodId} {args : Array Value} {below : List Frame} {meth : Method} {co : Code} {D : va_G} {cI cQ : ClassId} {A : Nat → Prop} {Q : State → Prop} (x : Nat) (an : Nat → Nat) (am : Nat → Nat) (aq : Nat → Nat) (ap : Nat → Nat) (b : Nat → Nat → Nat) (al : Nat → Nat) (au : Nat → Nat) (re : Nat) (pq : Int32) (n : PT) (m : PT) (rf : F1) (p1 : Int32) (p2 : Int32) {post : Int32 → PT × F1 → Prop} (C : xC p s mi args co cX5_then RX5 4 D (tyL cI cQ) A) (hret : ∀ (pc : Nat) (r : Int32) (u : PT × F1) (lv : List (Nat × Value)), decode cX5_then pc = .ok (.ireturn, 1) → post r u → xG p l e (rmL 4 0 0 92) s mi args below meth co D A 4 Q 0 0 pc [.int r] [gObj x an am aq ap al au re pq, gPar cI an n, gPar cI am u.1, gA cI re 7 u.2] lv) (hw : p_X5_then n m rf p1 p2 post) : xG p l e (rmL 4 0 0 92) s mi args below meth co D A 4 Q 0 0 0 [] [gObj x an am aq ap al au re pq, gPar cI an n, gPar cI am m, gA cI re 7 rf] [(0, .ref x), (1, .int p1), (2, .int p2)] := by
  unfold p_X5_then at hw
  try dsimp only at hw
  show xG p l e (rmL 4 0 0 92) s mi args below meth co D A 4 Q 0 0 0 [] [gObj x an am aq ap al au re pq, gPar cI an n, gPar cI am m, gA cI re 7 rf] [(0, .ref x), (1, .int p1), (2, .int p2)]
  refine g_iload_n C dX5_then_0 1 rfl rfl ?_
  refine g_iconst (v := 0) C dX5_then_1 rfl rfl ?_
  refine g_bipush (v := 60) C dX5_then_2 (by decide) rfl ?_
  refine g_callSi (As := [.int p1, .int (0 : Int32), .int (60 : Int32)]) (gr := [gObj x an am aq ap al au re pq, gPar cI an n, gPar cI am m, gA cI re 7 rf]) C (c_X5_outside l D cI cQ   p1 (0 : Int32) (60 : Int32) _) dX5_then_4 ⟨ml_X5_47, kS_X5_outside⟩ ⟨Nat.le_of_ble_eq_true rfl, Nat.le_of_ble_eq_true rfl⟩ ⟨Nat.le_refl _, Nat.le_refl _⟩ [0, 1, 2, 3] 4 rfl pmb_0_1_2_3 rfl rfl rfl (Nat.le_of_ble_eq_true rfl) rfl (fun (u : Unit) => [gObj x an am aq ap al au re pq, gPar cI an n, gPar cI am m, gA cI re 7 rf]) [0, 1, 2, 3] 4 (fun _ => rfl) pmb_0_1_2_3 (fun _ => rfl) hw (fun r1 u1 hw => ?_)
  refine g_istore_n (v := r1) C dX5_then_7 rfl (Nat.le_of_ble_eq_true rfl) (lv' := [(3, .int r1), (0, .ref x), (1, .int p1), (2, .int p2)]) rfl rfl ?_
  refine g_iload_n C dX5_then_8 0 rfl rfl ?_
  refine g_if_eq (tgt := 18) C dX5_then_9 (by decide) rfl hw (fun _ hw => ?_) (fun _ hw => ?_)
  · refine g_iload_n C dX5_then_18 3 rfl rfl ?_
    refine jn_el hw (fun (z2 : Unit) => xG p l e (rmL 4 0 0 92) s mi args below meth co D A 4 Q 0 0 34 [] [gObj x an am aq ap al au re pq, gPar cI an n, gPar cI am m, gA cI re 7 rf] [(0, .ref x), (1, .int p1), (2, .int p2)]) ?_ ?_
    · rintro _ hw
      show xG p l e (rmL 4 0 0 92) s mi args below meth co D A 4 Q 0 0 34 [] [gObj x an am aq ap al au re pq, gPar cI an n, gPar cI am m, gA cI re 7 rf] [(0, .ref x), (1, .int p1), (2, .int p2)]
      refine g_aload_n C dX5_then_34 0 rfl rfl ?_
      refine g_callVv (As := []) (gr := [gA cI re 7 rf]) C (c_X5_think l D cI cQ x an am aq ap b al au re pq n m  _) dX5_then_35 ⟨ml_X5_137, kV_X5_think⟩ ⟨Nat.le_of_ble_eq_true rfl, Nat.le_of_ble_eq_true rfl⟩ ⟨Nat.le_refl _, Nat.le_refl _⟩ rfl rfl 0 0 rfl rfl [0, 1, 2, 3] 4 rfl pmb_0_1_2_3 rfl rfl rfl (Nat.le_of_ble_eq_true rfl) rfl (fun (u : PT) => [gObj x an am aq ap al au re pq, gPar cI an n, gPar cI am u, gA cI re 7 rf]) [0, 1, 2, 3] 4 (fun _ => rfl) pmb_0_1_2_3 (fun _ => rfl) hw (fun u3 hw => ?_)
      obtain ⟨mv4, rfl⟩ : ∃ z, z = u3 := ⟨_, rfl⟩
      refine g_aload_n C dX5_then_38 0 rfl rfl ?_
      refine g_get (v := .ref (am 0)) (ci := 4) C dX5_then_39 inw_X5 rfl 0 0 1 rfl rfl (Nat.le_of_ble_eq_true rfl) rfl fl_X5_16 rfl rfl ?_
      refine g_iload_n C dX5_then_42 1 rfl rfl ?_
      refine g_callVv (As := [.int p1]) (gr := [gObj x an am aq ap al au re pq, gPar cI an n, gA cI re 7 rf]) C (c_X3_pass l D cI cQ am mv4 p1 _) dX5_then_43 ⟨ml_X5_128, kV_X3_pass⟩ ⟨Nat.le_of_ble_eq_true rfl, Nat.le_of_ble_eq_true rfl⟩ ⟨Nat.le_refl _, Nat.le_refl _⟩ rfl rfl 0 0 rfl rfl [2, 0, 1, 3] 4 rfl pmb_2_0_1_3 rfl rfl rfl (Nat.le_of_ble_eq_true rfl) rfl (fun (u : PT) => [gObj x an am aq ap al au re pq, gPar cI an n, gPar cI am u, gA cI re 7 rf]) [1, 2, 0, 3] 4 (fun _ => rfl) pmb_1_2_0_3 (fun _ => rfl) hw (fun u5 hw => ?_)
      obtain ⟨mv6, rfl⟩ : ∃ z, z = u5 := ⟨_, rfl⟩
      refine g_iload_n C dX5_then_46 2 rfl rfl ?_
      refine g_if_ne (tgt := 60) C dX5_then_47 (by decide) rfl hw (fun _ hw => ?_) (fun _ hw => ?_)
      · refine g_aload_n C dX5_then_60 0 rfl rfl ?_
        refine g_get (v := .ref (am 0)) (ci := 4) C dX5_then_61 inw_X5 rfl 0 0 1 rfl rfl (Nat.le_of_ble_eq_true rfl) rfl fl_X5_16 rfl rfl ?_
        refine g_callVi (As := []) (gr := [gObj x an am aq ap al au re pq, gPar cI an n, gA cI re 7 rf]) C (c_X3_holdsInAll l D cI cQ am mv6  _) dX5_then_64 ⟨ml_X5_140, kV_X3_holdsInAll⟩ ⟨Nat.le_of_ble_eq_true rfl, Nat.le_of_ble_eq_true rfl⟩ ⟨Nat.le_refl _, Nat.le_refl _⟩ rfl rfl 0 0 rfl rfl [2, 0, 1, 3] 4 rfl pmb_2_0_1_3 rfl rfl rfl (Nat.le_of_ble_eq_true rfl) rfl (fun (u : Unit) => [gObj x an am aq ap al au re pq, gPar cI an n, gPar cI am mv6, gA cI re 7 rf]) [1, 2, 0, 3] 4 (fun _ => rfl) pmb_1_2_0_3 (fun _ => rfl) hw (fun r7 u7 hw => ?_)
        exact hret 67 r7 (mv6, rf) _ dX5_then_67 hw
      · refine g_aload_n C dX5_then_50 0 rfl rfl ?_
        refine g_get (v := .ref (am 0)) (ci := 4) C dX5_then_51 inw_X5 rfl 0 0 1 rfl rfl (Nat.le_of_ble_eq_true rfl) rfl fl_X5_16 rfl rfl ?_
        refine g_callVi (As := []) (gr := [gObj x an am aq ap al au re pq, gPar cI an n, gA cI re 7 rf]) C (c_X3_inCup l D cI cQ am mv6  _) dX5_then_54 ⟨ml_X5_119, kV_X3_inCup⟩ ⟨Nat.le_of_ble_eq_true rfl, Nat.le_of_ble_eq_true rfl⟩ ⟨Nat.le_refl _, Nat.le_refl _⟩ rfl rfl 0 0 rfl rfl [2, 0, 1, 3] 4 rfl pmb_2_0_1_3 rfl rfl rfl (Nat.le_of_ble_eq_true rfl) rfl (fun (u : Unit) => [gObj x an am aq ap al au re pq, gPar cI an n, gPar cI am mv6, gA cI re 7 rf]) [1, 2, 0, 3] 4 (fun _ => rfl) pmb_1_2_0_3 (fun _ => rfl) hw (fun r8 u8 hw => ?_)
        refine g_goto (pc' := 67) C dX5_then_57 (by decide) rfl ?_
        exact hret 67 r8 (mv6, rf) _ dX5_then_67 hw
    · intro J2 hJ2 hw
      refine g_if_eq (tgt := 34) C dX5_then_19 (by decide) rfl hw (fun _ hw => ?_) (fun _ hw => ?_)
      · refine g_lv [1, 2, 3] rfl ?_
        exact hJ2 () hw
      · refine g_iload_n C dX5_then_22 3 rfl rfl ?_
        refine g_iconst (v := 1) C dX5_then_23 rfl rfl ?_
        refine g_icmp_eq (tgt := 34) C dX5_then_24 (by decide) rfl hw (fun _ hw => ?_) (fun _ hw => ?_)
        · refine g_lv [1, 2, 3] rfl ?_
          exact hJ2 () hw
        · refine g_aload_n C dX5_then_27 1 rfl rfl ?_
          refine g_bipush (v := -2) C dX5_then_28 (by decide) rfl ?_
          refine g_callVi (As := [.int (-2 : Int32)]) (gr := [gPar cI an n, gPar cI am m]) C (c_X5_refuse l D cI cQ x an am aq ap b al au re pq rf (-2 : Int32) _) dX5_then_30 ⟨ml_X5_51, kV_X5_refuse⟩ ⟨Nat.le_of_ble_eq_true rfl, Nat.le_of_ble_eq_true rfl⟩ ⟨Nat.le_refl _, Nat.le_refl _⟩ rfl rfl 0 0 rfl rfl [0, 3, 1, 2] 4 rfl pmb_0_3_1_2 rfl rfl rfl (Nat.le_of_ble_eq_true rfl) rfl (fun (u : F1) => [gObj x an am aq ap al au re pq, gPar cI an n, gPar cI am m, gA cI re 7 u]) [0, 2, 3, 1] 4 (fun _ => rfl) pmb_0_2_3_1 (fun _ => rfl) hw (fun r9 u9 hw => ?_)
          obtain ⟨rfv10, rfl⟩ : ∃ z, z = u9 := ⟨_, rfl⟩
          exact hret 33 r9 (m, rfv10) _ dX5_then_33 hw
  · refine g_aload_n C dX5_then_12 1 rfl rfl ?_
    refine g_iload_n C dX5_then_13 0 rfl rfl ?_
    refine g_callVi (As := [.int r1]) (gr := [gPar cI an n, gPar cI am m]) C (c_X5_refuse l D cI cQ x an am aq ap b al au re pq rf r1 _) dX5_then_14 ⟨ml_X5_51, kV_X5_refuse⟩ ⟨Nat.le_of_ble_eq_true rfl, Nat.le_of_ble_eq_true rfl⟩ ⟨Nat.le_refl _, Nat.le_refl _⟩ rfl rfl 0 0 rfl rfl [0, 3, 1, 2] 4 rfl pmb_0_3_1_2 rfl rfl rfl (Nat.le_of_ble_eq_true rfl) rfl (fun (u : F1) => [gObj x an am aq ap al au re pq, gPar cI an n, gPar cI am m, gA cI re 7 u]) [0, 2, 3, 1] 4 (fun _ => rfl) pmb_0_2_3_1 (fun _ => rfl) hw (fun r11 u11 hw => ?_)
    obtain ⟨rfv12, rfl⟩ : ∃ z, z = u11 := ⟨_, rfl⟩
    exact hret 17 r11 (m, rfv12) _ dX5_then_17 hw
set_option maxRecDepth 100000 in
theorem c_X5_then (l : Launch) (D : va_G) (cI cQ : ClassId) (x : Nat) (an : Nat → Nat) (am : Nat → Nat) (aq : Nat → Nat) (ap : Nat → Nat) (b : Nat → Nat → Nat) (al : Nat → Nat) (au : Nat → Nat) (re : Nat) (pq : Int32) (n : PT) (m : PT) (rf : F1) (p1 : Int32) (p2 : Int32) (post : Int32 → PT × F1 → Prop) (sz : Nat) : Met l yX5_then (wsY yX5_then cX5_then 4 (some .int)) (rmL 4 0 0 92) (xP D (tyL cI cQ) [.ref x, .int p1, .int p2] [gObj x an am aq ap al au re pq, gPar cI an n, gPar cI am m, gA cI re 7 rf] sz (p_X5_then n m rf p1 p2 post)) (xQi D (tyL cI cQ) post (fun (u : PT × F1) => [gObj x an am aq ap al au re pq, gPar cI an n, gPar cI am u.1, gA cI re 7 u.2]) (va_A [gObj x an am aq ap al au re pq, gPar cI an n, gPar cI am m, gA cI re 7 rf].flatten sz)) 0 0 (va_A [gObj x an am aq ap al au re pq, gPar cI an n, gPar cI am m, gA cI re 7 rf].flatten sz) :=
  Met_i pn_X5 (Nat.le_of_ble_eq_true rfl) (fun p e s mi below meth co A Q _ C hret hw => w_X5_then x an am aq ap b al au re pq n m rf p1 p2 C hret hw)
theorem kV_X5_then : Cond.instanceMethod yX5_then ∈ gTbl ∧ Cond.selects yX5_then.cls yX5_then yX5_then ∈ gTbl ∧ Cond.initialized yX5_then.cls ∈ gTbl ∧ Cond.code yX5_then cX5_then 4 (some .int) ∈ gTbl ∧ (yX5_then.cls ≠ "java/lang/invoke/MethodHandle" ∧ yX5_then.cls ≠ "java/lang/invoke/VarHandle" ∧ (parseMethodDescriptor yX5_then.desc).map (fun d => d.parameters.length) = some 2) := ⟨im_X5_then, sl_X5_then, in_X5, cd_X5_then, (by decide +kernel)⟩
set_option maxRecDepth 100000 in
def p_X5_settledAfter (n : PT) (m : PT) (post : Int32 → PT → Prop) : Prop := p_X5_think n m (fun (u1 : PT) => (fun (mv2 : PT) => lpN (fun (K5 : (Int32 × PT) → Prop) (z5 : Int32 × PT) => (fun (x3 : Int32) (mv4 : PT) => (((50 : Int32) < x3 → post (-9 : Int32) mv4) ∧ (¬ (50 : Int32) < x3 → p_X3_flow mv4 (fun (r6 : Int32) (u6 : PT) => (fun (mv7 : PT) => ((r6 = 0 → post x3 mv7) ∧ (¬ r6 = 0 → K5 ((x3 + 1), mv7)))) u6)))) z5.1 z5.2) 1000 ((0 : Int32), mv2)) u1)
set_option maxHeartbeats 4000000 in
set_option maxRecDepth 100000 in
theorem w_X5_settledAfter {p : Program} {l : Launch} {e : Env} {s : State} {mi : MethodId} {args : Array Value} {below : List Frame} {meth : Method} {co : Code} {D : va_G} {cI cQ : ClassId} {A : Nat → Prop} {Q : State → Prop} (x : Nat) (an : Nat → Nat) (am : Nat → Nat) (aq : Nat → Nat) (ap : Nat → Nat) (b : Nat → Nat → Nat) (al : Nat → Nat) (au : Nat → Nat) (re : Nat) (pq : Int32) (n : PT) (m : PT) {post : Int32 → PT → Prop} (C : xC p s mi args co cX5_settledAfter RX5 2 D (tyL cI cQ) A) (hret : ∀ (pc : Nat) (r : Int32) (u : PT) (lv : List (Nat × Value)), decode cX5_settledAfter pc = .ok (.ireturn, 1) → post r u → xG p l e (rmL 3 0 0 81) s mi args below meth co D A 2 Q 0 0 pc [.int r] [gObj x an am aq ap al au re pq, gPar cI an n, gPar cI am u] lv) (hw : p_X5_settledAfter n m post) : xG p l e (rmL 3 0 0 81) s mi args below meth co D A 2 Q 0 0 0 [] [gObj x an am aq ap al au re pq, gPar cI an n, gPar cI am m] [(0, .ref x)] := by
  unfold p_X5_settledAfter at hw
  try dsimp only at hw
  show xG p l e (rmL 3 0 0 81) s mi args below meth co D A 2 Q 0 0 0 [] [gObj x an am aq ap al au re pq, gPar cI an n, gPar cI am m] [(0, .ref x)]
  refine g_aload_n C dX5_settledAfter_0 0 rfl rfl ?_
  refine g_callVv (As := []) (gr := []) C (c_X5_think l D cI cQ x an am aq ap b al au re pq n m  _) dX5_settledAfter_1 ⟨ml_X5_137, kV_X5_think⟩ ⟨Nat.le_of_ble_eq_true rfl, Nat.le_of_ble_eq_true rfl⟩ ⟨Nat.le_refl _, Nat.le_refl _⟩ rfl rfl 0 0 rfl rfl [0, 1, 2] 3 rfl pmb_0_1_2 rfl rfl rfl (Nat.le_of_ble_eq_true rfl) rfl (fun (u : PT) => [gObj x an am aq ap al au re pq, gPar cI an n, gPar cI am u]) [0, 1, 2] 3 (fun _ => rfl) pmb_0_1_2 (fun _ => rfl) hw (fun u1 hw => ?_)
  obtain ⟨mv2, rfl⟩ : ∃ z, z = u1 := ⟨_, rfl⟩
  refine g_iconst (v := 0) C dX5_settledAfter_4 rfl rfl ?_
  refine g_istore_n (v := (0 : Int32)) C dX5_settledAfter_5 rfl (Nat.le_of_ble_eq_true rfl) (lv' := [(1, .int (0 : Int32)), (0, .ref x)]) rfl rfl ?_
  refine g_lv [1, 0] rfl ?_
  refine lpN_ind (G := (fun (z5 : Int32 × PT) => (fun (x3 : Int32) (mv4 : PT) => xG p l e (rmL 3 0 0 81) s mi args below meth co D A 2 Q 0 0 6 [] [gObj x an am aq ap al au re pq, gPar cI an n, gPar cI am mv4] [(0, .ref x), (1, .int x3)]) z5.1 z5.2)) ?_ 1000 ((0 : Int32), mv2) hw
  rintro K5 ⟨x3, mv4⟩ ih5 hw
  show xG p l e (rmL 3 0 0 81) s mi args below meth co D A 2 Q 0 0 6 [] [gObj x an am aq ap al au re pq, gPar cI an n, gPar cI am mv4] [(0, .ref x), (1, .int x3)]
  refine g_iload_n C dX5_settledAfter_6 1 rfl rfl ?_
  refine g_bipush (v := 50) C dX5_settledAfter_7 (by decide) rfl ?_
  refine g_icmp_gt (tgt := 30) C dX5_settledAfter_9 (by decide) rfl hw (fun _ hw => ?_) (fun _ hw => ?_)
  · refine g_bipush (v := -9) C dX5_settledAfter_30 (by decide) rfl ?_
    exact hret 32 (-9 : Int32) mv4 _ dX5_settledAfter_32 hw
  · refine g_aload_n C dX5_settledAfter_12 0 rfl rfl ?_
    refine g_get (v := .ref (am 0)) (ci := 4) C dX5_settledAfter_13 inw_X5 rfl 0 0 1 rfl rfl (Nat.le_of_ble_eq_true rfl) rfl fl_X5_16 rfl rfl ?_
    refine g_callVi (As := []) (gr := [gObj x an am aq ap al au re pq, gPar cI an n]) C (c_X3_flow l D cI cQ am mv4  _) dX5_settledAfter_16 ⟨ml_X5_152, kV_X3_flow⟩ ⟨Nat.le_of_ble_eq_true rfl, Nat.le_of_ble_eq_true rfl⟩ ⟨Nat.le_refl _, Nat.le_refl _⟩ rfl rfl 0 0 rfl rfl [2, 0, 1] 3 rfl pmb_2_0_1 rfl rfl rfl (Nat.le_of_ble_eq_true rfl) rfl (fun (u : PT) => [gObj x an am aq ap al au re pq, gPar cI an n, gPar cI am u]) [1, 2, 0] 3 (fun _ => rfl) pmb_1_2_0 (fun _ => rfl) hw (fun r6 u6 hw => ?_)
    obtain ⟨mv7, rfl⟩ : ∃ z, z = u6 := ⟨_, rfl⟩
    refine g_if_ne (tgt := 24) C dX5_settledAfter_19 (by decide) rfl hw (fun _ hw => ?_) (fun _ hw => ?_)
    · refine g_iinc (v := (x3 + 1)) (j := 1) C dX5_settledAfter_24 rfl rfl (Nat.le_of_ble_eq_true rfl) (lv' := [(1, .int (x3 + 1)), (0, .ref x)]) rfl rfl ?_
      refine g_goto (pc' := 6) C dX5_settledAfter_27 (by decide) rfl ?_
      refine g_lv [1, 0] rfl ?_
      exact ih5 ((x3 + 1), mv7) hw
    · refine g_iload_n C dX5_settledAfter_22 1 rfl rfl ?_
      exact hret 23 x3 mv7 _ dX5_settledAfter_23 hw
set_option maxRecDepth 100000 in
theorem c_X5_settledAfter (l : Launch) (D : va_G) (cI cQ : ClassId) (x : Nat) (an : Nat → Nat) (am : Nat → Nat) (aq : Nat → Nat) (ap : Nat → Nat) (b : Nat → Nat → Nat) (al : Nat → Nat) (au : Nat → Nat) (re : Nat) (pq : Int32) (n : PT) (m : PT) (post : Int32 → PT → Prop) (sz : Nat) : Met l yX5_settledAfter (wsY yX5_settledAfter cX5_settledAfter 2 (some .int)) (rmL 3 0 0 81) (xP D (tyL cI cQ) [.ref x] [gObj x an am aq ap al au re pq, gPar cI an n, gPar cI am m] sz (p_X5_settledAfter n m post)) (xQi D (tyL cI cQ) post (fun (u : PT) => [gObj x an am aq ap al au re pq, gPar cI an n, gPar cI am u]) (va_A [gObj x an am aq ap al au re pq, gPar cI an n, gPar cI am m].flatten sz)) 0 0 (va_A [gObj x an am aq ap al au re pq, gPar cI an n, gPar cI am m].flatten sz) :=
  Met_i pn_X5 (Nat.le_of_ble_eq_true rfl) (fun p e s mi below meth co A Q _ C hret hw => w_X5_settledAfter x an am aq ap b al au re pq n m C hret hw)
theorem kV_X5_settledAfter : Cond.instanceMethod yX5_settledAfter ∈ gTbl ∧ Cond.selects yX5_settledAfter.cls yX5_settledAfter yX5_settledAfter ∈ gTbl ∧ Cond.initialized yX5_settledAfter.cls ∈ gTbl ∧ Cond.code yX5_settledAfter cX5_settledAfter 2 (some .int) ∈ gTbl ∧ (yX5_settledAfter.cls ≠ "java/lang/invoke/MethodHandle" ∧ yX5_settledAfter.cls ≠ "java/lang/invoke/VarHandle" ∧ (parseMethodDescriptor yX5_settledAfter.desc).map (fun d => d.parameters.length) = some 0) := ⟨im_X5_settledAfter, sl_X5_settledAfter, in_X5, cd_X5_settledAfter, (by decide +kernel)⟩
set_option maxRecDepth 100000 in
def p_X5_driedAfter (n : PT) (m : PT) (post : Int32 → PT → Prop) : Prop := p_X5_think n m (fun (u1 : PT) => (fun (mv2 : PT) => lpN (fun (K5 : (Int32 × PT) → Prop) (z5 : Int32 × PT) => (fun (x3 : Int32) (mv4 : PT) => (((60 : Int32) < x3 → post (-9 : Int32) mv4) ∧ (¬ (60 : Int32) < x3 → p_X3_holdsInAll mv4 (fun (r6 : Int32) => ((r6 = 0 → post x3 mv4) ∧ (¬ r6 = 0 → p_X3_flow mv4 (fun (r7 : Int32) (u7 : PT) => (fun (mv8 : PT) => K5 ((x3 + 1), mv8)) u7))))))) z5.1 z5.2) 1000 ((0 : Int32), mv2)) u1)
set_option maxHeartbeats 4000000 in
set_option maxRecDepth 100000 in
theorem w_X5_driedAfter {p : Program} {l : Launch} {e : Env} {s : State} {mi : MethodId} {args : Array Value} {below : List Frame} {meth : Method} {co : Code} {D : va_G} {cI cQ : ClassId} {A : Nat → Prop} {Q : State → Prop} (x : Nat) (an : Nat → Nat) (am : Nat → Nat) (aq : Nat → Nat) (ap : Nat → Nat) (b : Nat → Nat → Nat) (al : Nat → Nat) (au : Nat → Nat) (re : Nat) (pq : Int32) (n : PT) (m : PT) {post : Int32 → PT → Prop} (C : xC p s mi args co cX5_driedAfter RX5 2 D (tyL cI cQ) A) (hret : ∀ (pc : Nat) (r : Int32) (u : PT) (lv : List (Nat × Value)), decode cX5_driedAfter pc = .ok (.ireturn, 1) → post r u → xG p l e (rmL 3 0 0 81) s mi args below meth co D A 2 Q 0 0 pc [.int r] [gObj x an am aq ap al au re pq, gPar cI an n, gPar cI am u] lv) (hw : p_X5_driedAfter n m post) : xG p l e (rmL 3 0 0 81) s mi args below meth co D A 2 Q 0 0 0 [] [gObj x an am aq ap al au re pq, gPar cI an n, gPar cI am m] [(0, .ref x)] := by
  unfold p_X5_driedAfter at hw
  try dsimp only at hw
  show xG p l e (rmL 3 0 0 81) s mi args below meth co D A 2 Q 0 0 0 [] [gObj x an am aq ap al au re pq, gPar cI an n, gPar cI am m] [(0, .ref x)]
  refine g_aload_n C dX5_driedAfter_0 0 rfl rfl ?_
  refine g_callVv (As := []) (gr := []) C (c_X5_think l D cI cQ x an am aq ap b al au re pq n m  _) dX5_driedAfter_1 ⟨ml_X5_137, kV_X5_think⟩ ⟨Nat.le_of_ble_eq_true rfl, Nat.le_of_ble_eq_true rfl⟩ ⟨Nat.le_refl _, Nat.le_refl _⟩ rfl rfl 0 0 rfl rfl [0, 1, 2] 3 rfl pmb_0_1_2 rfl rfl rfl (Nat.le_of_ble_eq_true rfl) rfl (fun (u : PT) => [gObj x an am aq ap al au re pq, gPar cI an n, gPar cI am u]) [0, 1, 2] 3 (fun _ => rfl) pmb_0_1_2 (fun _ => rfl) hw (fun u1 hw => ?_)
  obtain ⟨mv2, rfl⟩ : ∃ z, z = u1 := ⟨_, rfl⟩
  refine g_iconst (v := 0) C dX5_driedAfter_4 rfl rfl ?_
  refine g_istore_n (v := (0 : Int32)) C dX5_driedAfter_5 rfl (Nat.le_of_ble_eq_true rfl) (lv' := [(1, .int (0 : Int32)), (0, .ref x)]) rfl rfl ?_
  refine g_lv [1, 0] rfl ?_
  refine lpN_ind (G := (fun (z5 : Int32 × PT) => (fun (x3 : Int32) (mv4 : PT) => xG p l e (rmL 3 0 0 81) s mi args below meth co D A 2 Q 0 0 6 [] [gObj x an am aq ap al au re pq, gPar cI an n, gPar cI am mv4] [(0, .ref x), (1, .int x3)]) z5.1 z5.2)) ?_ 1000 ((0 : Int32), mv2) hw
  rintro K5 ⟨x3, mv4⟩ ih5 hw
  show xG p l e (rmL 3 0 0 81) s mi args below meth co D A 2 Q 0 0 6 [] [gObj x an am aq ap al au re pq, gPar cI an n, gPar cI am mv4] [(0, .ref x), (1, .int x3)]
  refine g_iload_n C dX5_driedAfter_6 1 rfl rfl ?_
  refine g_bipush (v := 60) C dX5_driedAfter_7 (by decide) rfl ?_
  refine g_icmp_gt (tgt := 38) C dX5_driedAfter_9 (by decide) rfl hw (fun _ hw => ?_) (fun _ hw => ?_)
  · refine g_bipush (v := -9) C dX5_driedAfter_38 (by decide) rfl ?_
    exact hret 40 (-9 : Int32) mv4 _ dX5_driedAfter_40 hw
  · refine g_aload_n C dX5_driedAfter_12 0 rfl rfl ?_
    refine g_get (v := .ref (am 0)) (ci := 4) C dX5_driedAfter_13 inw_X5 rfl 0 0 1 rfl rfl (Nat.le_of_ble_eq_true rfl) rfl fl_X5_16 rfl rfl ?_
    refine g_callVi (As := []) (gr := [gObj x an am aq ap al au re pq, gPar cI an n]) C (c_X3_holdsInAll l D cI cQ am mv4  _) dX5_driedAfter_16 ⟨ml_X5_140, kV_X3_holdsInAll⟩ ⟨Nat.le_of_ble_eq_true rfl, Nat.le_of_ble_eq_true rfl⟩ ⟨Nat.le_refl _, Nat.le_refl _⟩ rfl rfl 0 0 rfl rfl [2, 0, 1] 3 rfl pmb_2_0_1 rfl rfl rfl (Nat.le_of_ble_eq_true rfl) rfl (fun (u : Unit) => [gObj x an am aq ap al au re pq, gPar cI an n, gPar cI am mv4]) [1, 2, 0] 3 (fun _ => rfl) pmb_1_2_0 (fun _ => rfl) hw (fun r6 u6 hw => ?_)
    refine g_if_ne (tgt := 24) C dX5_driedAfter_19 (by decide) rfl hw (fun _ hw => ?_) (fun _ hw => ?_)
    · refine g_aload_n C dX5_driedAfter_24 0 rfl rfl ?_
      refine g_get (v := .ref (am 0)) (ci := 4) C dX5_driedAfter_25 inw_X5 rfl 0 0 1 rfl rfl (Nat.le_of_ble_eq_true rfl) rfl fl_X5_16 rfl rfl ?_
      refine g_callVi (As := []) (gr := [gObj x an am aq ap al au re pq, gPar cI an n]) C (c_X3_flow l D cI cQ am mv4  _) dX5_driedAfter_28 ⟨ml_X5_152, kV_X3_flow⟩ ⟨Nat.le_of_ble_eq_true rfl, Nat.le_of_ble_eq_true rfl⟩ ⟨Nat.le_refl _, Nat.le_refl _⟩ rfl rfl 0 0 rfl rfl [2, 0, 1] 3 rfl pmb_2_0_1 rfl rfl rfl (Nat.le_of_ble_eq_true rfl) rfl (fun (u : PT) => [gObj x an am aq ap al au re pq, gPar cI an n, gPar cI am u]) [1, 2, 0] 3 (fun _ => rfl) pmb_1_2_0 (fun _ => rfl) hw (fun r7 u7 hw => ?_)
      obtain ⟨mv8, rfl⟩ : ∃ z, z = u7 := ⟨_, rfl⟩
      refine g_pop C dX5_driedAfter_31 rfl rfl ?_
      refine g_iinc (v := (x3 + 1)) (j := 1) C dX5_driedAfter_32 rfl rfl (Nat.le_of_ble_eq_true rfl) (lv' := [(1, .int (x3 + 1)), (0, .ref x)]) rfl rfl ?_
      refine g_goto (pc' := 6) C dX5_driedAfter_35 (by decide) rfl ?_
      refine g_lv [1, 0] rfl ?_
      exact ih5 ((x3 + 1), mv8) hw
    · refine g_iload_n C dX5_driedAfter_22 1 rfl rfl ?_
      exact hret 23 x3 mv4 _ dX5_driedAfter_23 hw
set_option maxRecDepth 100000 in
theorem c_X5_driedAfter (l : Launch) (D : va_G) (cI cQ : ClassId) (x : Nat) (an : Nat → Nat) (am : Nat → Nat) (aq : Nat → Nat) (ap : Nat → Nat) (b : Nat → Nat → Nat) (al : Nat → Nat) (au : Nat → Nat) (re : Nat) (pq : Int32) (n : PT) (m : PT) (post : Int32 → PT → Prop) (sz : Nat) : Met l yX5_driedAfter (wsY yX5_driedAfter cX5_driedAfter 2 (some .int)) (rmL 3 0 0 81) (xP D (tyL cI cQ) [.ref x] [gObj x an am aq ap al au re pq, gPar cI an n, gPar cI am m] sz (p_X5_driedAfter n m post)) (xQi D (tyL cI cQ) post (fun (u : PT) => [gObj x an am aq ap al au re pq, gPar cI an n, gPar cI am u]) (va_A [gObj x an am aq ap al au re pq, gPar cI an n, gPar cI am m].flatten sz)) 0 0 (va_A [gObj x an am aq ap al au re pq, gPar cI an n, gPar cI am m].flatten sz) :=
  Met_i pn_X5 (Nat.le_of_ble_eq_true rfl) (fun p e s mi below meth co A Q _ C hret hw => w_X5_driedAfter x an am aq ap b al au re pq n m C hret hw)
theorem kV_X5_driedAfter : Cond.instanceMethod yX5_driedAfter ∈ gTbl ∧ Cond.selects yX5_driedAfter.cls yX5_driedAfter yX5_driedAfter ∈ gTbl ∧ Cond.initialized yX5_driedAfter.cls ∈ gTbl ∧ Cond.code yX5_driedAfter cX5_driedAfter 2 (some .int) ∈ gTbl ∧ (yX5_driedAfter.cls ≠ "java/lang/invoke/MethodHandle" ∧ yX5_driedAfter.cls ≠ "java/lang/invoke/VarHandle" ∧ (parseMethodDescriptor yX5_driedAfter.desc).map (fun d => d.parameters.length) = some 0) := ⟨im_X5_driedAfter, sl_X5_driedAfter, in_X5, cd_X5_driedAfter, (by decide +kernel)⟩
set_option maxRecDepth 100000 in
def p_X5_firstDrip (n : PT) (m : PT) (post : Int32 → PT → Prop) : Prop := p_X5_think n m (fun (u1 : PT) => (fun (mv2 : PT) => lpN (fun (K5 : (Int32 × PT) → Prop) (z5 : Int32 × PT) => (fun (x3 : Int32) (mv4 : PT) => (((60 : Int32) < x3 → post (-9 : Int32) mv4) ∧ (¬ (60 : Int32) < x3 → p_X3_inCup mv4 (fun (r6 : Int32) => p_X3_inCup n (fun (r7 : Int32) => ((r6 ≤ r7 → p_X3_flow mv4 (fun (r8 : Int32) (u8 : PT) => (fun (mv9 : PT) => K5 ((x3 + 1), mv9)) u8)) ∧ (¬ r6 ≤ r7 → post x3 mv4))))))) z5.1 z5.2) 1000 ((0 : Int32), mv2)) u1)
set_option maxHeartbeats 4000000 in
set_option maxRecDepth 100000 in
theorem w_X5_firstDrip {p : Program} {l : Launch} {e : Env} {s : State} {mi : MethodId} {args : Array Value} {below : List Frame} {meth : Method} {co : Code} {D : va_G} {cI cQ : ClassId} {A : Nat → Prop} {Q : State → Prop} (x : Nat) (an : Nat → Nat) (am : Nat → Nat) (aq : Nat → Nat) (ap : Nat → Nat) (b : Nat → Nat → Nat) (al : Nat → Nat) (au : Nat → Nat) (re : Nat) (pq : Int32) (n : PT) (m : PT) {post : Int32 → PT → Prop} (C : xC p s mi args co cX5_firstDrip RX5 2 D (tyL cI cQ) A) (hret : ∀ (pc : Nat) (r : Int32) (u : PT) (lv : List (Nat × Value)), decode cX5_firstDrip pc = .ok (.ireturn, 1) → post r u → xG p l e (rmL 3 0 0 81) s mi args below meth co D A 2 Q 0 0 pc [.int r] [gObj x an am aq ap al au re pq, gPar cI an n, gPar cI am u] lv) (hw : p_X5_firstDrip n m post) : xG p l e (rmL 3 0 0 81) s mi args below meth co D A 2 Q 0 0 0 [] [gObj x an am aq ap al au re pq, gPar cI an n, gPar cI am m] [(0, .ref x)] := by
  unfold p_X5_firstDrip at hw
  try dsimp only at hw
  show xG p l e (rmL 3 0 0 81) s mi args below meth co D A 2 Q 0 0 0 [] [gObj x an am aq ap al au re pq, gPar cI an n, gPar cI am m] [(0, .ref x)]
  refine g_aload_n C dX5_firstDrip_0 0 rfl rfl ?_
  refine g_callVv (As := []) (gr := []) C (c_X5_think l D cI cQ x an am aq ap b al au re pq n m  _) dX5_firstDrip_1 ⟨ml_X5_137, kV_X5_think⟩ ⟨Nat.le_of_ble_eq_true rfl, Nat.le_of_ble_eq_true rfl⟩ ⟨Nat.le_refl _, Nat.le_refl _⟩ rfl rfl 0 0 rfl rfl [0, 1, 2] 3 rfl pmb_0_1_2 rfl rfl rfl (Nat.le_of_ble_eq_true rfl) rfl (fun (u : PT) => [gObj x an am aq ap al au re pq, gPar cI an n, gPar cI am u]) [0, 1, 2] 3 (fun _ => rfl) pmb_0_1_2 (fun _ => rfl) hw (fun u1 hw => ?_)
  obtain ⟨mv2, rfl⟩ : ∃ z, z = u1 := ⟨_, rfl⟩
  refine g_iconst (v := 0) C dX5_firstDrip_4 rfl rfl ?_
  refine g_istore_n (v := (0 : Int32)) C dX5_firstDrip_5 rfl (Nat.le_of_ble_eq_true rfl) (lv' := [(1, .int (0 : Int32)), (0, .ref x)]) rfl rfl ?_
  refine g_lv [1, 0] rfl ?_
  refine lpN_ind (G := (fun (z5 : Int32 × PT) => (fun (x3 : Int32) (mv4 : PT) => xG p l e (rmL 3 0 0 81) s mi args below meth co D A 2 Q 0 0 6 [] [gObj x an am aq ap al au re pq, gPar cI an n, gPar cI am mv4] [(0, .ref x), (1, .int x3)]) z5.1 z5.2)) ?_ 1000 ((0 : Int32), mv2) hw
  rintro K5 ⟨x3, mv4⟩ ih5 hw
  show xG p l e (rmL 3 0 0 81) s mi args below meth co D A 2 Q 0 0 6 [] [gObj x an am aq ap al au re pq, gPar cI an n, gPar cI am mv4] [(0, .ref x), (1, .int x3)]
  refine g_iload_n C dX5_firstDrip_6 1 rfl rfl ?_
  refine g_bipush (v := 60) C dX5_firstDrip_7 (by decide) rfl ?_
  refine g_icmp_gt (tgt := 45) C dX5_firstDrip_9 (by decide) rfl hw (fun _ hw => ?_) (fun _ hw => ?_)
  · refine g_bipush (v := -9) C dX5_firstDrip_45 (by decide) rfl ?_
    exact hret 47 (-9 : Int32) mv4 _ dX5_firstDrip_47 hw
  · refine g_aload_n C dX5_firstDrip_12 0 rfl rfl ?_
    refine g_get (v := .ref (am 0)) (ci := 4) C dX5_firstDrip_13 inw_X5 rfl 0 0 1 rfl rfl (Nat.le_of_ble_eq_true rfl) rfl fl_X5_16 rfl rfl ?_
    refine g_callVi (As := []) (gr := [gObj x an am aq ap al au re pq, gPar cI an n]) C (c_X3_inCup l D cI cQ am mv4  _) dX5_firstDrip_16 ⟨ml_X5_119, kV_X3_inCup⟩ ⟨Nat.le_of_ble_eq_true rfl, Nat.le_of_ble_eq_true rfl⟩ ⟨Nat.le_refl _, Nat.le_refl _⟩ rfl rfl 0 0 rfl rfl [2, 0, 1] 3 rfl pmb_2_0_1 rfl rfl rfl (Nat.le_of_ble_eq_true rfl) rfl (fun (u : Unit) => [gObj x an am aq ap al au re pq, gPar cI an n, gPar cI am mv4]) [1, 2, 0] 3 (fun _ => rfl) pmb_1_2_0 (fun _ => rfl) hw (fun r6 u6 hw => ?_)
    refine g_aload_n C dX5_firstDrip_19 0 rfl rfl ?_
    refine g_get (v := .ref (an 0)) (ci := 4) C dX5_firstDrip_20 inw_X5 rfl 0 0 0 rfl rfl (Nat.le_of_ble_eq_true rfl) rfl fl_X5_10 rfl rfl ?_
    refine g_callVi (As := []) (gr := [gObj x an am aq ap al au re pq, gPar cI am mv4]) C (c_X3_inCup l D cI cQ an n  _) dX5_firstDrip_23 ⟨ml_X5_119, kV_X3_inCup⟩ ⟨Nat.le_of_ble_eq_true rfl, Nat.le_of_ble_eq_true rfl⟩ ⟨Nat.le_refl _, Nat.le_refl _⟩ rfl rfl 0 0 rfl rfl [1, 0, 2] 3 rfl pmb_1_0_2 rfl rfl rfl (Nat.le_of_ble_eq_true rfl) rfl (fun (u : Unit) => [gObj x an am aq ap al au re pq, gPar cI an n, gPar cI am mv4]) [1, 0, 2] 3 (fun _ => rfl) pmb_1_0_2 (fun _ => rfl) hw (fun r7 u7 hw => ?_)
    refine g_icmp_le (tgt := 31) C dX5_firstDrip_26 (by decide) rfl hw (fun _ hw => ?_) (fun _ hw => ?_)
    · refine g_aload_n C dX5_firstDrip_31 0 rfl rfl ?_
      refine g_get (v := .ref (am 0)) (ci := 4) C dX5_firstDrip_32 inw_X5 rfl 0 0 1 rfl rfl (Nat.le_of_ble_eq_true rfl) rfl fl_X5_16 rfl rfl ?_
      refine g_callVi (As := []) (gr := [gObj x an am aq ap al au re pq, gPar cI an n]) C (c_X3_flow l D cI cQ am mv4  _) dX5_firstDrip_35 ⟨ml_X5_152, kV_X3_flow⟩ ⟨Nat.le_of_ble_eq_true rfl, Nat.le_of_ble_eq_true rfl⟩ ⟨Nat.le_refl _, Nat.le_refl _⟩ rfl rfl 0 0 rfl rfl [2, 0, 1] 3 rfl pmb_2_0_1 rfl rfl rfl (Nat.le_of_ble_eq_true rfl) rfl (fun (u : PT) => [gObj x an am aq ap al au re pq, gPar cI an n, gPar cI am u]) [1, 2, 0] 3 (fun _ => rfl) pmb_1_2_0 (fun _ => rfl) hw (fun r8 u8 hw => ?_)
      obtain ⟨mv9, rfl⟩ : ∃ z, z = u8 := ⟨_, rfl⟩
      refine g_pop C dX5_firstDrip_38 rfl rfl ?_
      refine g_iinc (v := (x3 + 1)) (j := 1) C dX5_firstDrip_39 rfl rfl (Nat.le_of_ble_eq_true rfl) (lv' := [(1, .int (x3 + 1)), (0, .ref x)]) rfl rfl ?_
      refine g_goto (pc' := 6) C dX5_firstDrip_42 (by decide) rfl ?_
      refine g_lv [1, 0] rfl ?_
      exact ih5 ((x3 + 1), mv9) hw
    · refine g_iload_n C dX5_firstDrip_29 1 rfl rfl ?_
      exact hret 30 x3 mv4 _ dX5_firstDrip_30 hw
set_option maxRecDepth 100000 in
theorem c_X5_firstDrip (l : Launch) (D : va_G) (cI cQ : ClassId) (x : Nat) (an : Nat → Nat) (am : Nat → Nat) (aq : Nat → Nat) (ap : Nat → Nat) (b : Nat → Nat → Nat) (al : Nat → Nat) (au : Nat → Nat) (re : Nat) (pq : Int32) (n : PT) (m : PT) (post : Int32 → PT → Prop) (sz : Nat) : Met l yX5_firstDrip (wsY yX5_firstDrip cX5_firstDrip 2 (some .int)) (rmL 3 0 0 81) (xP D (tyL cI cQ) [.ref x] [gObj x an am aq ap al au re pq, gPar cI an n, gPar cI am m] sz (p_X5_firstDrip n m post)) (xQi D (tyL cI cQ) post (fun (u : PT) => [gObj x an am aq ap al au re pq, gPar cI an n, gPar cI am u]) (va_A [gObj x an am aq ap al au re pq, gPar cI an n, gPar cI am m].flatten sz)) 0 0 (va_A [gObj x an am aq ap al au re pq, gPar cI an n, gPar cI am m].flatten sz) :=
  Met_i pn_X5 (Nat.le_of_ble_eq_true rfl) (fun p e s mi below meth co A Q _ C hret hw => w_X5_firstDrip x an am aq ap b al au re pq n m C hret hw)
theorem kV_X5_firstDrip : Cond.instanceMethod yX5_firstDrip ∈ gTbl ∧ Cond.selects yX5_firstDrip.cls yX5_firstDrip yX5_firstDrip ∈ gTbl ∧ Cond.initialized yX5_firstDrip.cls ∈ gTbl ∧ Cond.code yX5_firstDrip cX5_firstDrip 2 (some .int) ∈ gTbl ∧ (yX5_firstDrip.cls ≠ "java/lang/invoke/MethodHandle" ∧ yX5_firstDrip.cls ≠ "java/lang/invoke/VarHandle" ∧ (parseMethodDescriptor yX5_firstDrip.desc).map (fun d => d.parameters.length) = some 0) := ⟨im_X5_firstDrip, sl_X5_firstDrip, in_X5, cd_X5_firstDrip, (by decide +kernel)⟩
set_option maxRecDepth 100000 in
def p_X5_drip (n : PT) (m : PT) (rf : F1) (p1 : Int32) (post : Int32 → PT × F1 → Prop) : Prop := ((p1 = 0 → p_X5_firstDrip n m (fun (r1 : Int32) (u1 : PT) => (fun (mv2 : PT) => post r1 (mv2, rf)) u1)) ∧ (¬ p1 = 0 → ((p1 = 1 → p_X5_driedAfter n m (fun (r3 : Int32) (u3 : PT) => (fun (mv4 : PT) => post r3 (mv4, rf)) u3)) ∧ (¬ p1 = 1 → ((p1 = 2 → p_X5_settledAfter n m (fun (r5 : Int32) (u5 : PT) => (fun (mv6 : PT) => post r5 (mv6, rf)) u5)) ∧ (¬ p1 = 2 → p_X5_refuse rf (-2 : Int32) (fun (r7 : Int32) (u7 : F1) => (fun (rfv8 : F1) => post r7 (m, rfv8)) u7)))))))
set_option maxHeartbeats 4000000 in
set_option maxRecDepth 100000 in
theorem w_X5_drip {p : Program} {l : Launch} {e : Env} {s : State} {mi : MethodId} {args : Array Value} {below : List Frame} {meth : Method} {co : Code} {D : va_G} {cI cQ : ClassId} {A : Nat → Prop} {Q : State → Prop} (x : Nat) (an : Nat → Nat) (am : Nat → Nat) (aq : Nat → Nat) (ap : Nat → Nat) (b : Nat → Nat → Nat) (al : Nat → Nat) (au : Nat → Nat) (re : Nat) (pq : Int32) (n : PT) (m : PT) (rf : F1) (p1 : Int32) {post : Int32 → PT × F1 → Prop} (C : xC p s mi args co cX5_drip RX5 2 D (tyL cI cQ) A) (hret : ∀ (pc : Nat) (r : Int32) (u : PT × F1) (lv : List (Nat × Value)), decode cX5_drip pc = .ok (.ireturn, 1) → post r u → xG p l e (rmL 4 0 0 102) s mi args below meth co D A 2 Q 0 0 pc [.int r] [gObj x an am aq ap al au re pq, gPar cI an n, gPar cI am u.1, gA cI re 7 u.2] lv) (hw : p_X5_drip n m rf p1 post) : xG p l e (rmL 4 0 0 102) s mi args below meth co D A 2 Q 0 0 0 [] [gObj x an am aq ap al au re pq, gPar cI an n, gPar cI am m, gA cI re 7 rf] [(0, .ref x), (1, .int p1)] := by
  unfold p_X5_drip at hw
  try dsimp only at hw
  show xG p l e (rmL 4 0 0 102) s mi args below meth co D A 2 Q 0 0 0 [] [gObj x an am aq ap al au re pq, gPar cI an n, gPar cI am m, gA cI re 7 rf] [(0, .ref x), (1, .int p1)]
  refine g_iload_n C dX5_drip_0 1 rfl rfl ?_
  rcases Classical.em (p1 = 0) with hs1_0 | hs1_0
  · replace hw := hw.1 hs1_0
    refine g_tswIn (pc' := 28) C dX5_drip_1 0 hs1_0 (by decide) (by decide) rfl (by decide) ?_
    refine g_aload_n C dX5_drip_28 0 rfl rfl ?_
    refine g_callVi (As := []) (gr := [gA cI re 7 rf]) C (c_X5_firstDrip l D cI cQ x an am aq ap b al au re pq n m  _) dX5_drip_29 ⟨ml_X5_143, kV_X5_firstDrip⟩ ⟨Nat.le_of_ble_eq_true rfl, Nat.le_of_ble_eq_true rfl⟩ ⟨Nat.le_refl _, Nat.le_refl _⟩ rfl rfl 0 0 rfl rfl [0, 1, 2, 3] 4 rfl pmb_0_1_2_3 rfl rfl rfl (Nat.le_of_ble_eq_true rfl) rfl (fun (u : PT) => [gObj x an am aq ap al au re pq, gPar cI an n, gPar cI am u, gA cI re 7 rf]) [0, 1, 2, 3] 4 (fun _ => rfl) pmb_0_1_2_3 (fun _ => rfl) hw (fun r1 u1 hw => ?_)
    obtain ⟨mv2, rfl⟩ : ∃ z, z = u1 := ⟨_, rfl⟩
    exact hret 32 r1 (mv2, rf) _ dX5_drip_32 hw
  · replace hw := hw.2 hs1_0
    rcases Classical.em (p1 = 1) with hs1_1 | hs1_1
    · replace hw := hw.1 hs1_1
      refine g_tswIn (pc' := 33) C dX5_drip_1 1 hs1_1 (by decide) (by decide) rfl (by decide) ?_
      refine g_aload_n C dX5_drip_33 0 rfl rfl ?_
      refine g_callVi (As := []) (gr := [gA cI re 7 rf]) C (c_X5_driedAfter l D cI cQ x an am aq ap b al au re pq n m  _) dX5_drip_34 ⟨ml_X5_146, kV_X5_driedAfter⟩ ⟨Nat.le_of_ble_eq_true rfl, Nat.le_of_ble_eq_true rfl⟩ ⟨Nat.le_refl _, Nat.le_refl _⟩ rfl rfl 0 0 rfl rfl [0, 1, 2, 3] 4 rfl pmb_0_1_2_3 rfl rfl rfl (Nat.le_of_ble_eq_true rfl) rfl (fun (u : PT) => [gObj x an am aq ap al au re pq, gPar cI an n, gPar cI am u, gA cI re 7 rf]) [0, 1, 2, 3] 4 (fun _ => rfl) pmb_0_1_2_3 (fun _ => rfl) hw (fun r3 u3 hw => ?_)
      obtain ⟨mv4, rfl⟩ : ∃ z, z = u3 := ⟨_, rfl⟩
      exact hret 37 r3 (mv4, rf) _ dX5_drip_37 hw
    · replace hw := hw.2 hs1_1
      rcases Classical.em (p1 = 2) with hs1_2 | hs1_2
      · replace hw := hw.1 hs1_2
        refine g_tswIn (pc' := 38) C dX5_drip_1 2 hs1_2 (by decide) (by decide) rfl (by decide) ?_
        refine g_aload_n C dX5_drip_38 0 rfl rfl ?_
        refine g_callVi (As := []) (gr := [gA cI re 7 rf]) C (c_X5_settledAfter l D cI cQ x an am aq ap b al au re pq n m  _) dX5_drip_39 ⟨ml_X5_149, kV_X5_settledAfter⟩ ⟨Nat.le_of_ble_eq_true rfl, Nat.le_of_ble_eq_true rfl⟩ ⟨Nat.le_refl _, Nat.le_refl _⟩ rfl rfl 0 0 rfl rfl [0, 1, 2, 3] 4 rfl pmb_0_1_2_3 rfl rfl rfl (Nat.le_of_ble_eq_true rfl) rfl (fun (u : PT) => [gObj x an am aq ap al au re pq, gPar cI an n, gPar cI am u, gA cI re 7 rf]) [0, 1, 2, 3] 4 (fun _ => rfl) pmb_0_1_2_3 (fun _ => rfl) hw (fun r5 u5 hw => ?_)
        obtain ⟨mv6, rfl⟩ : ∃ z, z = u5 := ⟨_, rfl⟩
        exact hret 42 r5 (mv6, rf) _ dX5_drip_42 hw
      · replace hw := hw.2 hs1_2
        have ht1 : (p1).toInt < 0 ∨ 2 < (p1).toInt := by
          have q0 := lv_neT (a := 0) hs1_0 (by decide)
          have q1 := lv_neT (a := 1) hs1_1 (by decide)
          have q2 := lv_neT (a := 2) hs1_2 (by decide)
          omega
        refine g_tswOut (pc' := 43) C dX5_drip_1 ht1 (by decide) ?_
        refine g_aload_n C dX5_drip_43 0 rfl rfl ?_
        refine g_bipush (v := -2) C dX5_drip_44 (by decide) rfl ?_
        refine g_callVi (As := [.int (-2 : Int32)]) (gr := [gPar cI an n, gPar cI am m]) C (c_X5_refuse l D cI cQ x an am aq ap b al au re pq rf (-2 : Int32) _) dX5_drip_46 ⟨ml_X5_51, kV_X5_refuse⟩ ⟨Nat.le_of_ble_eq_true rfl, Nat.le_of_ble_eq_true rfl⟩ ⟨Nat.le_refl _, Nat.le_refl _⟩ rfl rfl 0 0 rfl rfl [0, 3, 1, 2] 4 rfl pmb_0_3_1_2 rfl rfl rfl (Nat.le_of_ble_eq_true rfl) rfl (fun (u : F1) => [gObj x an am aq ap al au re pq, gPar cI an n, gPar cI am m, gA cI re 7 u]) [0, 2, 3, 1] 4 (fun _ => rfl) pmb_0_2_3_1 (fun _ => rfl) hw (fun r7 u7 hw => ?_)
        obtain ⟨rfv8, rfl⟩ : ∃ z, z = u7 := ⟨_, rfl⟩
        exact hret 49 r7 (m, rfv8) _ dX5_drip_49 hw
set_option maxRecDepth 100000 in
theorem c_X5_drip (l : Launch) (D : va_G) (cI cQ : ClassId) (x : Nat) (an : Nat → Nat) (am : Nat → Nat) (aq : Nat → Nat) (ap : Nat → Nat) (b : Nat → Nat → Nat) (al : Nat → Nat) (au : Nat → Nat) (re : Nat) (pq : Int32) (n : PT) (m : PT) (rf : F1) (p1 : Int32) (post : Int32 → PT × F1 → Prop) (sz : Nat) : Met l yX5_drip (wsY yX5_drip cX5_drip 2 (some .int)) (rmL 4 0 0 102) (xP D (tyL cI cQ) [.ref x, .int p1] [gObj x an am aq ap al au re pq, gPar cI an n, gPar cI am m, gA cI re 7 rf] sz (p_X5_drip n m rf p1 post)) (xQi D (tyL cI cQ) post (fun (u : PT × F1) => [gObj x an am aq ap al au re pq, gPar cI an n, gPar cI am u.1, gA cI re 7 u.2]) (va_A [gObj x an am aq ap al au re pq, gPar cI an n, gPar cI am m, gA cI re 7 rf].flatten sz)) 0 0 (va_A [gObj x an am aq ap al au re pq, gPar cI an n, gPar cI am m, gA cI re 7 rf].flatten sz) :=
  Met_i pn_X5 (Nat.le_of_ble_eq_true rfl) (fun p e s mi below meth co A Q _ C hret hw => w_X5_drip x an am aq ap b al au re pq n m rf p1 C hret hw)
theorem kV_X5_drip : Cond.instanceMethod yX5_drip ∈ gTbl ∧ Cond.selects yX5_drip.cls yX5_drip yX5_drip ∈ gTbl ∧ Cond.initialized yX5_drip.cls ∈ gTbl ∧ Cond.code yX5_drip cX5_drip 2 (some .int) ∈ gTbl ∧ (yX5_drip.cls ≠ "java/lang/invoke/MethodHandle" ∧ yX5_drip.cls ≠ "java/lang/invoke/VarHandle" ∧ (parseMethodDescriptor yX5_drip.desc).map (fun d => d.parameters.length) = some 1) := ⟨im_X5_drip, sl_X5_drip, in_X5, cd_X5_drip, (by decide +kernel)⟩
set_option maxRecDepth 100000 in
def p_X5_reaches (n : PT) (m : PT) (rf : F1) (p1 : Int32) (p2 : Int32) (post : Int32 → PT × F1 → Prop) : Prop := p_X3_there n p1 (fun (r1 : Int32) => ((r1 = 0 → p_X5_refuse rf (-1 : Int32) (fun (r13 : Int32) (u13 : F1) => (fun (rfv14 : F1) => post r13 (m, rfv14)) u13)) ∧ (¬ r1 = 0 → p_X5_outside p2 (1 : Int32) (99 : Int32) (fun (r2 : Int32) => ((r2 = 0 → p_X5_think n m (fun (u3 : PT) => (fun (mv4 : PT) => lpN (fun (K7 : (Int32 × PT) → Prop) (z7 : Int32 × PT) => (fun (x5 : Int32) (mv6 : PT) => (((60 : Int32) < x5 → post (-9 : Int32) (mv6, rf)) ∧ (¬ (60 : Int32) < x5 → p_X3_holdsOf mv6 p1 (fun (r8 : Int32) => ((r8 < p2 → p_X3_flow mv6 (fun (r9 : Int32) (u9 : PT) => (fun (mv10 : PT) => K7 ((x5 + 1), mv10)) u9)) ∧ (¬ r8 < p2 → post x5 (mv6, rf))))))) z7.1 z7.2) 1000 ((0 : Int32), mv4)) u3)) ∧ (¬ r2 = 0 → p_X5_refuse rf r2 (fun (r11 : Int32) (u11 : F1) => (fun (rfv12 : F1) => post r11 (m, rfv12)) u11)))))))
set_option maxHeartbeats 4000000 in
set_option maxRecDepth 100000 in
theorem w_X5_reaches {p : Program} {l : Launch} {e : Env} {s : State} {mi : MethodId} {args : Array Value} {below : List Frame} {meth : Method} {co : Code} {D : va_G} {cI cQ : ClassId} {A : Nat → Prop} {Q : State → Prop} (x : Nat) (an : Nat → Nat) (am : Nat → Nat) (aq : Nat → Nat) (ap : Nat → Nat) (b : Nat → Nat → Nat) (al : Nat → Nat) (au : Nat → Nat) (re : Nat) (pq : Int32) (n : PT) (m : PT) (rf : F1) (p1 : Int32) (p2 : Int32) {post : Int32 → PT × F1 → Prop} (C : xC p s mi args co cX5_reaches RX5 5 D (tyL cI cQ) A) (hret : ∀ (pc : Nat) (r : Int32) (u : PT × F1) (lv : List (Nat × Value)), decode cX5_reaches pc = .ok (.ireturn, 1) → post r u → xG p l e (rmL 3 0 0 81) s mi args below meth co D A 5 Q 0 0 pc [.int r] [gObj x an am aq ap al au re pq, gPar cI an n, gPar cI am u.1, gA cI re 7 u.2] lv) (hw : p_X5_reaches n m rf p1 p2 post) : xG p l e (rmL 3 0 0 81) s mi args below meth co D A 5 Q 0 0 0 [] [gObj x an am aq ap al au re pq, gPar cI an n, gPar cI am m, gA cI re 7 rf] [(0, .ref x), (1, .int p1), (2, .int p2)] := by
  unfold p_X5_reaches at hw
  try dsimp only at hw
  show xG p l e (rmL 3 0 0 81) s mi args below meth co D A 5 Q 0 0 0 [] [gObj x an am aq ap al au re pq, gPar cI an n, gPar cI am m, gA cI re 7 rf] [(0, .ref x), (1, .int p1), (2, .int p2)]
  refine g_aload_n C dX5_reaches_0 0 rfl rfl ?_
  refine g_get (v := .ref (an 0)) (ci := 4) C dX5_reaches_1 inw_X5 rfl 0 0 0 rfl rfl (Nat.le_of_ble_eq_true rfl) rfl fl_X5_10 rfl rfl ?_
  refine g_iload_n C dX5_reaches_4 1 rfl rfl ?_
  refine g_callVi (As := [.int p1]) (gr := [gObj x an am aq ap al au re pq, gPar cI am m, gA cI re 7 rf]) C (c_X3_there l D cI cQ an n p1 _) dX5_reaches_5 ⟨ml_X5_72, kV_X3_there⟩ ⟨Nat.le_of_ble_eq_true rfl, Nat.le_of_ble_eq_true rfl⟩ ⟨Nat.le_refl _, Nat.le_refl _⟩ rfl rfl 0 0 rfl rfl [1, 0, 2, 3] 4 rfl pmb_1_0_2_3 rfl rfl rfl (Nat.le_of_ble_eq_true rfl) rfl (fun (u : Unit) => [gObj x an am aq ap al au re pq, gPar cI an n, gPar cI am m, gA cI re 7 rf]) [1, 0, 2, 3] 4 (fun _ => rfl) pmb_1_0_2_3 (fun _ => rfl) hw (fun r1 u1 hw => ?_)
  refine g_if_ne (tgt := 17) C dX5_reaches_8 (by decide) rfl hw (fun _ hw => ?_) (fun _ hw => ?_)
  · refine g_iload_n C dX5_reaches_17 2 rfl rfl ?_
    refine g_iconst (v := 1) C dX5_reaches_18 rfl rfl ?_
    refine g_bipush (v := 99) C dX5_reaches_19 (by decide) rfl ?_
    refine g_callSi (As := [.int p2, .int (1 : Int32), .int (99 : Int32)]) (gr := [gObj x an am aq ap al au re pq, gPar cI an n, gPar cI am m, gA cI re 7 rf]) C (c_X5_outside l D cI cQ   p2 (1 : Int32) (99 : Int32) _) dX5_reaches_21 ⟨ml_X5_47, kS_X5_outside⟩ ⟨Nat.le_of_ble_eq_true rfl, Nat.le_of_ble_eq_true rfl⟩ ⟨Nat.le_refl _, Nat.le_refl _⟩ [0, 1, 2, 3] 4 rfl pmb_0_1_2_3 rfl rfl rfl (Nat.le_of_ble_eq_true rfl) rfl (fun (u : Unit) => [gObj x an am aq ap al au re pq, gPar cI an n, gPar cI am m, gA cI re 7 rf]) [0, 1, 2, 3] 4 (fun _ => rfl) pmb_0_1_2_3 (fun _ => rfl) hw (fun r2 u2 hw => ?_)
    refine g_istore_n (v := r2) C dX5_reaches_24 rfl (Nat.le_of_ble_eq_true rfl) (lv' := [(3, .int r2), (0, .ref x), (1, .int p1), (2, .int p2)]) rfl rfl ?_
    refine g_iload_n C dX5_reaches_25 0 rfl rfl ?_
    refine g_if_eq (tgt := 35) C dX5_reaches_26 (by decide) rfl hw (fun _ hw => ?_) (fun _ hw => ?_)
    · refine g_aload_n C dX5_reaches_35 1 rfl rfl ?_
      refine g_callVv (As := []) (gr := [gA cI re 7 rf]) C (c_X5_think l D cI cQ x an am aq ap b al au re pq n m  _) dX5_reaches_36 ⟨ml_X5_137, kV_X5_think⟩ ⟨Nat.le_of_ble_eq_true rfl, Nat.le_of_ble_eq_true rfl⟩ ⟨Nat.le_refl _, Nat.le_refl _⟩ rfl rfl 0 0 rfl rfl [0, 1, 2, 3] 4 rfl pmb_0_1_2_3 rfl rfl rfl (Nat.le_of_ble_eq_true rfl) rfl (fun (u : PT) => [gObj x an am aq ap al au re pq, gPar cI an n, gPar cI am u, gA cI re 7 rf]) [0, 1, 2, 3] 4 (fun _ => rfl) pmb_0_1_2_3 (fun _ => rfl) hw (fun u3 hw => ?_)
      obtain ⟨mv4, rfl⟩ : ∃ z, z = u3 := ⟨_, rfl⟩
      refine g_iconst (v := 0) C dX5_reaches_39 rfl rfl ?_
      refine g_istore (v := (0 : Int32)) C dX5_reaches_40 rfl (Nat.le_of_ble_eq_true rfl) (lv' := [(4, .int (0 : Int32)), (3, .int r2), (0, .ref x), (1, .int p1), (2, .int p2)]) rfl rfl ?_
      refine g_lv [2, 3, 4, 0] rfl ?_
      refine lpN_ind (G := (fun (z7 : Int32 × PT) => (fun (x5 : Int32) (mv6 : PT) => xG p l e (rmL 3 0 0 81) s mi args below meth co D A 5 Q 0 0 42 [] [gObj x an am aq ap al au re pq, gPar cI an n, gPar cI am mv6, gA cI re 7 rf] [(0, .ref x), (1, .int p1), (2, .int p2), (4, .int x5)]) z7.1 z7.2)) ?_ 1000 ((0 : Int32), mv4) hw
      rintro K7 ⟨x5, mv6⟩ ih7 hw
      show xG p l e (rmL 3 0 0 81) s mi args below meth co D A 5 Q 0 0 42 [] [gObj x an am aq ap al au re pq, gPar cI an n, gPar cI am mv6, gA cI re 7 rf] [(0, .ref x), (1, .int p1), (2, .int p2), (4, .int x5)]
      refine g_iload C dX5_reaches_42 3 rfl rfl ?_
      refine g_bipush (v := 60) C dX5_reaches_44 (by decide) rfl ?_
      refine g_icmp_gt (tgt := 78) C dX5_reaches_46 (by decide) rfl hw (fun _ hw => ?_) (fun _ hw => ?_)
      · refine g_bipush (v := -9) C dX5_reaches_78 (by decide) rfl ?_
        exact hret 80 (-9 : Int32) (mv6, rf) _ dX5_reaches_80 hw
      · refine g_aload_n C dX5_reaches_49 0 rfl rfl ?_
        refine g_get (v := .ref (am 0)) (ci := 4) C dX5_reaches_50 inw_X5 rfl 0 0 1 rfl rfl (Nat.le_of_ble_eq_true rfl) rfl fl_X5_16 rfl rfl ?_
        refine g_iload_n C dX5_reaches_53 1 rfl rfl ?_
        refine g_callVi (As := [.int p1]) (gr := [gObj x an am aq ap al au re pq, gPar cI an n, gA cI re 7 rf]) C (c_X3_holdsOf l D cI cQ am mv6 p1 _) dX5_reaches_54 ⟨ml_X5_81, kV_X3_holdsOf⟩ ⟨Nat.le_of_ble_eq_true rfl, Nat.le_of_ble_eq_true rfl⟩ ⟨Nat.le_refl _, Nat.le_refl _⟩ rfl rfl 0 0 rfl rfl [2, 0, 1, 3] 4 rfl pmb_2_0_1_3 rfl rfl rfl (Nat.le_of_ble_eq_true rfl) rfl (fun (u : Unit) => [gObj x an am aq ap al au re pq, gPar cI an n, gPar cI am mv6, gA cI re 7 rf]) [1, 2, 0, 3] 4 (fun _ => rfl) pmb_1_2_0_3 (fun _ => rfl) hw (fun r8 u8 hw => ?_)
        refine g_iload_n C dX5_reaches_57 2 rfl rfl ?_
        refine g_icmp_lt (tgt := 64) C dX5_reaches_58 (by decide) rfl hw (fun _ hw => ?_) (fun _ hw => ?_)
        · refine g_aload_n C dX5_reaches_64 0 rfl rfl ?_
          refine g_get (v := .ref (am 0)) (ci := 4) C dX5_reaches_65 inw_X5 rfl 0 0 1 rfl rfl (Nat.le_of_ble_eq_true rfl) rfl fl_X5_16 rfl rfl ?_
          refine g_callVi (As := []) (gr := [gObj x an am aq ap al au re pq, gPar cI an n, gA cI re 7 rf]) C (c_X3_flow l D cI cQ am mv6  _) dX5_reaches_68 ⟨ml_X5_152, kV_X3_flow⟩ ⟨Nat.le_of_ble_eq_true rfl, Nat.le_of_ble_eq_true rfl⟩ ⟨Nat.le_refl _, Nat.le_refl _⟩ rfl rfl 0 0 rfl rfl [2, 0, 1, 3] 4 rfl pmb_2_0_1_3 rfl rfl rfl (Nat.le_of_ble_eq_true rfl) rfl (fun (u : PT) => [gObj x an am aq ap al au re pq, gPar cI an n, gPar cI am u, gA cI re 7 rf]) [1, 2, 0, 3] 4 (fun _ => rfl) pmb_1_2_0_3 (fun _ => rfl) hw (fun r9 u9 hw => ?_)
          obtain ⟨mv10, rfl⟩ : ∃ z, z = u9 := ⟨_, rfl⟩
          refine g_pop C dX5_reaches_71 rfl rfl ?_
          refine g_iinc (v := (x5 + 1)) (j := 3) C dX5_reaches_72 rfl rfl (Nat.le_of_ble_eq_true rfl) (lv' := [(4, .int (x5 + 1)), (0, .ref x), (1, .int p1), (2, .int p2)]) rfl rfl ?_
          refine g_goto (pc' := 42) C dX5_reaches_75 (by decide) rfl ?_
          refine g_lv [1, 2, 3, 0] rfl ?_
          exact ih7 ((x5 + 1), mv10) hw
        · refine g_iload C dX5_reaches_61 3 rfl rfl ?_
          exact hret 63 x5 (mv6, rf) _ dX5_reaches_63 hw
    · refine g_aload_n C dX5_reaches_29 1 rfl rfl ?_
      refine g_iload_n C dX5_reaches_30 0 rfl rfl ?_
      refine g_callVi (As := [.int r2]) (gr := [gPar cI an n, gPar cI am m]) C (c_X5_refuse l D cI cQ x an am aq ap b al au re pq rf r2 _) dX5_reaches_31 ⟨ml_X5_51, kV_X5_refuse⟩ ⟨Nat.le_of_ble_eq_true rfl, Nat.le_of_ble_eq_true rfl⟩ ⟨Nat.le_refl _, Nat.le_refl _⟩ rfl rfl 0 0 rfl rfl [0, 3, 1, 2] 4 rfl pmb_0_3_1_2 rfl rfl rfl (Nat.le_of_ble_eq_true rfl) rfl (fun (u : F1) => [gObj x an am aq ap al au re pq, gPar cI an n, gPar cI am m, gA cI re 7 u]) [0, 2, 3, 1] 4 (fun _ => rfl) pmb_0_2_3_1 (fun _ => rfl) hw (fun r11 u11 hw => ?_)
      obtain ⟨rfv12, rfl⟩ : ∃ z, z = u11 := ⟨_, rfl⟩
      exact hret 34 r11 (m, rfv12) _ dX5_reaches_34 hw
  · refine g_aload_n C dX5_reaches_11 0 rfl rfl ?_
    refine g_iconst (v := -1) C dX5_reaches_12 (by decide) rfl ?_
    refine g_callVi (As := [.int (-1 : Int32)]) (gr := [gPar cI an n, gPar cI am m]) C (c_X5_refuse l D cI cQ x an am aq ap b al au re pq rf (-1 : Int32) _) dX5_reaches_13 ⟨ml_X5_51, kV_X5_refuse⟩ ⟨Nat.le_of_ble_eq_true rfl, Nat.le_of_ble_eq_true rfl⟩ ⟨Nat.le_refl _, Nat.le_refl _⟩ rfl rfl 0 0 rfl rfl [0, 3, 1, 2] 4 rfl pmb_0_3_1_2 rfl rfl rfl (Nat.le_of_ble_eq_true rfl) rfl (fun (u : F1) => [gObj x an am aq ap al au re pq, gPar cI an n, gPar cI am m, gA cI re 7 u]) [0, 2, 3, 1] 4 (fun _ => rfl) pmb_0_2_3_1 (fun _ => rfl) hw (fun r13 u13 hw => ?_)
    obtain ⟨rfv14, rfl⟩ : ∃ z, z = u13 := ⟨_, rfl⟩
    exact hret 16 r13 (m, rfv14) _ dX5_reaches_16 hw
set_option maxRecDepth 100000 in
theorem c_X5_reaches (l : Launch) (D : va_G) (cI cQ : ClassId) (x : Nat) (an : Nat → Nat) (am : Nat → Nat) (aq : Nat → Nat) (ap : Nat → Nat) (b : Nat → Nat → Nat) (al : Nat → Nat) (au : Nat → Nat) (re : Nat) (pq : Int32) (n : PT) (m : PT) (rf : F1) (p1 : Int32) (p2 : Int32) (post : Int32 → PT × F1 → Prop) (sz : Nat) : Met l yX5_reaches (wsY yX5_reaches cX5_reaches 5 (some .int)) (rmL 3 0 0 81) (xP D (tyL cI cQ) [.ref x, .int p1, .int p2] [gObj x an am aq ap al au re pq, gPar cI an n, gPar cI am m, gA cI re 7 rf] sz (p_X5_reaches n m rf p1 p2 post)) (xQi D (tyL cI cQ) post (fun (u : PT × F1) => [gObj x an am aq ap al au re pq, gPar cI an n, gPar cI am u.1, gA cI re 7 u.2]) (va_A [gObj x an am aq ap al au re pq, gPar cI an n, gPar cI am m, gA cI re 7 rf].flatten sz)) 0 0 (va_A [gObj x an am aq ap al au re pq, gPar cI an n, gPar cI am m, gA cI re 7 rf].flatten sz) :=
  Met_i pn_X5 (Nat.le_of_ble_eq_true rfl) (fun p e s mi below meth co A Q _ C hret hw => w_X5_reaches x an am aq ap b al au re pq n m rf p1 p2 C hret hw)
theorem kV_X5_reaches : Cond.instanceMethod yX5_reaches ∈ gTbl ∧ Cond.selects yX5_reaches.cls yX5_reaches yX5_reaches ∈ gTbl ∧ Cond.initialized yX5_reaches.cls ∈ gTbl ∧ Cond.code yX5_reaches cX5_reaches 5 (some .int) ∈ gTbl ∧ (yX5_reaches.cls ≠ "java/lang/invoke/MethodHandle" ∧ yX5_reaches.cls ≠ "java/lang/invoke/VarHandle" ∧ (parseMethodDescriptor yX5_reaches.desc).map (fun d => d.parameters.length) = some 2) := ⟨im_X5_reaches, sl_X5_reaches, in_X5, cd_X5_reaches, (by decide +kernel)⟩
set_option maxRecDepth 100000 in
def p_X5_cupBehind (m : PT) (p1 : Int32) (post : Int32 → PT → Prop) : Prop := p_X3_pass m p1 (fun (u1 : PT) => (fun (mv2 : PT) => p_X3_inCup mv2 (fun (r3 : Int32) => post r3 mv2)) u1)
set_option maxHeartbeats 4000000 in
set_option maxRecDepth 100000 in
theorem w_X5_cupBehind {p : Program} {l : Launch} {e : Env} {s : State} {mi : MethodId} {args : Array Value} {below : List Frame} {meth : Method} {co : Code} {D : va_G} {cI cQ : ClassId} {A : Nat → Prop} {Q : State → Prop} (x : Nat) (an : Nat → Nat) (am : Nat → Nat) (aq : Nat → Nat) (ap : Nat → Nat) (b : Nat → Nat → Nat) (al : Nat → Nat) (au : Nat → Nat) (re : Nat) (pq : Int32) (m : PT) (p1 : Int32) {post : Int32 → PT → Prop} (C : xC p s mi args co cX5_cupBehind RX5 2 D (tyL cI cQ) A) (hret : ∀ (pc : Nat) (r : Int32) (u : PT) (lv : List (Nat × Value)), decode cX5_cupBehind pc = .ok (.ireturn, 1) → post r u → xG p l e (rmL 4 0 0 92) s mi args below meth co D A 2 Q 0 0 pc [.int r] [gObj x an am aq ap al au re pq, gPar cI am u] lv) (hw : p_X5_cupBehind m p1 post) : xG p l e (rmL 4 0 0 92) s mi args below meth co D A 2 Q 0 0 0 [] [gObj x an am aq ap al au re pq, gPar cI am m] [(0, .ref x), (1, .int p1)] := by
  unfold p_X5_cupBehind at hw
  try dsimp only at hw
  show xG p l e (rmL 4 0 0 92) s mi args below meth co D A 2 Q 0 0 0 [] [gObj x an am aq ap al au re pq, gPar cI am m] [(0, .ref x), (1, .int p1)]
  refine g_aload_n C dX5_cupBehind_0 0 rfl rfl ?_
  refine g_get (v := .ref (am 0)) (ci := 4) C dX5_cupBehind_1 inw_X5 rfl 0 0 1 rfl rfl (Nat.le_of_ble_eq_true rfl) rfl fl_X5_16 rfl rfl ?_
  refine g_iload_n C dX5_cupBehind_4 1 rfl rfl ?_
  refine g_callVv (As := [.int p1]) (gr := [gObj x an am aq ap al au re pq]) C (c_X3_pass l D cI cQ am m p1 _) dX5_cupBehind_5 ⟨ml_X5_128, kV_X3_pass⟩ ⟨Nat.le_of_ble_eq_true rfl, Nat.le_of_ble_eq_true rfl⟩ ⟨Nat.le_refl _, Nat.le_refl _⟩ rfl rfl 0 0 rfl rfl [1, 0] 2 rfl pmb_1_0 rfl rfl rfl (Nat.le_of_ble_eq_true rfl) rfl (fun (u : PT) => [gObj x an am aq ap al au re pq, gPar cI am u]) [1, 0] 2 (fun _ => rfl) pmb_1_0 (fun _ => rfl) hw (fun u1 hw => ?_)
  obtain ⟨mv2, rfl⟩ : ∃ z, z = u1 := ⟨_, rfl⟩
  refine g_aload_n C dX5_cupBehind_8 0 rfl rfl ?_
  refine g_get (v := .ref (am 0)) (ci := 4) C dX5_cupBehind_9 inw_X5 rfl 0 0 1 rfl rfl (Nat.le_of_ble_eq_true rfl) rfl fl_X5_16 rfl rfl ?_
  refine g_callVi (As := []) (gr := [gObj x an am aq ap al au re pq]) C (c_X3_inCup l D cI cQ am mv2  _) dX5_cupBehind_12 ⟨ml_X5_119, kV_X3_inCup⟩ ⟨Nat.le_of_ble_eq_true rfl, Nat.le_of_ble_eq_true rfl⟩ ⟨Nat.le_refl _, Nat.le_refl _⟩ rfl rfl 0 0 rfl rfl [1, 0] 2 rfl pmb_1_0 rfl rfl rfl (Nat.le_of_ble_eq_true rfl) rfl (fun (u : Unit) => [gObj x an am aq ap al au re pq, gPar cI am mv2]) [1, 0] 2 (fun _ => rfl) pmb_1_0 (fun _ => rfl) hw (fun r3 u3 hw => ?_)
  exact hret 15 r3 mv2 _ dX5_cupBehind_15 hw
set_option maxRecDepth 100000 in
theorem c_X5_cupBehind (l : Launch) (D : va_G) (cI cQ : ClassId) (x : Nat) (an : Nat → Nat) (am : Nat → Nat) (aq : Nat → Nat) (ap : Nat → Nat) (b : Nat → Nat → Nat) (al : Nat → Nat) (au : Nat → Nat) (re : Nat) (pq : Int32) (m : PT) (p1 : Int32) (post : Int32 → PT → Prop) (sz : Nat) : Met l yX5_cupBehind (wsY yX5_cupBehind cX5_cupBehind 2 (some .int)) (rmL 4 0 0 92) (xP D (tyL cI cQ) [.ref x, .int p1] [gObj x an am aq ap al au re pq, gPar cI am m] sz (p_X5_cupBehind m p1 post)) (xQi D (tyL cI cQ) post (fun (u : PT) => [gObj x an am aq ap al au re pq, gPar cI am u]) (va_A [gObj x an am aq ap al au re pq, gPar cI am m].flatten sz)) 0 0 (va_A [gObj x an am aq ap al au re pq, gPar cI am m].flatten sz) :=
  Met_i pn_X5 (Nat.le_of_ble_eq_true rfl) (fun p e s mi below meth co A Q _ C hret hw => w_X5_cupBehind x an am aq ap b al au re pq m p1 C hret hw)
theorem kV_X5_cupBehind : Cond.instanceMethod yX5_cupBehind ∈ gTbl ∧ Cond.selects yX5_cupBehind.cls yX5_cupBehind yX5_cupBehind ∈ gTbl ∧ Cond.initialized yX5_cupBehind.cls ∈ gTbl ∧ Cond.code yX5_cupBehind cX5_cupBehind 2 (some .int) ∈ gTbl ∧ (yX5_cupBehind.cls ≠ "java/lang/invoke/MethodHandle" ∧ yX5_cupBehind.cls ≠ "java/lang/invoke/VarHandle" ∧ (parseMethodDescriptor yX5_cupBehind.desc).map (fun d => d.parameters.length) = some 1) := ⟨im_X5_cupBehind, sl_X5_cupBehind, in_X5, cd_X5_cupBehind, (by decide +kernel)⟩
set_option maxRecDepth 100000 in
def p_X5_pour (n : PT) (m : PT) (rf : F1) (p1 : Int32) (p2 : Int32) (p3 : Int32) (post : Int32 → PT × F1 → Prop) : Prop := jn (fun (z1 : Unit) => p_X5_refuse rf (-4 : Int32) (fun (r2 : Int32) (u2 : F1) => (fun (rfv3 : F1) => post r2 (m, rfv3)) u2)) (fun J1 => ((p1 < (1 : Int32) → J1 ()) ∧ (¬ p1 < (1 : Int32) → (((0 : Int32) ≤ p2 → jn (fun (z4 : Unit) => p_X5_refuse rf (-6 : Int32) (fun (r5 : Int32) (u5 : F1) => (fun (rfv6 : F1) => post r5 (m, rfv6)) u5)) (fun J4 => (((99 : Int32) < p1 → J4 ()) ∧ (¬ (99 : Int32) < p1 → ((p2 ≤ (60 : Int32) → jn (fun (z7 : Unit) => lpN (fun (K12 : (Int32 × Int32 × Int32 × PT) → Prop) (z12 : Int32 × Int32 × Int32 × PT) => (fun (x8 : Int32) (x9 : Int32) (x10 : Int32) (mv11 : PT) => p_X3_houses n (fun (r13 : Int32) => ((r13 ≤ x10 → ((p3 = 0 → post x9 (mv11, rf)) ∧ (¬ p3 = 0 → post x8 (mv11, rf)))) ∧ (¬ r13 ≤ x10 → p_X5_think n mv11 (fun (u14 : PT) => (fun (mv15 : PT) => p_X3_fill mv15 x10 p1 (fun (r16 : Int32) (u16 : PT) => (fun (mv17 : PT) => p_X5_cupBehind mv17 p2 (fun (r18 : Int32) (u18 : PT) => (fun (mv19 : PT) => ((r18 ≤ x8 → K12 (x8, x9, (x10 + 1), mv19)) ∧ (¬ r18 ≤ x8 → K12 (r18, x10, (x10 + 1), mv19)))) u18)) u16)) u14))))) z12.1 z12.2.1 z12.2.2.1 z12.2.2.2) 1000 ((-9 : Int32), (-9 : Int32), (0 : Int32), m)) (fun J7 => ((p3 = 0 → J7 ()) ∧ (¬ p3 = 0 → ((p3 = (1 : Int32) → J7 ()) ∧ (¬ p3 = (1 : Int32) → p_X5_refuse rf (-2 : Int32) (fun (r20 : Int32) (u20 : F1) => (fun (rfv21 : F1) => post r20 (m, rfv21)) u20))))))) ∧ (¬ p2 ≤ (60 : Int32) → J4 ())))))) ∧ (¬ (0 : Int32) ≤ p2 → J1 ())))))
set_option maxHeartbeats 4000000 in
set_option maxRecDepth 100000 in
theorem w_X5_pour {p : Program} {l : Launch} {e : Env} {s : State} {mi : MethodId} {args : Array Value} {below : List Frame} {meth : Method} {co : Code} {D : va_G} {cI cQ : ClassId} {A : Nat → Prop} {Q : State → Prop} (x : Nat) (an : Nat → Nat) (am : Nat → Nat) (aq : Nat → Nat) (ap : Nat → Nat) (b : Nat → Nat → Nat) (al : Nat → Nat) (au : Nat → Nat) (re : Nat) (pq : Int32) (n : PT) (m : PT) (rf : F1) (p1 : Int32) (p2 : Int32) (p3 : Int32) {post : Int32 → PT × F1 → Prop} (C : xC p s mi args co cX5_pour RX5 8 D (tyL cI cQ) A) (hret : ∀ (pc : Nat) (r : Int32) (u : PT × F1) (lv : List (Nat × Value)), decode cX5_pour pc = .ok (.ireturn, 1) → post r u → xG p l e (rmL 5 0 0 113) s mi args below meth co D A 8 Q 0 0 pc [.int r] [gObj x an am aq ap al au re pq, gPar cI an n, gPar cI am u.1, gA cI re 7 u.2] lv) (hw : p_X5_pour n m rf p1 p2 p3 post) : xG p l e (rmL 5 0 0 113) s mi args below meth co D A 8 Q 0 0 0 [] [gObj x an am aq ap al au re pq, gPar cI an n, gPar cI am m, gA cI re 7 rf] [(0, .ref x), (1, .int p1), (2, .int p2), (3, .int p3)] := by
  unfold p_X5_pour at hw
  try dsimp only at hw
  show xG p l e (rmL 5 0 0 113) s mi args below meth co D A 8 Q 0 0 0 [] [gObj x an am aq ap al au re pq, gPar cI an n, gPar cI am m, gA cI re 7 rf] [(0, .ref x), (1, .int p1), (2, .int p2), (3, .int p3)]
  refine g_iload_n C dX5_pour_0 1 rfl rfl ?_
  refine g_iconst (v := 1) C dX5_pour_1 rfl rfl ?_
  refine jn_el hw (fun (z1 : Unit) => xG p l e (rmL 5 0 0 113) s mi args below meth co D A 8 Q 0 0 9 [] [gObj x an am aq ap al au re pq, gPar cI an n, gPar cI am m, gA cI re 7 rf] [(0, .ref x)]) ?_ ?_
  · rintro _ hw
    show xG p l e (rmL 5 0 0 113) s mi args below meth co D A 8 Q 0 0 9 [] [gObj x an am aq ap al au re pq, gPar cI an n, gPar cI am m, gA cI re 7 rf] [(0, .ref x)]
    refine g_aload_n C dX5_pour_9 0 rfl rfl ?_
    refine g_bipush (v := -4) C dX5_pour_10 (by decide) rfl ?_
    refine g_callVi (As := [.int (-4 : Int32)]) (gr := [gPar cI an n, gPar cI am m]) C (c_X5_refuse l D cI cQ x an am aq ap b al au re pq rf (-4 : Int32) _) dX5_pour_12 ⟨ml_X5_51, kV_X5_refuse⟩ ⟨Nat.le_of_ble_eq_true rfl, Nat.le_of_ble_eq_true rfl⟩ ⟨Nat.le_refl _, Nat.le_refl _⟩ rfl rfl 0 0 rfl rfl [0, 3, 1, 2] 4 rfl pmb_0_3_1_2 rfl rfl rfl (Nat.le_of_ble_eq_true rfl) rfl (fun (u : F1) => [gObj x an am aq ap al au re pq, gPar cI an n, gPar cI am m, gA cI re 7 u]) [0, 2, 3, 1] 4 (fun _ => rfl) pmb_0_2_3_1 (fun _ => rfl) hw (fun r2 u2 hw => ?_)
    obtain ⟨rfv3, rfl⟩ : ∃ z, z = u2 := ⟨_, rfl⟩
    exact hret 15 r2 (m, rfv3) _ dX5_pour_15 hw
  · intro J1 hJ1 hw
    refine g_icmp_lt (tgt := 9) C dX5_pour_2 (by decide) rfl hw (fun _ hw => ?_) (fun _ hw => ?_)
    · refine g_lv [0] rfl ?_
      exact hJ1 () hw
    · refine g_iload_n C dX5_pour_5 2 rfl rfl ?_
      refine g_if_ge (tgt := 16) C dX5_pour_6 (by decide) rfl hw (fun _ hw => ?_) (fun _ hw => ?_)
      · refine g_iload_n C dX5_pour_16 1 rfl rfl ?_
        refine g_bipush (v := 99) C dX5_pour_17 (by decide) rfl ?_
        refine jn_el hw (fun (z4 : Unit) => xG p l e (rmL 5 0 0 113) s mi args below meth co D A 8 Q 0 0 28 [] [gObj x an am aq ap al au re pq, gPar cI an n, gPar cI am m, gA cI re 7 rf] [(0, .ref x)]) ?_ ?_
        · rintro _ hw
          show xG p l e (rmL 5 0 0 113) s mi args below meth co D A 8 Q 0 0 28 [] [gObj x an am aq ap al au re pq, gPar cI an n, gPar cI am m, gA cI re 7 rf] [(0, .ref x)]
          refine g_aload_n C dX5_pour_28 0 rfl rfl ?_
          refine g_bipush (v := -6) C dX5_pour_29 (by decide) rfl ?_
          refine g_callVi (As := [.int (-6 : Int32)]) (gr := [gPar cI an n, gPar cI am m]) C (c_X5_refuse l D cI cQ x an am aq ap b al au re pq rf (-6 : Int32) _) dX5_pour_31 ⟨ml_X5_51, kV_X5_refuse⟩ ⟨Nat.le_of_ble_eq_true rfl, Nat.le_of_ble_eq_true rfl⟩ ⟨Nat.le_refl _, Nat.le_refl _⟩ rfl rfl 0 0 rfl rfl [0, 3, 1, 2] 4 rfl pmb_0_3_1_2 rfl rfl rfl (Nat.le_of_ble_eq_true rfl) rfl (fun (u : F1) => [gObj x an am aq ap al au re pq, gPar cI an n, gPar cI am m, gA cI re 7 u]) [0, 2, 3, 1] 4 (fun _ => rfl) pmb_0_2_3_1 (fun _ => rfl) hw (fun r5 u5 hw => ?_)
          obtain ⟨rfv6, rfl⟩ : ∃ z, z = u5 := ⟨_, rfl⟩
          exact hret 34 r5 (m, rfv6) _ dX5_pour_34 hw
        · intro J4 hJ4 hw
          refine g_icmp_gt (tgt := 28) C dX5_pour_19 (by decide) rfl hw (fun _ hw => ?_) (fun _ hw => ?_)
          · refine g_lv [0] rfl ?_
            exact hJ4 () hw
          · refine g_iload_n C dX5_pour_22 2 rfl rfl ?_
            refine g_bipush (v := 60) C dX5_pour_23 (by decide) rfl ?_
            refine g_icmp_le (tgt := 35) C dX5_pour_25 (by decide) rfl hw (fun _ hw => ?_) (fun _ hw => ?_)
            · refine g_iload_n C dX5_pour_35 3 rfl rfl ?_
              refine jn_el hw (fun (z7 : Unit) => xG p l e (rmL 5 0 0 113) s mi args below meth co D A 8 Q 0 0 51 [] [gObj x an am aq ap al au re pq, gPar cI an n, gPar cI am m, gA cI re 7 rf] [(0, .ref x), (1, .int p1), (2, .int p2), (3, .int p3)]) ?_ ?_
              · rintro _ hw
                show xG p l e (rmL 5 0 0 113) s mi args below meth co D A 8 Q 0 0 51 [] [gObj x an am aq ap al au re pq, gPar cI an n, gPar cI am m, gA cI re 7 rf] [(0, .ref x), (1, .int p1), (2, .int p2), (3, .int p3)]
                refine g_bipush (v := -9) C dX5_pour_51 (by decide) rfl ?_
                refine g_istore (v := (-9 : Int32)) C dX5_pour_53 rfl (Nat.le_of_ble_eq_true rfl) (lv' := [(4, .int (-9 : Int32)), (0, .ref x), (1, .int p1), (2, .int p2), (3, .int p3)]) rfl rfl ?_
                refine g_bipush (v := -9) C dX5_pour_55 (by decide) rfl ?_
                refine g_istore (v := (-9 : Int32)) C dX5_pour_57 rfl (Nat.le_of_ble_eq_true rfl) (lv' := [(5, .int (-9 : Int32)), (4, .int (-9 : Int32)), (0, .ref x), (1, .int p1), (2, .int p2), (3, .int p3)]) rfl rfl ?_
                refine g_iconst (v := 0) C dX5_pour_59 rfl rfl ?_
                refine g_istore (v := (0 : Int32)) C dX5_pour_60 rfl (Nat.le_of_ble_eq_true rfl) (lv' := [(6, .int (0 : Int32)), (5, .int (-9 : Int32)), (4, .int (-9 : Int32)), (0, .ref x), (1, .int p1), (2, .int p2), (3, .int p3)]) rfl rfl ?_
                refine g_lv [3, 4, 5, 6, 2, 1, 0] rfl ?_
                refine lpN_ind (G := (fun (z12 : Int32 × Int32 × Int32 × PT) => (fun (x8 : Int32) (x9 : Int32) (x10 : Int32) (mv11 : PT) => xG p l e (rmL 5 0 0 113) s mi args below meth co D A 8 Q 0 0 62 [] [gObj x an am aq ap al au re pq, gPar cI an n, gPar cI am mv11, gA cI re 7 rf] [(0, .ref x), (1, .int p1), (2, .int p2), (3, .int p3), (4, .int x8), (5, .int x9), (6, .int x10)]) z12.1 z12.2.1 z12.2.2.1 z12.2.2.2)) ?_ 1000 ((-9 : Int32), (-9 : Int32), (0 : Int32), m) hw
                rintro K12 ⟨x8, x9, x10, mv11⟩ ih12 hw
                show xG p l e (rmL 5 0 0 113) s mi args below meth co D A 8 Q 0 0 62 [] [gObj x an am aq ap al au re pq, gPar cI an n, gPar cI am mv11, gA cI re 7 rf] [(0, .ref x), (1, .int p1), (2, .int p2), (3, .int p3), (4, .int x8), (5, .int x9), (6, .int x10)]
                refine g_iload C dX5_pour_62 6 rfl rfl ?_
                refine g_aload_n C dX5_pour_64 0 rfl rfl ?_
                refine g_get (v := .ref (an 0)) (ci := 4) C dX5_pour_65 inw_X5 rfl 0 0 0 rfl rfl (Nat.le_of_ble_eq_true rfl) rfl fl_X5_10 rfl rfl ?_
                refine g_callVi (As := []) (gr := [gObj x an am aq ap al au re pq, gPar cI am mv11, gA cI re 7 rf]) C (c_X3_houses l D cI cQ an n  _) dX5_pour_68 ⟨ml_X5_103, kV_X3_houses⟩ ⟨Nat.le_of_ble_eq_true rfl, Nat.le_of_ble_eq_true rfl⟩ ⟨Nat.le_refl _, Nat.le_refl _⟩ rfl rfl 0 0 rfl rfl [1, 0, 2, 3] 4 rfl pmb_1_0_2_3 rfl rfl rfl (Nat.le_of_ble_eq_true rfl) rfl (fun (u : Unit) => [gObj x an am aq ap al au re pq, gPar cI an n, gPar cI am mv11, gA cI re 7 rf]) [1, 0, 2, 3] 4 (fun _ => rfl) pmb_1_0_2_3 (fun _ => rfl) hw (fun r13 u13 hw => ?_)
                refine g_icmp_ge (tgt := 117) C dX5_pour_71 (by decide) rfl hw (fun _ hw => ?_) (fun _ hw => ?_)
                · refine g_iload_n C dX5_pour_117 3 rfl rfl ?_
                  refine g_if_ne (tgt := 126) C dX5_pour_118 (by decide) rfl hw (fun _ hw => ?_) (fun _ hw => ?_)
                  · refine g_iload C dX5_pour_126 4 rfl rfl ?_
                    exact hret 128 x8 (mv11, rf) _ dX5_pour_128 hw
                  · refine g_iload C dX5_pour_121 5 rfl rfl ?_
                    refine g_goto (pc' := 128) C dX5_pour_123 (by decide) rfl ?_
                    exact hret 128 x9 (mv11, rf) _ dX5_pour_128 hw
                · refine g_aload_n C dX5_pour_74 0 rfl rfl ?_
                  refine g_callVv (As := []) (gr := [gA cI re 7 rf]) C (c_X5_think l D cI cQ x an am aq ap b al au re pq n mv11  _) dX5_pour_75 ⟨ml_X5_137, kV_X5_think⟩ ⟨Nat.le_of_ble_eq_true rfl, Nat.le_of_ble_eq_true rfl⟩ ⟨Nat.le_refl _, Nat.le_refl _⟩ rfl rfl 0 0 rfl rfl [0, 1, 2, 3] 4 rfl pmb_0_1_2_3 rfl rfl rfl (Nat.le_of_ble_eq_true rfl) rfl (fun (u : PT) => [gObj x an am aq ap al au re pq, gPar cI an n, gPar cI am u, gA cI re 7 rf]) [0, 1, 2, 3] 4 (fun _ => rfl) pmb_0_1_2_3 (fun _ => rfl) hw (fun u14 hw => ?_)
                  obtain ⟨mv15, rfl⟩ : ∃ z, z = u14 := ⟨_, rfl⟩
                  refine g_aload_n C dX5_pour_78 0 rfl rfl ?_
                  refine g_get (v := .ref (am 0)) (ci := 4) C dX5_pour_79 inw_X5 rfl 0 0 1 rfl rfl (Nat.le_of_ble_eq_true rfl) rfl fl_X5_16 rfl rfl ?_
                  refine g_iload C dX5_pour_82 6 rfl rfl ?_
                  refine g_iload_n C dX5_pour_84 1 rfl rfl ?_
                  refine g_callVi (As := [.int x10, .int p1]) (gr := [gObj x an am aq ap al au re pq, gPar cI an n, gA cI re 7 rf]) C (c_X3_fill l D cI cQ am mv15 x10 p1 _) dX5_pour_85 ⟨ml_X5_116, kV_X3_fill⟩ ⟨Nat.le_of_ble_eq_true rfl, Nat.le_of_ble_eq_true rfl⟩ ⟨Nat.le_refl _, Nat.le_refl _⟩ rfl rfl 0 0 rfl rfl [2, 0, 1, 3] 4 rfl pmb_2_0_1_3 rfl rfl rfl (Nat.le_of_ble_eq_true rfl) rfl (fun (u : PT) => [gObj x an am aq ap al au re pq, gPar cI an n, gPar cI am u, gA cI re 7 rf]) [1, 2, 0, 3] 4 (fun _ => rfl) pmb_1_2_0_3 (fun _ => rfl) hw (fun r16 u16 hw => ?_)
                  obtain ⟨mv17, rfl⟩ : ∃ z, z = u16 := ⟨_, rfl⟩
                  refine g_pop C dX5_pour_88 rfl rfl ?_
                  refine g_aload_n C dX5_pour_89 0 rfl rfl ?_
                  refine g_iload_n C dX5_pour_90 2 rfl rfl ?_
                  refine g_callVi (As := [.int p2]) (gr := [gPar cI an n, gA cI re 7 rf]) C (c_X5_cupBehind l D cI cQ x an am aq ap b al au re pq mv17 p2 _) dX5_pour_91 ⟨ml_X5_156, kV_X5_cupBehind⟩ ⟨Nat.le_of_ble_eq_true rfl, Nat.le_of_ble_eq_true rfl⟩ ⟨Nat.le_refl _, Nat.le_refl _⟩ rfl rfl 0 0 rfl rfl [0, 2, 1, 3] 4 rfl pmb_0_2_1_3 rfl rfl rfl (Nat.le_of_ble_eq_true rfl) rfl (fun (u : PT) => [gObj x an am aq ap al au re pq, gPar cI an n, gPar cI am u, gA cI re 7 rf]) [0, 2, 1, 3] 4 (fun _ => rfl) pmb_0_2_1_3 (fun _ => rfl) hw (fun r18 u18 hw => ?_)
                  obtain ⟨mv19, rfl⟩ : ∃ z, z = u18 := ⟨_, rfl⟩
                  refine g_istore (v := r18) C dX5_pour_94 rfl (Nat.le_of_ble_eq_true rfl) (lv' := [(7, .int r18), (0, .ref x), (1, .int p1), (2, .int p2), (3, .int p3), (4, .int x8), (5, .int x9), (6, .int x10)]) rfl rfl ?_
                  refine g_iload C dX5_pour_96 0 rfl rfl ?_
                  refine g_iload C dX5_pour_98 5 rfl rfl ?_
                  refine g_icmp_le (tgt := 111) C dX5_pour_100 (by decide) rfl hw (fun _ hw => ?_) (fun _ hw => ?_)
                  · refine g_iinc (v := (x10 + 1)) (j := 7) C dX5_pour_111 rfl rfl (Nat.le_of_ble_eq_true rfl) (lv' := [(6, .int (x10 + 1)), (7, .int r18), (0, .ref x), (1, .int p1), (2, .int p2), (3, .int p3), (4, .int x8), (5, .int x9)]) rfl rfl ?_
                    refine g_goto (pc' := 62) C dX5_pour_114 (by decide) rfl ?_
                    refine g_lv [2, 3, 4, 5, 6, 7, 0] rfl ?_
                    exact ih12 (x8, x9, (x10 + 1), mv19) hw
                  · refine g_iload C dX5_pour_103 0 rfl rfl ?_
                    refine g_istore (v := r18) C dX5_pour_105 rfl (Nat.le_of_ble_eq_true rfl) (lv' := [(4, .int r18), (7, .int r18), (0, .ref x), (1, .int p1), (2, .int p2), (3, .int p3), (5, .int x9), (6, .int x10)]) rfl rfl ?_
                    refine g_iload C dX5_pour_107 7 rfl rfl ?_
                    refine g_istore (v := x10) C dX5_pour_109 rfl (Nat.le_of_ble_eq_true rfl) (lv' := [(5, .int x10), (4, .int r18), (7, .int r18), (0, .ref x), (1, .int p1), (2, .int p2), (3, .int p3), (6, .int x10)]) rfl rfl ?_
                    refine g_iinc (v := (x10 + 1)) (j := 7) C dX5_pour_111 rfl rfl (Nat.le_of_ble_eq_true rfl) (lv' := [(6, .int (x10 + 1)), (5, .int x10), (4, .int r18), (7, .int r18), (0, .ref x), (1, .int p1), (2, .int p2), (3, .int p3)]) rfl rfl ?_
                    refine g_goto (pc' := 62) C dX5_pour_114 (by decide) rfl ?_
                    refine g_lv [4, 5, 6, 7, 2, 1, 0] rfl ?_
                    exact ih12 (r18, x10, (x10 + 1), mv19) hw
              · intro J7 hJ7 hw
                refine g_if_eq (tgt := 51) C dX5_pour_36 (by decide) rfl hw (fun _ hw => ?_) (fun _ hw => ?_)
                · exact hJ7 () hw
                · refine g_iload_n C dX5_pour_39 3 rfl rfl ?_
                  refine g_iconst (v := 1) C dX5_pour_40 rfl rfl ?_
                  refine g_icmp_eq (tgt := 51) C dX5_pour_41 (by decide) rfl hw (fun _ hw => ?_) (fun _ hw => ?_)
                  · exact hJ7 () hw
                  · refine g_aload_n C dX5_pour_44 0 rfl rfl ?_
                    refine g_bipush (v := -2) C dX5_pour_45 (by decide) rfl ?_
                    refine g_callVi (As := [.int (-2 : Int32)]) (gr := [gPar cI an n, gPar cI am m]) C (c_X5_refuse l D cI cQ x an am aq ap b al au re pq rf (-2 : Int32) _) dX5_pour_47 ⟨ml_X5_51, kV_X5_refuse⟩ ⟨Nat.le_of_ble_eq_true rfl, Nat.le_of_ble_eq_true rfl⟩ ⟨Nat.le_refl _, Nat.le_refl _⟩ rfl rfl 0 0 rfl rfl [0, 3, 1, 2] 4 rfl pmb_0_3_1_2 rfl rfl rfl (Nat.le_of_ble_eq_true rfl) rfl (fun (u : F1) => [gObj x an am aq ap al au re pq, gPar cI an n, gPar cI am m, gA cI re 7 u]) [0, 2, 3, 1] 4 (fun _ => rfl) pmb_0_2_3_1 (fun _ => rfl) hw (fun r20 u20 hw => ?_)
                    obtain ⟨rfv21, rfl⟩ : ∃ z, z = u20 := ⟨_, rfl⟩
                    exact hret 50 r20 (m, rfv21) _ dX5_pour_50 hw
            · refine g_lv [0] rfl ?_
              exact hJ4 () hw
      · refine g_lv [0] rfl ?_
        exact hJ1 () hw
set_option maxRecDepth 100000 in
theorem c_X5_pour (l : Launch) (D : va_G) (cI cQ : ClassId) (x : Nat) (an : Nat → Nat) (am : Nat → Nat) (aq : Nat → Nat) (ap : Nat → Nat) (b : Nat → Nat → Nat) (al : Nat → Nat) (au : Nat → Nat) (re : Nat) (pq : Int32) (n : PT) (m : PT) (rf : F1) (p1 : Int32) (p2 : Int32) (p3 : Int32) (post : Int32 → PT × F1 → Prop) (sz : Nat) : Met l yX5_pour (wsY yX5_pour cX5_pour 8 (some .int)) (rmL 5 0 0 113) (xP D (tyL cI cQ) [.ref x, .int p1, .int p2, .int p3] [gObj x an am aq ap al au re pq, gPar cI an n, gPar cI am m, gA cI re 7 rf] sz (p_X5_pour n m rf p1 p2 p3 post)) (xQi D (tyL cI cQ) post (fun (u : PT × F1) => [gObj x an am aq ap al au re pq, gPar cI an n, gPar cI am u.1, gA cI re 7 u.2]) (va_A [gObj x an am aq ap al au re pq, gPar cI an n, gPar cI am m, gA cI re 7 rf].flatten sz)) 0 0 (va_A [gObj x an am aq ap al au re pq, gPar cI an n, gPar cI am m, gA cI re 7 rf].flatten sz) :=
  Met_i pn_X5 (Nat.le_of_ble_eq_true rfl) (fun p e s mi below meth co A Q _ C hret hw => w_X5_pour x an am aq ap b al au re pq n m rf p1 p2 p3 C hret hw)
theorem kV_X5_pour : Cond.instanceMethod yX5_pour ∈ gTbl ∧ Cond.selects yX5_pour.cls yX5_pour yX5_pour ∈ gTbl ∧ Cond.initialized yX5_pour.cls ∈ gTbl ∧ Cond.code yX5_pour cX5_pour 8 (some .int) ∈ gTbl ∧ (yX5_pour.cls ≠ "java/lang/invoke/MethodHandle" ∧ yX5_pour.cls ≠ "java/lang/invoke/VarHandle" ∧ (parseMethodDescriptor yX5_pour.desc).map (fun d => d.parameters.length) = some 3) := ⟨im_X5_pour, sl_X5_pour, in_X5, cd_X5_pour, (by decide +kernel)⟩
set_option maxRecDepth 100000 in
def p_X5_least (n : PT) (m : PT) (rf : F1) (p1 : Int32) (p2 : Int32) (post : Int32 → PT × F1 → Prop) : Prop := jn (fun (z1 : Unit) => p_X5_refuse rf (-4 : Int32) (fun (r2 : Int32) (u2 : F1) => (fun (rfv3 : F1) => post r2 (m, rfv3)) u2)) (fun J1 => ((p1 < 0 → J1 ()) ∧ (¬ p1 < 0 → (((0 : Int32) ≤ p2 → jn (fun (z4 : Unit) => p_X5_refuse rf (-6 : Int32) (fun (r5 : Int32) (u5 : F1) => (fun (rfv6 : F1) => post r5 (m, rfv6)) u5)) (fun J4 => (((999 : Int32) < p1 → J4 ()) ∧ (¬ (999 : Int32) < p1 → ((p2 ≤ (60 : Int32) → p_X3_houses n (fun (r7 : Int32) => ((r7 = 0 → post (-9 : Int32) (m, rf)) ∧ (¬ r7 = 0 → lpN (fun (K10 : (Int32 × PT) → Prop) (z10 : Int32 × PT) => (fun (x8 : Int32) (mv9 : PT) => (((99 : Int32) < x8 → post (-9 : Int32) (mv9, rf)) ∧ (¬ (99 : Int32) < x8 → p_X5_think n mv9 (fun (u11 : PT) => (fun (mv12 : PT) => p_X3_fill mv12 (0 : Int32) x8 (fun (r13 : Int32) (u13 : PT) => (fun (mv14 : PT) => p_X5_cupBehind mv14 p2 (fun (r15 : Int32) (u15 : PT) => (fun (mv16 : PT) => ((r15 < p1 → K10 ((x8 + 1), mv16)) ∧ (¬ r15 < p1 → post x8 (mv16, rf)))) u15)) u13)) u11)))) z10.1 z10.2) 1000 ((0 : Int32), m))))) ∧ (¬ p2 ≤ (60 : Int32) → J4 ())))))) ∧ (¬ (0 : Int32) ≤ p2 → J1 ())))))
set_option maxHeartbeats 4000000 in
set_option maxRecDepth 100000 in
theorem w_X5_least {p : Program} {l : Launch} {e : Env} {s : State} {mi : MethodId} {args : Array Value} {below : List Frame} {meth : Method} {co : Code} {D : va_G} {cI cQ : ClassId} {A : Nat → Prop} {Q : State → Prop} (x : Nat) (an : Nat → Nat) (am : Nat → Nat) (aq : Nat → Nat) (ap : Nat → Nat) (b : Nat → Nat → Nat) (al : Nat → Nat) (au : Nat → Nat) (re : Nat) (pq : Int32) (n : PT) (m : PT) (rf : F1) (p1 : Int32) (p2 : Int32) {post : Int32 → PT × F1 → Prop} (C : xC p s mi args co cX5_least RX5 4 D (tyL cI cQ) A) (hret : ∀ (pc : Nat) (r : Int32) (u : PT × F1) (lv : List (Nat × Value)), decode cX5_least pc = .ok (.ireturn, 1) → post r u → xG p l e (rmL 5 0 0 113) s mi args below meth co D A 4 Q 0 0 pc [.int r] [gObj x an am aq ap al au re pq, gPar cI an n, gPar cI am u.1, gA cI re 7 u.2] lv) (hw : p_X5_least n m rf p1 p2 post) : xG p l e (rmL 5 0 0 113) s mi args below meth co D A 4 Q 0 0 0 [] [gObj x an am aq ap al au re pq, gPar cI an n, gPar cI am m, gA cI re 7 rf] [(0, .ref x), (1, .int p1), (2, .int p2)] := by
  unfold p_X5_least at hw
  try dsimp only at hw
  show xG p l e (rmL 5 0 0 113) s mi args below meth co D A 4 Q 0 0 0 [] [gObj x an am aq ap al au re pq, gPar cI an n, gPar cI am m, gA cI re 7 rf] [(0, .ref x), (1, .int p1), (2, .int p2)]
  refine g_iload_n C dX5_least_0 1 rfl rfl ?_
  refine jn_el hw (fun (z1 : Unit) => xG p l e (rmL 5 0 0 113) s mi args below meth co D A 4 Q 0 0 8 [] [gObj x an am aq ap al au re pq, gPar cI an n, gPar cI am m, gA cI re 7 rf] [(0, .ref x)]) ?_ ?_
  · rintro _ hw
    show xG p l e (rmL 5 0 0 113) s mi args below meth co D A 4 Q 0 0 8 [] [gObj x an am aq ap al au re pq, gPar cI an n, gPar cI am m, gA cI re 7 rf] [(0, .ref x)]
    refine g_aload_n C dX5_least_8 0 rfl rfl ?_
    refine g_bipush (v := -4) C dX5_least_9 (by decide) rfl ?_
    refine g_callVi (As := [.int (-4 : Int32)]) (gr := [gPar cI an n, gPar cI am m]) C (c_X5_refuse l D cI cQ x an am aq ap b al au re pq rf (-4 : Int32) _) dX5_least_11 ⟨ml_X5_51, kV_X5_refuse⟩ ⟨Nat.le_of_ble_eq_true rfl, Nat.le_of_ble_eq_true rfl⟩ ⟨Nat.le_refl _, Nat.le_refl _⟩ rfl rfl 0 0 rfl rfl [0, 3, 1, 2] 4 rfl pmb_0_3_1_2 rfl rfl rfl (Nat.le_of_ble_eq_true rfl) rfl (fun (u : F1) => [gObj x an am aq ap al au re pq, gPar cI an n, gPar cI am m, gA cI re 7 u]) [0, 2, 3, 1] 4 (fun _ => rfl) pmb_0_2_3_1 (fun _ => rfl) hw (fun r2 u2 hw => ?_)
    obtain ⟨rfv3, rfl⟩ : ∃ z, z = u2 := ⟨_, rfl⟩
    exact hret 14 r2 (m, rfv3) _ dX5_least_14 hw
  · intro J1 hJ1 hw
    refine g_if_lt (tgt := 8) C dX5_least_1 (by decide) rfl hw (fun _ hw => ?_) (fun _ hw => ?_)
    · refine g_lv [0] rfl ?_
      exact hJ1 () hw
    · refine g_iload_n C dX5_least_4 2 rfl rfl ?_
      refine g_if_ge (tgt := 15) C dX5_least_5 (by decide) rfl hw (fun _ hw => ?_) (fun _ hw => ?_)
      · refine g_iload_n C dX5_least_15 1 rfl rfl ?_
        refine g_sipush (v := 999) C dX5_least_16 (by decide) rfl ?_
        refine jn_el hw (fun (z4 : Unit) => xG p l e (rmL 5 0 0 113) s mi args below meth co D A 4 Q 0 0 28 [] [gObj x an am aq ap al au re pq, gPar cI an n, gPar cI am m, gA cI re 7 rf] [(0, .ref x)]) ?_ ?_
        · rintro _ hw
          show xG p l e (rmL 5 0 0 113) s mi args below meth co D A 4 Q 0 0 28 [] [gObj x an am aq ap al au re pq, gPar cI an n, gPar cI am m, gA cI re 7 rf] [(0, .ref x)]
          refine g_aload_n C dX5_least_28 0 rfl rfl ?_
          refine g_bipush (v := -6) C dX5_least_29 (by decide) rfl ?_
          refine g_callVi (As := [.int (-6 : Int32)]) (gr := [gPar cI an n, gPar cI am m]) C (c_X5_refuse l D cI cQ x an am aq ap b al au re pq rf (-6 : Int32) _) dX5_least_31 ⟨ml_X5_51, kV_X5_refuse⟩ ⟨Nat.le_of_ble_eq_true rfl, Nat.le_of_ble_eq_true rfl⟩ ⟨Nat.le_refl _, Nat.le_refl _⟩ rfl rfl 0 0 rfl rfl [0, 3, 1, 2] 4 rfl pmb_0_3_1_2 rfl rfl rfl (Nat.le_of_ble_eq_true rfl) rfl (fun (u : F1) => [gObj x an am aq ap al au re pq, gPar cI an n, gPar cI am m, gA cI re 7 u]) [0, 2, 3, 1] 4 (fun _ => rfl) pmb_0_2_3_1 (fun _ => rfl) hw (fun r5 u5 hw => ?_)
          obtain ⟨rfv6, rfl⟩ : ∃ z, z = u5 := ⟨_, rfl⟩
          exact hret 34 r5 (m, rfv6) _ dX5_least_34 hw
        · intro J4 hJ4 hw
          refine g_icmp_gt (tgt := 28) C dX5_least_19 (by decide) rfl hw (fun _ hw => ?_) (fun _ hw => ?_)
          · refine g_lv [0] rfl ?_
            exact hJ4 () hw
          · refine g_iload_n C dX5_least_22 2 rfl rfl ?_
            refine g_bipush (v := 60) C dX5_least_23 (by decide) rfl ?_
            refine g_icmp_le (tgt := 35) C dX5_least_25 (by decide) rfl hw (fun _ hw => ?_) (fun _ hw => ?_)
            · refine g_aload_n C dX5_least_35 0 rfl rfl ?_
              refine g_get (v := .ref (an 0)) (ci := 4) C dX5_least_36 inw_X5 rfl 0 0 0 rfl rfl (Nat.le_of_ble_eq_true rfl) rfl fl_X5_10 rfl rfl ?_
              refine g_callVi (As := []) (gr := [gObj x an am aq ap al au re pq, gPar cI am m, gA cI re 7 rf]) C (c_X3_houses l D cI cQ an n  _) dX5_least_39 ⟨ml_X5_103, kV_X3_houses⟩ ⟨Nat.le_of_ble_eq_true rfl, Nat.le_of_ble_eq_true rfl⟩ ⟨Nat.le_refl _, Nat.le_refl _⟩ rfl rfl 0 0 rfl rfl [1, 0, 2, 3] 4 rfl pmb_1_0_2_3 rfl rfl rfl (Nat.le_of_ble_eq_true rfl) rfl (fun (u : Unit) => [gObj x an am aq ap al au re pq, gPar cI an n, gPar cI am m, gA cI re 7 rf]) [1, 0, 2, 3] 4 (fun _ => rfl) pmb_1_0_2_3 (fun _ => rfl) hw (fun r7 u7 hw => ?_)
              refine g_if_ne (tgt := 48) C dX5_least_42 (by decide) rfl hw (fun _ hw => ?_) (fun _ hw => ?_)
              · refine g_iconst (v := 0) C dX5_least_48 rfl rfl ?_
                refine g_istore_n (v := (0 : Int32)) C dX5_least_49 rfl (Nat.le_of_ble_eq_true rfl) (lv' := [(3, .int (0 : Int32)), (0, .ref x), (1, .int p1), (2, .int p2)]) rfl rfl ?_
                refine g_lv [1, 2, 3, 0] rfl ?_
                refine lpN_ind (G := (fun (z10 : Int32 × PT) => (fun (x8 : Int32) (mv9 : PT) => xG p l e (rmL 5 0 0 113) s mi args below meth co D A 4 Q 0 0 50 [] [gObj x an am aq ap al au re pq, gPar cI an n, gPar cI am mv9, gA cI re 7 rf] [(0, .ref x), (1, .int p1), (2, .int p2), (3, .int x8)]) z10.1 z10.2)) ?_ 1000 ((0 : Int32), m) hw
                rintro K10 ⟨x8, mv9⟩ ih10 hw
                show xG p l e (rmL 5 0 0 113) s mi args below meth co D A 4 Q 0 0 50 [] [gObj x an am aq ap al au re pq, gPar cI an n, gPar cI am mv9, gA cI re 7 rf] [(0, .ref x), (1, .int p1), (2, .int p2), (3, .int x8)]
                refine g_iload_n C dX5_least_50 3 rfl rfl ?_
                refine g_bipush (v := 99) C dX5_least_51 (by decide) rfl ?_
                refine g_icmp_gt (tgt := 87) C dX5_least_53 (by decide) rfl hw (fun _ hw => ?_) (fun _ hw => ?_)
                · refine g_bipush (v := -9) C dX5_least_87 (by decide) rfl ?_
                  exact hret 89 (-9 : Int32) (mv9, rf) _ dX5_least_89 hw
                · refine g_aload_n C dX5_least_56 0 rfl rfl ?_
                  refine g_callVv (As := []) (gr := [gA cI re 7 rf]) C (c_X5_think l D cI cQ x an am aq ap b al au re pq n mv9  _) dX5_least_57 ⟨ml_X5_137, kV_X5_think⟩ ⟨Nat.le_of_ble_eq_true rfl, Nat.le_of_ble_eq_true rfl⟩ ⟨Nat.le_refl _, Nat.le_refl _⟩ rfl rfl 0 0 rfl rfl [0, 1, 2, 3] 4 rfl pmb_0_1_2_3 rfl rfl rfl (Nat.le_of_ble_eq_true rfl) rfl (fun (u : PT) => [gObj x an am aq ap al au re pq, gPar cI an n, gPar cI am u, gA cI re 7 rf]) [0, 1, 2, 3] 4 (fun _ => rfl) pmb_0_1_2_3 (fun _ => rfl) hw (fun u11 hw => ?_)
                  obtain ⟨mv12, rfl⟩ : ∃ z, z = u11 := ⟨_, rfl⟩
                  refine g_aload_n C dX5_least_60 0 rfl rfl ?_
                  refine g_get (v := .ref (am 0)) (ci := 4) C dX5_least_61 inw_X5 rfl 0 0 1 rfl rfl (Nat.le_of_ble_eq_true rfl) rfl fl_X5_16 rfl rfl ?_
                  refine g_iconst (v := 0) C dX5_least_64 rfl rfl ?_
                  refine g_iload_n C dX5_least_65 3 rfl rfl ?_
                  refine g_callVi (As := [.int (0 : Int32), .int x8]) (gr := [gObj x an am aq ap al au re pq, gPar cI an n, gA cI re 7 rf]) C (c_X3_fill l D cI cQ am mv12 (0 : Int32) x8 _) dX5_least_66 ⟨ml_X5_116, kV_X3_fill⟩ ⟨Nat.le_of_ble_eq_true rfl, Nat.le_of_ble_eq_true rfl⟩ ⟨Nat.le_refl _, Nat.le_refl _⟩ rfl rfl 0 0 rfl rfl [2, 0, 1, 3] 4 rfl pmb_2_0_1_3 rfl rfl rfl (Nat.le_of_ble_eq_true rfl) rfl (fun (u : PT) => [gObj x an am aq ap al au re pq, gPar cI an n, gPar cI am u, gA cI re 7 rf]) [1, 2, 0, 3] 4 (fun _ => rfl) pmb_1_2_0_3 (fun _ => rfl) hw (fun r13 u13 hw => ?_)
                  obtain ⟨mv14, rfl⟩ : ∃ z, z = u13 := ⟨_, rfl⟩
                  refine g_pop C dX5_least_69 rfl rfl ?_
                  refine g_aload_n C dX5_least_70 0 rfl rfl ?_
                  refine g_iload_n C dX5_least_71 2 rfl rfl ?_
                  refine g_callVi (As := [.int p2]) (gr := [gPar cI an n, gA cI re 7 rf]) C (c_X5_cupBehind l D cI cQ x an am aq ap b al au re pq mv14 p2 _) dX5_least_72 ⟨ml_X5_156, kV_X5_cupBehind⟩ ⟨Nat.le_of_ble_eq_true rfl, Nat.le_of_ble_eq_true rfl⟩ ⟨Nat.le_refl _, Nat.le_refl _⟩ rfl rfl 0 0 rfl rfl [0, 2, 1, 3] 4 rfl pmb_0_2_1_3 rfl rfl rfl (Nat.le_of_ble_eq_true rfl) rfl (fun (u : PT) => [gObj x an am aq ap al au re pq, gPar cI an n, gPar cI am u, gA cI re 7 rf]) [0, 2, 1, 3] 4 (fun _ => rfl) pmb_0_2_1_3 (fun _ => rfl) hw (fun r15 u15 hw => ?_)
                  obtain ⟨mv16, rfl⟩ : ∃ z, z = u15 := ⟨_, rfl⟩
                  refine g_iload_n C dX5_least_75 1 rfl rfl ?_
                  refine g_icmp_lt (tgt := 81) C dX5_least_76 (by decide) rfl hw (fun _ hw => ?_) (fun _ hw => ?_)
                  · refine g_iinc (v := (x8 + 1)) (j := 3) C dX5_least_81 rfl rfl (Nat.le_of_ble_eq_true rfl) (lv' := [(3, .int (x8 + 1)), (0, .ref x), (1, .int p1), (2, .int p2)]) rfl rfl ?_
                    refine g_goto (pc' := 50) C dX5_least_84 (by decide) rfl ?_
                    refine g_lv [1, 2, 3, 0] rfl ?_
                    exact ih10 ((x8 + 1), mv16) hw
                  · refine g_iload_n C dX5_least_79 3 rfl rfl ?_
                    exact hret 80 x8 (mv16, rf) _ dX5_least_80 hw
              · refine g_bipush (v := -9) C dX5_least_45 (by decide) rfl ?_
                exact hret 47 (-9 : Int32) (m, rf) _ dX5_least_47 hw
            · refine g_lv [0] rfl ?_
              exact hJ4 () hw
      · refine g_lv [0] rfl ?_
        exact hJ1 () hw
set_option maxRecDepth 100000 in
theorem c_X5_least (l : Launch) (D : va_G) (cI cQ : ClassId) (x : Nat) (an : Nat → Nat) (am : Nat → Nat) (aq : Nat → Nat) (ap : Nat → Nat) (b : Nat → Nat → Nat) (al : Nat → Nat) (au : Nat → Nat) (re : Nat) (pq : Int32) (n : PT) (m : PT) (rf : F1) (p1 : Int32) (p2 : Int32) (post : Int32 → PT × F1 → Prop) (sz : Nat) : Met l yX5_least (wsY yX5_least cX5_least 4 (some .int)) (rmL 5 0 0 113) (xP D (tyL cI cQ) [.ref x, .int p1, .int p2] [gObj x an am aq ap al au re pq, gPar cI an n, gPar cI am m, gA cI re 7 rf] sz (p_X5_least n m rf p1 p2 post)) (xQi D (tyL cI cQ) post (fun (u : PT × F1) => [gObj x an am aq ap al au re pq, gPar cI an n, gPar cI am u.1, gA cI re 7 u.2]) (va_A [gObj x an am aq ap al au re pq, gPar cI an n, gPar cI am m, gA cI re 7 rf].flatten sz)) 0 0 (va_A [gObj x an am aq ap al au re pq, gPar cI an n, gPar cI am m, gA cI re 7 rf].flatten sz) :=
  Met_i pn_X5 (Nat.le_of_ble_eq_true rfl) (fun p e s mi below meth co A Q _ C hret hw => w_X5_least x an am aq ap b al au re pq n m rf p1 p2 C hret hw)
theorem kV_X5_least : Cond.instanceMethod yX5_least ∈ gTbl ∧ Cond.selects yX5_least.cls yX5_least yX5_least ∈ gTbl ∧ Cond.initialized yX5_least.cls ∈ gTbl ∧ Cond.code yX5_least cX5_least 4 (some .int) ∈ gTbl ∧ (yX5_least.cls ≠ "java/lang/invoke/MethodHandle" ∧ yX5_least.cls ≠ "java/lang/invoke/VarHandle" ∧ (parseMethodDescriptor yX5_least.desc).map (fun d => d.parameters.length) = some 2) := ⟨im_X5_least, sl_X5_least, in_X5, cd_X5_least, (by decide +kernel)⟩
set_option maxRecDepth 100000 in
def p_X5_clearing (n : PT) (m : PT) (rf : F1) (p1 : Int32) (post : Int32 → PT × F1 → Prop) : Prop := p_X5_outside p1 (0 : Int32) (60 : Int32) (fun (r1 : Int32) => ((r1 = 0 → p_X3_blockedBits n (fun (r2 : Int32) => lpN (fun (K7 : (Int32 × Int32 × Int32 × PT) → Prop) (z7 : Int32 × Int32 × Int32 × PT) => (fun (x3 : Int32) (x4 : Int32) (x5 : Int32) (mv6 : PT) => ((r2 < x5 → post x4 (mv6, rf)) ∧ (¬ r2 < x5 → (((x5 &&& r2) = x5 → p_X5_think n mv6 (fun (u8 : PT) => (fun (mv9 : PT) => p_X3_free mv9 x5 (fun (u10 : PT) => (fun (mv11 : PT) => p_X5_cupBehind mv11 p1 (fun (r12 : Int32) (u12 : PT) => (fun (mv13 : PT) => p_J6_bitCount_0f7a4 x5 (fun (r14 : Int32) => p_J6_bitCount_0f7a4 x4 (fun (r15 : Int32) => jn (fun (z17 : Int32) => (fun (x16 : Int32) => jn (fun (z18 : Unit) => K7 (r12, x5, (x5 + 1), mv13)) (fun J18 => ((x3 < r12 → J18 ()) ∧ (¬ x3 < r12 → ((r12 = x3 → ((x16 = 0 → K7 (x3, x4, (x5 + 1), mv13)) ∧ (¬ x16 = 0 → J18 ()))) ∧ (¬ r12 = x3 → K7 (x3, x4, (x5 + 1), mv13))))))) z17) (fun J17 => ((r15 ≤ r14 → J17 (0 : Int32)) ∧ (¬ r15 ≤ r14 → J17 (1 : Int32))))))) u12)) u10)) u8)) ∧ (¬ (x5 &&& r2) = x5 → K7 (x3, x4, (x5 + 1), mv6)))))) z7.1 z7.2.1 z7.2.2.1 z7.2.2.2) 1000 ((-9 : Int32), (0 : Int32), (0 : Int32), m))) ∧ (¬ r1 = 0 → p_X5_refuse rf r1 (fun (r19 : Int32) (u19 : F1) => (fun (rfv20 : F1) => post r19 (m, rfv20)) u19))))
set_option maxHeartbeats 4000000 in
set_option maxRecDepth 100000 in
theorem w_X5_clearing {p : Program} {l : Launch} {e : Env} {s : State} {mi : MethodId} {args : Array Value} {below : List Frame} {meth : Method} {co : Code} {D : va_G} {cI cQ : ClassId} {A : Nat → Prop} {Q : State → Prop} (x : Nat) (an : Nat → Nat) (am : Nat → Nat) (aq : Nat → Nat) (ap : Nat → Nat) (b : Nat → Nat → Nat) (al : Nat → Nat) (au : Nat → Nat) (re : Nat) (pq : Int32) (n : PT) (m : PT) (rf : F1) (p1 : Int32) {post : Int32 → PT × F1 → Prop} (C : xC p s mi args co cX5_clearing RX5 9 D (tyL cI cQ) A) (hret : ∀ (pc : Nat) (r : Int32) (u : PT × F1) (lv : List (Nat × Value)), decode cX5_clearing pc = .ok (.ireturn, 1) → post r u → xG p l e (rmL 5 0 0 113) s mi args below meth co D A 9 Q 0 0 pc [.int r] [gObj x an am aq ap al au re pq, gPar cI an n, gPar cI am u.1, gA cI re 7 u.2] lv) (hw : p_X5_clearing n m rf p1 post) : xG p l e (rmL 5 0 0 113) s mi args below meth co D A 9 Q 0 0 0 [] [gObj x an am aq ap al au re pq, gPar cI an n, gPar cI am m, gA cI re 7 rf] [(0, .ref x), (1, .int p1)] := by
  unfold p_X5_clearing at hw
  try dsimp only at hw
  show xG p l e (rmL 5 0 0 113) s mi args below meth co D A 9 Q 0 0 0 [] [gObj x an am aq ap al au re pq, gPar cI an n, gPar cI am m, gA cI re 7 rf] [(0, .ref x), (1, .int p1)]
  refine g_iload_n C dX5_clearing_0 1 rfl rfl ?_
  refine g_iconst (v := 0) C dX5_clearing_1 rfl rfl ?_
  refine g_bipush (v := 60) C dX5_clearing_2 (by decide) rfl ?_
  refine g_callSi (As := [.int p1, .int (0 : Int32), .int (60 : Int32)]) (gr := [gObj x an am aq ap al au re pq, gPar cI an n, gPar cI am m, gA cI re 7 rf]) C (c_X5_outside l D cI cQ   p1 (0 : Int32) (60 : Int32) _) dX5_clearing_4 ⟨ml_X5_47, kS_X5_outside⟩ ⟨Nat.le_of_ble_eq_true rfl, Nat.le_of_ble_eq_true rfl⟩ ⟨Nat.le_refl _, Nat.le_refl _⟩ [0, 1, 2, 3] 4 rfl pmb_0_1_2_3 rfl rfl rfl (Nat.le_of_ble_eq_true rfl) rfl (fun (u : Unit) => [gObj x an am aq ap al au re pq, gPar cI an n, gPar cI am m, gA cI re 7 rf]) [0, 1, 2, 3] 4 (fun _ => rfl) pmb_0_1_2_3 (fun _ => rfl) hw (fun r1 u1 hw => ?_)
  refine g_istore_n (v := r1) C dX5_clearing_7 rfl (Nat.le_of_ble_eq_true rfl) (lv' := [(2, .int r1), (0, .ref x), (1, .int p1)]) rfl rfl ?_
  refine g_iload_n C dX5_clearing_8 0 rfl rfl ?_
  refine g_if_eq (tgt := 18) C dX5_clearing_9 (by decide) rfl hw (fun _ hw => ?_) (fun _ hw => ?_)
  · refine g_aload_n C dX5_clearing_18 1 rfl rfl ?_
    refine g_get (v := .ref (an 0)) (ci := 4) C dX5_clearing_19 inw_X5 rfl 0 0 0 rfl rfl (Nat.le_of_ble_eq_true rfl) rfl fl_X5_10 rfl rfl ?_
    refine g_callVi (As := []) (gr := [gObj x an am aq ap al au re pq, gPar cI am m, gA cI re 7 rf]) C (c_X3_blockedBits l D cI cQ an n  _) dX5_clearing_22 ⟨ml_X5_159, kV_X3_blockedBits⟩ ⟨Nat.le_of_ble_eq_true rfl, Nat.le_of_ble_eq_true rfl⟩ ⟨Nat.le_refl _, Nat.le_refl _⟩ rfl rfl 0 0 rfl rfl [1, 0, 2, 3] 4 rfl pmb_1_0_2_3 rfl rfl rfl (Nat.le_of_ble_eq_true rfl) rfl (fun (u : Unit) => [gObj x an am aq ap al au re pq, gPar cI an n, gPar cI am m, gA cI re 7 rf]) [1, 0, 2, 3] 4 (fun _ => rfl) pmb_1_0_2_3 (fun _ => rfl) hw (fun r2 u2 hw => ?_)
    refine g_istore_n (v := r2) C dX5_clearing_25 rfl (Nat.le_of_ble_eq_true rfl) (lv' := [(3, .int r2), (2, .int r1), (0, .ref x), (1, .int p1)]) rfl rfl ?_
    refine g_bipush (v := -9) C dX5_clearing_26 (by decide) rfl ?_
    refine g_istore (v := (-9 : Int32)) C dX5_clearing_28 rfl (Nat.le_of_ble_eq_true rfl) (lv' := [(4, .int (-9 : Int32)), (3, .int r2), (2, .int r1), (0, .ref x), (1, .int p1)]) rfl rfl ?_
    refine g_iconst (v := 0) C dX5_clearing_30 rfl rfl ?_
    refine g_istore (v := (0 : Int32)) C dX5_clearing_31 rfl (Nat.le_of_ble_eq_true rfl) (lv' := [(5, .int (0 : Int32)), (4, .int (-9 : Int32)), (3, .int r2), (2, .int r1), (0, .ref x), (1, .int p1)]) rfl rfl ?_
    refine g_iconst (v := 0) C dX5_clearing_33 rfl rfl ?_
    refine g_istore (v := (0 : Int32)) C dX5_clearing_34 rfl (Nat.le_of_ble_eq_true rfl) (lv' := [(6, .int (0 : Int32)), (5, .int (0 : Int32)), (4, .int (-9 : Int32)), (3, .int r2), (2, .int r1), (0, .ref x), (1, .int p1)]) rfl rfl ?_
    refine g_lv [5, 6, 3, 2, 1, 0] rfl ?_
    refine lpN_ind (G := (fun (z7 : Int32 × Int32 × Int32 × PT) => (fun (x3 : Int32) (x4 : Int32) (x5 : Int32) (mv6 : PT) => xG p l e (rmL 5 0 0 113) s mi args below meth co D A 9 Q 0 0 36 [] [gObj x an am aq ap al au re pq, gPar cI an n, gPar cI am mv6, gA cI re 7 rf] [(0, .ref x), (1, .int p1), (3, .int r2), (4, .int x3), (5, .int x4), (6, .int x5)]) z7.1 z7.2.1 z7.2.2.1 z7.2.2.2)) ?_ 1000 ((-9 : Int32), (0 : Int32), (0 : Int32), m) hw
    rintro K7 ⟨x3, x4, x5, mv6⟩ ih7 hw
    show xG p l e (rmL 5 0 0 113) s mi args below meth co D A 9 Q 0 0 36 [] [gObj x an am aq ap al au re pq, gPar cI an n, gPar cI am mv6, gA cI re 7 rf] [(0, .ref x), (1, .int p1), (3, .int r2), (4, .int x3), (5, .int x4), (6, .int x5)]
    refine g_iload C dX5_clearing_36 5 rfl rfl ?_
    refine g_iload_n C dX5_clearing_38 2 rfl rfl ?_
    refine g_icmp_gt (tgt := 127) C dX5_clearing_39 (by decide) rfl hw (fun _ hw => ?_) (fun _ hw => ?_)
    · refine g_iload C dX5_clearing_127 4 rfl rfl ?_
      exact hret 129 x4 (mv6, rf) _ dX5_clearing_129 hw
    · refine g_iload C dX5_clearing_42 5 rfl rfl ?_
      refine g_iload_n C dX5_clearing_44 2 rfl rfl ?_
      refine g_iand C dX5_clearing_45 rfl ?_
      refine g_iload C dX5_clearing_46 5 rfl rfl ?_
      refine g_icmp_eq (tgt := 54) C dX5_clearing_48 (by decide) rfl hw (fun _ hw => ?_) (fun _ hw => ?_)
      · refine g_aload_n C dX5_clearing_54 0 rfl rfl ?_
        refine g_callVv (As := []) (gr := [gA cI re 7 rf]) C (c_X5_think l D cI cQ x an am aq ap b al au re pq n mv6  _) dX5_clearing_55 ⟨ml_X5_137, kV_X5_think⟩ ⟨Nat.le_of_ble_eq_true rfl, Nat.le_of_ble_eq_true rfl⟩ ⟨Nat.le_refl _, Nat.le_refl _⟩ rfl rfl 0 0 rfl rfl [0, 1, 2, 3] 4 rfl pmb_0_1_2_3 rfl rfl rfl (Nat.le_of_ble_eq_true rfl) rfl (fun (u : PT) => [gObj x an am aq ap al au re pq, gPar cI an n, gPar cI am u, gA cI re 7 rf]) [0, 1, 2, 3] 4 (fun _ => rfl) pmb_0_1_2_3 (fun _ => rfl) hw (fun u8 hw => ?_)
        obtain ⟨mv9, rfl⟩ : ∃ z, z = u8 := ⟨_, rfl⟩
        refine g_aload_n C dX5_clearing_58 0 rfl rfl ?_
        refine g_get (v := .ref (am 0)) (ci := 4) C dX5_clearing_59 inw_X5 rfl 0 0 1 rfl rfl (Nat.le_of_ble_eq_true rfl) rfl fl_X5_16 rfl rfl ?_
        refine g_iload C dX5_clearing_62 5 rfl rfl ?_
        refine g_callVv (As := [.int x5]) (gr := [gObj x an am aq ap al au re pq, gPar cI an n, gA cI re 7 rf]) C (c_X3_free l D cI cQ am mv9 x5 _) dX5_clearing_64 ⟨ml_X5_162, kV_X3_free⟩ ⟨Nat.le_of_ble_eq_true rfl, Nat.le_of_ble_eq_true rfl⟩ ⟨Nat.le_refl _, Nat.le_refl _⟩ rfl rfl 0 0 rfl rfl [2, 0, 1, 3] 4 rfl pmb_2_0_1_3 rfl rfl rfl (Nat.le_of_ble_eq_true rfl) rfl (fun (u : PT) => [gObj x an am aq ap al au re pq, gPar cI an n, gPar cI am u, gA cI re 7 rf]) [1, 2, 0, 3] 4 (fun _ => rfl) pmb_1_2_0_3 (fun _ => rfl) hw (fun u10 hw => ?_)
        obtain ⟨mv11, rfl⟩ : ∃ z, z = u10 := ⟨_, rfl⟩
        refine g_aload_n C dX5_clearing_67 0 rfl rfl ?_
        refine g_iload_n C dX5_clearing_68 1 rfl rfl ?_
        refine g_callVi (As := [.int p1]) (gr := [gPar cI an n, gA cI re 7 rf]) C (c_X5_cupBehind l D cI cQ x an am aq ap b al au re pq mv11 p1 _) dX5_clearing_69 ⟨ml_X5_156, kV_X5_cupBehind⟩ ⟨Nat.le_of_ble_eq_true rfl, Nat.le_of_ble_eq_true rfl⟩ ⟨Nat.le_refl _, Nat.le_refl _⟩ rfl rfl 0 0 rfl rfl [0, 2, 1, 3] 4 rfl pmb_0_2_1_3 rfl rfl rfl (Nat.le_of_ble_eq_true rfl) rfl (fun (u : PT) => [gObj x an am aq ap al au re pq, gPar cI an n, gPar cI am u, gA cI re 7 rf]) [0, 2, 1, 3] 4 (fun _ => rfl) pmb_0_2_1_3 (fun _ => rfl) hw (fun r12 u12 hw => ?_)
        obtain ⟨mv13, rfl⟩ : ∃ z, z = u12 := ⟨_, rfl⟩
        refine g_istore (v := r12) C dX5_clearing_72 rfl (Nat.le_of_ble_eq_true rfl) (lv' := [(7, .int r12), (0, .ref x), (1, .int p1), (3, .int r2), (4, .int x3), (5, .int x4), (6, .int x5)]) rfl rfl ?_
        refine g_iload C dX5_clearing_74 6 rfl rfl ?_
        refine g_callSi (As := [.int x5]) (gr := [gObj x an am aq ap al au re pq, gPar cI an n, gPar cI am mv13, gA cI re 7 rf]) C (c_J6_bitCount_0f7a4 l D cI cQ   x5 _) dX5_clearing_76 ⟨ml_X5_165, kS_J6_bitCount_0f7a4⟩ ⟨Nat.le_of_ble_eq_true rfl, Nat.le_of_ble_eq_true rfl⟩ ⟨Nat.le_refl _, Nat.le_refl _⟩ [0, 1, 2, 3] 4 rfl pmb_0_1_2_3 rfl rfl rfl (Nat.le_of_ble_eq_true rfl) rfl (fun (u : Unit) => [gObj x an am aq ap al au re pq, gPar cI an n, gPar cI am mv13, gA cI re 7 rf]) [0, 1, 2, 3] 4 (fun _ => rfl) pmb_0_1_2_3 (fun _ => rfl) hw (fun r14 u14 hw => ?_)
        refine g_iload C dX5_clearing_79 5 rfl rfl ?_
        refine g_callSi (As := [.int x4]) (gr := [gObj x an am aq ap al au re pq, gPar cI an n, gPar cI am mv13, gA cI re 7 rf]) C (c_J6_bitCount_0f7a4 l D cI cQ   x4 _) dX5_clearing_81 ⟨ml_X5_165, kS_J6_bitCount_0f7a4⟩ ⟨Nat.le_of_ble_eq_true rfl, Nat.le_of_ble_eq_true rfl⟩ ⟨Nat.le_refl _, Nat.le_refl _⟩ [0, 1, 2, 3] 4 rfl pmb_0_1_2_3 rfl rfl rfl (Nat.le_of_ble_eq_true rfl) rfl (fun (u : Unit) => [gObj x an am aq ap al au re pq, gPar cI an n, gPar cI am mv13, gA cI re 7 rf]) [0, 1, 2, 3] 4 (fun _ => rfl) pmb_0_1_2_3 (fun _ => rfl) hw (fun r15 u15 hw => ?_)
        refine jn_el hw (fun (z17 : Int32) => (fun (x16 : Int32) => xG p l e (rmL 5 0 0 113) s mi args below meth co D A 9 Q 0 0 92 [.int x16] [gObj x an am aq ap al au re pq, gPar cI an n, gPar cI am mv13, gA cI re 7 rf] [(0, .ref x), (1, .int p1), (3, .int r2), (4, .int x3), (5, .int x4), (6, .int x5), (7, .int r12)]) z17) ?_ ?_
        · rintro x16 hw
          show xG p l e (rmL 5 0 0 113) s mi args below meth co D A 9 Q 0 0 92 [.int x16] [gObj x an am aq ap al au re pq, gPar cI an n, gPar cI am mv13, gA cI re 7 rf] [(0, .ref x), (1, .int p1), (3, .int r2), (4, .int x3), (5, .int x4), (6, .int x5), (7, .int r12)]
          refine g_istore (v := x16) C dX5_clearing_92 rfl (Nat.le_of_ble_eq_true rfl) (lv' := [(8, .int x16), (0, .ref x), (1, .int p1), (3, .int r2), (4, .int x3), (5, .int x4), (6, .int x5), (7, .int r12)]) rfl rfl ?_
          refine g_iload C dX5_clearing_94 7 rfl rfl ?_
          refine g_iload C dX5_clearing_96 4 rfl rfl ?_
          refine jn_el hw (fun (z18 : Unit) => xG p l e (rmL 5 0 0 113) s mi args below meth co D A 9 Q 0 0 113 [] [gObj x an am aq ap al au re pq, gPar cI an n, gPar cI am mv13, gA cI re 7 rf] [(0, .ref x), (1, .int p1), (3, .int r2), (6, .int x5), (7, .int r12)]) ?_ ?_
          · rintro _ hw
            show xG p l e (rmL 5 0 0 113) s mi args below meth co D A 9 Q 0 0 113 [] [gObj x an am aq ap al au re pq, gPar cI an n, gPar cI am mv13, gA cI re 7 rf] [(0, .ref x), (1, .int p1), (3, .int r2), (6, .int x5), (7, .int r12)]
            refine g_iload C dX5_clearing_113 4 rfl rfl ?_
            refine g_istore (v := r12) C dX5_clearing_115 rfl (Nat.le_of_ble_eq_true rfl) (lv' := [(4, .int r12), (0, .ref x), (1, .int p1), (3, .int r2), (6, .int x5), (7, .int r12)]) rfl rfl ?_
            refine g_iload C dX5_clearing_117 4 rfl rfl ?_
            refine g_istore (v := x5) C dX5_clearing_119 rfl (Nat.le_of_ble_eq_true rfl) (lv' := [(5, .int x5), (4, .int r12), (0, .ref x), (1, .int p1), (3, .int r2), (6, .int x5), (7, .int r12)]) rfl rfl ?_
            refine g_iinc (v := (x5 + 1)) (j := 5) C dX5_clearing_121 rfl rfl (Nat.le_of_ble_eq_true rfl) (lv' := [(6, .int (x5 + 1)), (5, .int x5), (4, .int r12), (0, .ref x), (1, .int p1), (3, .int r2), (7, .int r12)]) rfl rfl ?_
            refine g_goto (pc' := 36) C dX5_clearing_124 (by decide) rfl ?_
            refine g_lv [3, 4, 5, 2, 1, 0] rfl ?_
            exact ih7 (r12, x5, (x5 + 1), mv13) hw
          · intro J18 hJ18 hw
            refine g_icmp_gt (tgt := 113) C dX5_clearing_98 (by decide) rfl hw (fun _ hw => ?_) (fun _ hw => ?_)
            · refine g_lv [1, 2, 3, 6, 7] rfl ?_
              exact hJ18 () hw
            · refine g_iload C dX5_clearing_101 7 rfl rfl ?_
              refine g_iload C dX5_clearing_103 4 rfl rfl ?_
              refine g_icmp_ne (tgt := 121) C dX5_clearing_105 (by decide) rfl hw (fun _ hw => ?_) (fun _ hw => ?_)
              · refine g_iinc (v := (x5 + 1)) (j := 6) C dX5_clearing_121 rfl rfl (Nat.le_of_ble_eq_true rfl) (lv' := [(6, .int (x5 + 1)), (8, .int x16), (0, .ref x), (1, .int p1), (3, .int r2), (4, .int x3), (5, .int x4), (7, .int r12)]) rfl rfl ?_
                refine g_goto (pc' := 36) C dX5_clearing_124 (by decide) rfl ?_
                refine g_lv [2, 3, 4, 5, 6, 0] rfl ?_
                exact ih7 (x3, x4, (x5 + 1), mv13) hw
              · refine g_iload C dX5_clearing_108 0 rfl rfl ?_
                refine g_if_eq (tgt := 121) C dX5_clearing_110 (by decide) rfl hw (fun _ hw => ?_) (fun _ hw => ?_)
                · refine g_iinc (v := (x5 + 1)) (j := 6) C dX5_clearing_121 rfl rfl (Nat.le_of_ble_eq_true rfl) (lv' := [(6, .int (x5 + 1)), (8, .int x16), (0, .ref x), (1, .int p1), (3, .int r2), (4, .int x3), (5, .int x4), (7, .int r12)]) rfl rfl ?_
                  refine g_goto (pc' := 36) C dX5_clearing_124 (by decide) rfl ?_
                  refine g_lv [2, 3, 4, 5, 6, 0] rfl ?_
                  exact ih7 (x3, x4, (x5 + 1), mv13) hw
                · refine g_lv [1, 2, 3, 6, 7] rfl ?_
                  exact hJ18 () hw
        · intro J17 hJ17 hw
          refine g_icmp_ge (tgt := 91) C dX5_clearing_84 (by decide) rfl hw (fun _ hw => ?_) (fun _ hw => ?_)
          · refine g_iconst (v := 0) C dX5_clearing_91 rfl rfl ?_
            refine g_lv [1, 2, 3, 4, 5, 6, 0] rfl ?_
            exact hJ17 (0 : Int32) hw
          · refine g_iconst (v := 1) C dX5_clearing_87 rfl rfl ?_
            refine g_goto (pc' := 92) C dX5_clearing_88 (by decide) rfl ?_
            refine g_lv [1, 2, 3, 4, 5, 6, 0] rfl ?_
            exact hJ17 (1 : Int32) hw
      · refine g_goto (pc' := 121) C dX5_clearing_51 (by decide) rfl ?_
        refine g_iinc (v := (x5 + 1)) (j := 5) C dX5_clearing_121 rfl rfl (Nat.le_of_ble_eq_true rfl) (lv' := [(6, .int (x5 + 1)), (0, .ref x), (1, .int p1), (3, .int r2), (4, .int x3), (5, .int x4)]) rfl rfl ?_
        refine g_goto (pc' := 36) C dX5_clearing_124 (by decide) rfl ?_
        refine g_lv [1, 2, 3, 4, 5, 0] rfl ?_
        exact ih7 (x3, x4, (x5 + 1), mv6) hw
  · refine g_aload_n C dX5_clearing_12 1 rfl rfl ?_
    refine g_iload_n C dX5_clearing_13 0 rfl rfl ?_
    refine g_callVi (As := [.int r1]) (gr := [gPar cI an n, gPar cI am m]) C (c_X5_refuse l D cI cQ x an am aq ap b al au re pq rf r1 _) dX5_clearing_14 ⟨ml_X5_51, kV_X5_refuse⟩ ⟨Nat.le_of_ble_eq_true rfl, Nat.le_of_ble_eq_true rfl⟩ ⟨Nat.le_refl _, Nat.le_refl _⟩ rfl rfl 0 0 rfl rfl [0, 3, 1, 2] 4 rfl pmb_0_3_1_2 rfl rfl rfl (Nat.le_of_ble_eq_true rfl) rfl (fun (u : F1) => [gObj x an am aq ap al au re pq, gPar cI an n, gPar cI am m, gA cI re 7 u]) [0, 2, 3, 1] 4 (fun _ => rfl) pmb_0_2_3_1 (fun _ => rfl) hw (fun r19 u19 hw => ?_)
    obtain ⟨rfv20, rfl⟩ : ∃ z, z = u19 := ⟨_, rfl⟩
    exact hret 17 r19 (m, rfv20) _ dX5_clearing_17 hw
set_option maxRecDepth 100000 in
theorem c_X5_clearing (l : Launch) (D : va_G) (cI cQ : ClassId) (x : Nat) (an : Nat → Nat) (am : Nat → Nat) (aq : Nat → Nat) (ap : Nat → Nat) (b : Nat → Nat → Nat) (al : Nat → Nat) (au : Nat → Nat) (re : Nat) (pq : Int32) (n : PT) (m : PT) (rf : F1) (p1 : Int32) (post : Int32 → PT × F1 → Prop) (sz : Nat) : Met l yX5_clearing (wsY yX5_clearing cX5_clearing 9 (some .int)) (rmL 5 0 0 113) (xP D (tyL cI cQ) [.ref x, .int p1] [gObj x an am aq ap al au re pq, gPar cI an n, gPar cI am m, gA cI re 7 rf] sz (p_X5_clearing n m rf p1 post)) (xQi D (tyL cI cQ) post (fun (u : PT × F1) => [gObj x an am aq ap al au re pq, gPar cI an n, gPar cI am u.1, gA cI re 7 u.2]) (va_A [gObj x an am aq ap al au re pq, gPar cI an n, gPar cI am m, gA cI re 7 rf].flatten sz)) 0 0 (va_A [gObj x an am aq ap al au re pq, gPar cI an n, gPar cI am m, gA cI re 7 rf].flatten sz) :=
  Met_i pn_X5 (Nat.le_of_ble_eq_true rfl) (fun p e s mi below meth co A Q _ C hret hw => w_X5_clearing x an am aq ap b al au re pq n m rf p1 C hret hw)
theorem kV_X5_clearing : Cond.instanceMethod yX5_clearing ∈ gTbl ∧ Cond.selects yX5_clearing.cls yX5_clearing yX5_clearing ∈ gTbl ∧ Cond.initialized yX5_clearing.cls ∈ gTbl ∧ Cond.code yX5_clearing cX5_clearing 9 (some .int) ∈ gTbl ∧ (yX5_clearing.cls ≠ "java/lang/invoke/MethodHandle" ∧ yX5_clearing.cls ≠ "java/lang/invoke/VarHandle" ∧ (parseMethodDescriptor yX5_clearing.desc).map (fun d => d.parameters.length) = some 1) := ⟨im_X5_clearing, sl_X5_clearing, in_X5, cd_X5_clearing, (by decide +kernel)⟩
set_option maxRecDepth 100000 in
def p_X5_stop (n : PT) (m : PT) (rf : F1) (p1 : Int32) (post : Int32 → PT × F1 → Prop) : Prop := p_X5_outside p1 (0 : Int32) (60 : Int32) (fun (r1 : Int32) => ((r1 = 0 → p_X5_think n m (fun (u2 : PT) => (fun (mv3 : PT) => p_X5_cupBehind mv3 p1 (fun (r4 : Int32) (u4 : PT) => (fun (mv5 : PT) => lpN (fun (K10 : (Int32 × Int32 × Int32 × PT) → Prop) (z10 : Int32 × Int32 × Int32 × PT) => (fun (x6 : Int32) (x7 : Int32) (x8 : Int32) (mv9 : PT) => p_X3_houses n (fun (r11 : Int32) => ((r11 ≤ x8 → post x7 (mv9, rf)) ∧ (¬ r11 ≤ x8 → p_X3_isBlocked n x8 (fun (r12 : Int32) => ((r12 = 0 → p_X5_think n mv9 (fun (u13 : PT) => (fun (mv14 : PT) => p_X3_block mv14 x8 (fun (u15 : PT) => (fun (mv16 : PT) => p_X5_cupBehind mv16 p1 (fun (r17 : Int32) (u17 : PT) => (fun (mv18 : PT) => ((x6 ≤ r17 → K10 (x6, x7, (x8 + 1), mv18)) ∧ (¬ x6 ≤ r17 → K10 (r17, x8, (x8 + 1), mv18)))) u17)) u15)) u13)) ∧ (¬ r12 = 0 → K10 (x6, x7, (x8 + 1), mv9)))))))) z10.1 z10.2.1 z10.2.2.1 z10.2.2.2) 1000 (r4, (-9 : Int32), (0 : Int32), mv5)) u4)) u2)) ∧ (¬ r1 = 0 → p_X5_refuse rf r1 (fun (r19 : Int32) (u19 : F1) => (fun (rfv20 : F1) => post r19 (m, rfv20)) u19))))
set_option maxHeartbeats 4000000 in
set_option maxRecDepth 100000 in
theorem w_X5_stop {p : Program} {l : Launch} {e : Env} {s : State} {mi : MethodId} {args : Array Value} {below : List Frame} {meth : Method} {co : Code} {D : va_G} {cI cQ : ClassId} {A : Nat → Prop} {Q : State → Prop} (x : Nat) (an : Nat → Nat) (am : Nat → Nat) (aq : Nat → Nat) (ap : Nat → Nat) (b : Nat → Nat → Nat) (al : Nat → Nat) (au : Nat → Nat) (re : Nat) (pq : Int32) (n : PT) (m : PT) (rf : F1) (p1 : Int32) {post : Int32 → PT × F1 → Prop} (C : xC p s mi args co cX5_stop RX5 7 D (tyL cI cQ) A) (hret : ∀ (pc : Nat) (r : Int32) (u : PT × F1) (lv : List (Nat × Value)), decode cX5_stop pc = .ok (.ireturn, 1) → post r u → xG p l e (rmL 5 0 0 113) s mi args below meth co D A 7 Q 0 0 pc [.int r] [gObj x an am aq ap al au re pq, gPar cI an n, gPar cI am u.1, gA cI re 7 u.2] lv) (hw : p_X5_stop n m rf p1 post) : xG p l e (rmL 5 0 0 113) s mi args below meth co D A 7 Q 0 0 0 [] [gObj x an am aq ap al au re pq, gPar cI an n, gPar cI am m, gA cI re 7 rf] [(0, .ref x), (1, .int p1)] := by
  unfold p_X5_stop at hw
  try dsimp only at hw
  show xG p l e (rmL 5 0 0 113) s mi args below meth co D A 7 Q 0 0 0 [] [gObj x an am aq ap al au re pq, gPar cI an n, gPar cI am m, gA cI re 7 rf] [(0, .ref x), (1, .int p1)]
  refine g_iload_n C dX5_stop_0 1 rfl rfl ?_
  refine g_iconst (v := 0) C dX5_stop_1 rfl rfl ?_
  refine g_bipush (v := 60) C dX5_stop_2 (by decide) rfl ?_
  refine g_callSi (As := [.int p1, .int (0 : Int32), .int (60 : Int32)]) (gr := [gObj x an am aq ap al au re pq, gPar cI an n, gPar cI am m, gA cI re 7 rf]) C (c_X5_outside l D cI cQ   p1 (0 : Int32) (60 : Int32) _) dX5_stop_4 ⟨ml_X5_47, kS_X5_outside⟩ ⟨Nat.le_of_ble_eq_true rfl, Nat.le_of_ble_eq_true rfl⟩ ⟨Nat.le_refl _, Nat.le_refl _⟩ [0, 1, 2, 3] 4 rfl pmb_0_1_2_3 rfl rfl rfl (Nat.le_of_ble_eq_true rfl) rfl (fun (u : Unit) => [gObj x an am aq ap al au re pq, gPar cI an n, gPar cI am m, gA cI re 7 rf]) [0, 1, 2, 3] 4 (fun _ => rfl) pmb_0_1_2_3 (fun _ => rfl) hw (fun r1 u1 hw => ?_)
  refine g_istore_n (v := r1) C dX5_stop_7 rfl (Nat.le_of_ble_eq_true rfl) (lv' := [(2, .int r1), (0, .ref x), (1, .int p1)]) rfl rfl ?_
  refine g_iload_n C dX5_stop_8 0 rfl rfl ?_
  refine g_if_eq (tgt := 18) C dX5_stop_9 (by decide) rfl hw (fun _ hw => ?_) (fun _ hw => ?_)
  · refine g_aload_n C dX5_stop_18 1 rfl rfl ?_
    refine g_callVv (As := []) (gr := [gA cI re 7 rf]) C (c_X5_think l D cI cQ x an am aq ap b al au re pq n m  _) dX5_stop_19 ⟨ml_X5_137, kV_X5_think⟩ ⟨Nat.le_of_ble_eq_true rfl, Nat.le_of_ble_eq_true rfl⟩ ⟨Nat.le_refl _, Nat.le_refl _⟩ rfl rfl 0 0 rfl rfl [0, 1, 2, 3] 4 rfl pmb_0_1_2_3 rfl rfl rfl (Nat.le_of_ble_eq_true rfl) rfl (fun (u : PT) => [gObj x an am aq ap al au re pq, gPar cI an n, gPar cI am u, gA cI re 7 rf]) [0, 1, 2, 3] 4 (fun _ => rfl) pmb_0_1_2_3 (fun _ => rfl) hw (fun u2 hw => ?_)
    obtain ⟨mv3, rfl⟩ : ∃ z, z = u2 := ⟨_, rfl⟩
    refine g_aload_n C dX5_stop_22 1 rfl rfl ?_
    refine g_iload_n C dX5_stop_23 2 rfl rfl ?_
    refine g_callVi (As := [.int p1]) (gr := [gPar cI an n, gA cI re 7 rf]) C (c_X5_cupBehind l D cI cQ x an am aq ap b al au re pq mv3 p1 _) dX5_stop_24 ⟨ml_X5_156, kV_X5_cupBehind⟩ ⟨Nat.le_of_ble_eq_true rfl, Nat.le_of_ble_eq_true rfl⟩ ⟨Nat.le_refl _, Nat.le_refl _⟩ rfl rfl 0 0 rfl rfl [0, 2, 1, 3] 4 rfl pmb_0_2_1_3 rfl rfl rfl (Nat.le_of_ble_eq_true rfl) rfl (fun (u : PT) => [gObj x an am aq ap al au re pq, gPar cI an n, gPar cI am u, gA cI re 7 rf]) [0, 2, 1, 3] 4 (fun _ => rfl) pmb_0_2_1_3 (fun _ => rfl) hw (fun r4 u4 hw => ?_)
    obtain ⟨mv5, rfl⟩ : ∃ z, z = u4 := ⟨_, rfl⟩
    refine g_istore_n (v := r4) C dX5_stop_27 rfl (Nat.le_of_ble_eq_true rfl) (lv' := [(3, .int r4), (2, .int r1), (0, .ref x), (1, .int p1)]) rfl rfl ?_
    refine g_bipush (v := -9) C dX5_stop_28 (by decide) rfl ?_
    refine g_istore (v := (-9 : Int32)) C dX5_stop_30 rfl (Nat.le_of_ble_eq_true rfl) (lv' := [(4, .int (-9 : Int32)), (3, .int r4), (2, .int r1), (0, .ref x), (1, .int p1)]) rfl rfl ?_
    refine g_iconst (v := 0) C dX5_stop_32 rfl rfl ?_
    refine g_istore (v := (0 : Int32)) C dX5_stop_33 rfl (Nat.le_of_ble_eq_true rfl) (lv' := [(5, .int (0 : Int32)), (4, .int (-9 : Int32)), (3, .int r4), (2, .int r1), (0, .ref x), (1, .int p1)]) rfl rfl ?_
    refine g_lv [4, 5, 2, 1, 0] rfl ?_
    refine lpN_ind (G := (fun (z10 : Int32 × Int32 × Int32 × PT) => (fun (x6 : Int32) (x7 : Int32) (x8 : Int32) (mv9 : PT) => xG p l e (rmL 5 0 0 113) s mi args below meth co D A 7 Q 0 0 35 [] [gObj x an am aq ap al au re pq, gPar cI an n, gPar cI am mv9, gA cI re 7 rf] [(0, .ref x), (1, .int p1), (3, .int x6), (4, .int x7), (5, .int x8)]) z10.1 z10.2.1 z10.2.2.1 z10.2.2.2)) ?_ 1000 (r4, (-9 : Int32), (0 : Int32), mv5) hw
    rintro K10 ⟨x6, x7, x8, mv9⟩ ih10 hw
    show xG p l e (rmL 5 0 0 113) s mi args below meth co D A 7 Q 0 0 35 [] [gObj x an am aq ap al au re pq, gPar cI an n, gPar cI am mv9, gA cI re 7 rf] [(0, .ref x), (1, .int p1), (3, .int x6), (4, .int x7), (5, .int x8)]
    refine g_iload C dX5_stop_35 4 rfl rfl ?_
    refine g_aload_n C dX5_stop_37 0 rfl rfl ?_
    refine g_get (v := .ref (an 0)) (ci := 4) C dX5_stop_38 inw_X5 rfl 0 0 0 rfl rfl (Nat.le_of_ble_eq_true rfl) rfl fl_X5_10 rfl rfl ?_
    refine g_callVi (As := []) (gr := [gObj x an am aq ap al au re pq, gPar cI am mv9, gA cI re 7 rf]) C (c_X3_houses l D cI cQ an n  _) dX5_stop_41 ⟨ml_X5_103, kV_X3_houses⟩ ⟨Nat.le_of_ble_eq_true rfl, Nat.le_of_ble_eq_true rfl⟩ ⟨Nat.le_refl _, Nat.le_refl _⟩ rfl rfl 0 0 rfl rfl [1, 0, 2, 3] 4 rfl pmb_1_0_2_3 rfl rfl rfl (Nat.le_of_ble_eq_true rfl) rfl (fun (u : Unit) => [gObj x an am aq ap al au re pq, gPar cI an n, gPar cI am mv9, gA cI re 7 rf]) [1, 0, 2, 3] 4 (fun _ => rfl) pmb_1_0_2_3 (fun _ => rfl) hw (fun r11 u11 hw => ?_)
    refine g_icmp_ge (tgt := 101) C dX5_stop_44 (by decide) rfl hw (fun _ hw => ?_) (fun _ hw => ?_)
    · refine g_iload C dX5_stop_101 3 rfl rfl ?_
      exact hret 103 x7 (mv9, rf) _ dX5_stop_103 hw
    · refine g_aload_n C dX5_stop_47 0 rfl rfl ?_
      refine g_get (v := .ref (an 0)) (ci := 4) C dX5_stop_48 inw_X5 rfl 0 0 0 rfl rfl (Nat.le_of_ble_eq_true rfl) rfl fl_X5_10 rfl rfl ?_
      refine g_iload C dX5_stop_51 4 rfl rfl ?_
      refine g_callVi (As := [.int x8]) (gr := [gObj x an am aq ap al au re pq, gPar cI am mv9, gA cI re 7 rf]) C (c_X3_isBlocked l D cI cQ an n x8 _) dX5_stop_53 ⟨ml_X5_87, kV_X3_isBlocked⟩ ⟨Nat.le_of_ble_eq_true rfl, Nat.le_of_ble_eq_true rfl⟩ ⟨Nat.le_refl _, Nat.le_refl _⟩ rfl rfl 0 0 rfl rfl [1, 0, 2, 3] 4 rfl pmb_1_0_2_3 rfl rfl rfl (Nat.le_of_ble_eq_true rfl) rfl (fun (u : Unit) => [gObj x an am aq ap al au re pq, gPar cI an n, gPar cI am mv9, gA cI re 7 rf]) [1, 0, 2, 3] 4 (fun _ => rfl) pmb_1_0_2_3 (fun _ => rfl) hw (fun r12 u12 hw => ?_)
      refine g_if_eq (tgt := 62) C dX5_stop_56 (by decide) rfl hw (fun _ hw => ?_) (fun _ hw => ?_)
      · refine g_aload_n C dX5_stop_62 0 rfl rfl ?_
        refine g_callVv (As := []) (gr := [gA cI re 7 rf]) C (c_X5_think l D cI cQ x an am aq ap b al au re pq n mv9  _) dX5_stop_63 ⟨ml_X5_137, kV_X5_think⟩ ⟨Nat.le_of_ble_eq_true rfl, Nat.le_of_ble_eq_true rfl⟩ ⟨Nat.le_refl _, Nat.le_refl _⟩ rfl rfl 0 0 rfl rfl [0, 1, 2, 3] 4 rfl pmb_0_1_2_3 rfl rfl rfl (Nat.le_of_ble_eq_true rfl) rfl (fun (u : PT) => [gObj x an am aq ap al au re pq, gPar cI an n, gPar cI am u, gA cI re 7 rf]) [0, 1, 2, 3] 4 (fun _ => rfl) pmb_0_1_2_3 (fun _ => rfl) hw (fun u13 hw => ?_)
        obtain ⟨mv14, rfl⟩ : ∃ z, z = u13 := ⟨_, rfl⟩
        refine g_aload_n C dX5_stop_66 0 rfl rfl ?_
        refine g_get (v := .ref (am 0)) (ci := 4) C dX5_stop_67 inw_X5 rfl 0 0 1 rfl rfl (Nat.le_of_ble_eq_true rfl) rfl fl_X5_16 rfl rfl ?_
        refine g_iload C dX5_stop_70 4 rfl rfl ?_
        refine g_callVv (As := [.int x8]) (gr := [gObj x an am aq ap al au re pq, gPar cI an n, gA cI re 7 rf]) C (c_X3_block l D cI cQ am mv14 x8 _) dX5_stop_72 ⟨ml_X5_170, kV_X3_block⟩ ⟨Nat.le_of_ble_eq_true rfl, Nat.le_of_ble_eq_true rfl⟩ ⟨Nat.le_refl _, Nat.le_refl _⟩ rfl rfl 0 0 rfl rfl [2, 0, 1, 3] 4 rfl pmb_2_0_1_3 rfl rfl rfl (Nat.le_of_ble_eq_true rfl) rfl (fun (u : PT) => [gObj x an am aq ap al au re pq, gPar cI an n, gPar cI am u, gA cI re 7 rf]) [1, 2, 0, 3] 4 (fun _ => rfl) pmb_1_2_0_3 (fun _ => rfl) hw (fun u15 hw => ?_)
        obtain ⟨mv16, rfl⟩ : ∃ z, z = u15 := ⟨_, rfl⟩
        refine g_aload_n C dX5_stop_75 0 rfl rfl ?_
        refine g_iload_n C dX5_stop_76 1 rfl rfl ?_
        refine g_callVi (As := [.int p1]) (gr := [gPar cI an n, gA cI re 7 rf]) C (c_X5_cupBehind l D cI cQ x an am aq ap b al au re pq mv16 p1 _) dX5_stop_77 ⟨ml_X5_156, kV_X5_cupBehind⟩ ⟨Nat.le_of_ble_eq_true rfl, Nat.le_of_ble_eq_true rfl⟩ ⟨Nat.le_refl _, Nat.le_refl _⟩ rfl rfl 0 0 rfl rfl [0, 2, 1, 3] 4 rfl pmb_0_2_1_3 rfl rfl rfl (Nat.le_of_ble_eq_true rfl) rfl (fun (u : PT) => [gObj x an am aq ap al au re pq, gPar cI an n, gPar cI am u, gA cI re 7 rf]) [0, 2, 1, 3] 4 (fun _ => rfl) pmb_0_2_1_3 (fun _ => rfl) hw (fun r17 u17 hw => ?_)
        obtain ⟨mv18, rfl⟩ : ∃ z, z = u17 := ⟨_, rfl⟩
        refine g_istore (v := r17) C dX5_stop_80 rfl (Nat.le_of_ble_eq_true rfl) (lv' := [(6, .int r17), (0, .ref x), (1, .int p1), (3, .int x6), (4, .int x7), (5, .int x8)]) rfl rfl ?_
        refine g_iload C dX5_stop_82 0 rfl rfl ?_
        refine g_iload_n C dX5_stop_84 3 rfl rfl ?_
        refine g_icmp_ge (tgt := 95) C dX5_stop_85 (by decide) rfl hw (fun _ hw => ?_) (fun _ hw => ?_)
        · refine g_iinc (v := (x8 + 1)) (j := 5) C dX5_stop_95 rfl rfl (Nat.le_of_ble_eq_true rfl) (lv' := [(5, .int (x8 + 1)), (6, .int r17), (0, .ref x), (1, .int p1), (3, .int x6), (4, .int x7)]) rfl rfl ?_
          refine g_goto (pc' := 35) C dX5_stop_98 (by decide) rfl ?_
          refine g_lv [2, 3, 4, 5, 0] rfl ?_
          exact ih10 (x6, x7, (x8 + 1), mv18) hw
        · refine g_iload C dX5_stop_88 0 rfl rfl ?_
          refine g_istore_n (v := r17) C dX5_stop_90 rfl (Nat.le_of_ble_eq_true rfl) (lv' := [(3, .int r17), (6, .int r17), (0, .ref x), (1, .int p1), (4, .int x7), (5, .int x8)]) rfl rfl ?_
          refine g_iload C dX5_stop_91 5 rfl rfl ?_
          refine g_istore (v := x8) C dX5_stop_93 rfl (Nat.le_of_ble_eq_true rfl) (lv' := [(4, .int x8), (3, .int r17), (6, .int r17), (0, .ref x), (1, .int p1), (5, .int x8)]) rfl rfl ?_
          refine g_iinc (v := (x8 + 1)) (j := 5) C dX5_stop_95 rfl rfl (Nat.le_of_ble_eq_true rfl) (lv' := [(5, .int (x8 + 1)), (4, .int x8), (3, .int r17), (6, .int r17), (0, .ref x), (1, .int p1)]) rfl rfl ?_
          refine g_goto (pc' := 35) C dX5_stop_98 (by decide) rfl ?_
          refine g_lv [4, 5, 2, 1, 0] rfl ?_
          exact ih10 (r17, x8, (x8 + 1), mv18) hw
      · refine g_goto (pc' := 95) C dX5_stop_59 (by decide) rfl ?_
        refine g_iinc (v := (x8 + 1)) (j := 4) C dX5_stop_95 rfl rfl (Nat.le_of_ble_eq_true rfl) (lv' := [(5, .int (x8 + 1)), (0, .ref x), (1, .int p1), (3, .int x6), (4, .int x7)]) rfl rfl ?_
        refine g_goto (pc' := 35) C dX5_stop_98 (by decide) rfl ?_
        refine g_lv [1, 2, 3, 4, 0] rfl ?_
        exact ih10 (x6, x7, (x8 + 1), mv9) hw
  · refine g_aload_n C dX5_stop_12 1 rfl rfl ?_
    refine g_iload_n C dX5_stop_13 0 rfl rfl ?_
    refine g_callVi (As := [.int r1]) (gr := [gPar cI an n, gPar cI am m]) C (c_X5_refuse l D cI cQ x an am aq ap b al au re pq rf r1 _) dX5_stop_14 ⟨ml_X5_51, kV_X5_refuse⟩ ⟨Nat.le_of_ble_eq_true rfl, Nat.le_of_ble_eq_true rfl⟩ ⟨Nat.le_refl _, Nat.le_refl _⟩ rfl rfl 0 0 rfl rfl [0, 3, 1, 2] 4 rfl pmb_0_3_1_2 rfl rfl rfl (Nat.le_of_ble_eq_true rfl) rfl (fun (u : F1) => [gObj x an am aq ap al au re pq, gPar cI an n, gPar cI am m, gA cI re 7 u]) [0, 2, 3, 1] 4 (fun _ => rfl) pmb_0_2_3_1 (fun _ => rfl) hw (fun r19 u19 hw => ?_)
    obtain ⟨rfv20, rfl⟩ : ∃ z, z = u19 := ⟨_, rfl⟩
    exact hret 17 r19 (m, rfv20) _ dX5_stop_17 hw
set_option maxRecDepth 100000 in
theorem c_X5_stop (l : Launch) (D : va_G) (cI cQ : ClassId) (x : Nat) (an : Nat → Nat) (am : Nat → Nat) (aq : Nat → Nat) (ap : Nat → Nat) (b : Nat → Nat → Nat) (al : Nat → Nat) (au : Nat → Nat) (re : Nat) (pq : Int32) (n : PT) (m : PT) (rf : F1) (p1 : Int32) (post : Int32 → PT × F1 → Prop) (sz : Nat) : Met l yX5_stop (wsY yX5_stop cX5_stop 7 (some .int)) (rmL 5 0 0 113) (xP D (tyL cI cQ) [.ref x, .int p1] [gObj x an am aq ap al au re pq, gPar cI an n, gPar cI am m, gA cI re 7 rf] sz (p_X5_stop n m rf p1 post)) (xQi D (tyL cI cQ) post (fun (u : PT × F1) => [gObj x an am aq ap al au re pq, gPar cI an n, gPar cI am u.1, gA cI re 7 u.2]) (va_A [gObj x an am aq ap al au re pq, gPar cI an n, gPar cI am m, gA cI re 7 rf].flatten sz)) 0 0 (va_A [gObj x an am aq ap al au re pq, gPar cI an n, gPar cI am m, gA cI re 7 rf].flatten sz) :=
  Met_i pn_X5 (Nat.le_of_ble_eq_true rfl) (fun p e s mi below meth co A Q _ C hret hw => w_X5_stop x an am aq ap b al au re pq n m rf p1 C hret hw)
theorem kV_X5_stop : Cond.instanceMethod yX5_stop ∈ gTbl ∧ Cond.selects yX5_stop.cls yX5_stop yX5_stop ∈ gTbl ∧ Cond.initialized yX5_stop.cls ∈ gTbl ∧ Cond.code yX5_stop cX5_stop 7 (some .int) ∈ gTbl ∧ (yX5_stop.cls ≠ "java/lang/invoke/MethodHandle" ∧ yX5_stop.cls ≠ "java/lang/invoke/VarHandle" ∧ (parseMethodDescriptor yX5_stop.desc).map (fun d => d.parameters.length) = some 1) := ⟨im_X5_stop, sl_X5_stop, in_X5, cd_X5_stop, (by decide +kernel)⟩
set_option maxRecDepth 100000 in
def p_X5_join (n : PT) (m : PT) (rf : F1) (p1 : Int32) (post : Int32 → PT × F1 → Prop) : Prop := p_X5_outside p1 (0 : Int32) (60 : Int32) (fun (r1 : Int32) => ((r1 = 0 → p_X5_think n m (fun (u2 : PT) => (fun (mv3 : PT) => p_X5_cupBehind mv3 p1 (fun (r4 : Int32) (u4 : PT) => (fun (mv5 : PT) => lpN (fun (K10 : (Int32 × Int32 × Int32 × PT) → Prop) (z10 : Int32 × Int32 × Int32 × PT) => (fun (x6 : Int32) (x7 : Int32) (x8 : Int32) (mv9 : PT) => p_X3_houses n (fun (r11 : Int32) => ((r11 ≤ x8 → post x7 (mv9, rf)) ∧ (¬ r11 ≤ x8 → nm ((x8 + (1 : Int32)) : Int32) (fun (v12 : Int32) => lpN (fun (K17 : (Int32 × Int32 × Int32 × PT) → Prop) (z17 : Int32 × Int32 × Int32 × PT) => (fun (x13 : Int32) (x14 : Int32) (x15 : Int32) (mv16 : PT) => (((9 : Int32) < x15 → K10 (x13, x14, (x8 + 1), mv16)) ∧ (¬ (9 : Int32) < x15 → p_X3_nextOf n x8 (fun (r18 : Int32) => ((x15 = r18 → K17 (x13, x14, (x15 + 1), mv16)) ∧ (¬ x15 = r18 → jn (fun (z19 : Unit) => p_X5_think n mv16 (fun (u20 : PT) => (fun (mv21 : PT) => p_X3_lead mv21 x8 x15 (fun (r22 : Int32) (u22 : PT) => (fun (mv23 : PT) => p_X5_cupBehind mv23 p1 (fun (r24 : Int32) (u24 : PT) => (fun (mv25 : PT) => ((r24 ≤ x13 → K17 (x13, x14, (x15 + 1), mv25)) ∧ (¬ r24 ≤ x13 → nm ((((10 : Int32) * x8) + x15) : Int32) (fun (v26 : Int32) => K17 (r24, v26, (x15 + 1), mv25))))) u24)) u22)) u20)) (fun J19 => ((x15 = (9 : Int32) → J19 ()) ∧ (¬ x15 = (9 : Int32) → p_X3_there n x15 (fun (r27 : Int32) => ((r27 = 0 → K17 (x13, x14, (x15 + 1), mv16)) ∧ (¬ r27 = 0 → J19 ())))))))))))) z17.1 z17.2.1 z17.2.2.1 z17.2.2.2) 1000 (x6, x7, v12, mv9)))))) z10.1 z10.2.1 z10.2.2.1 z10.2.2.2) 1000 (r4, (-9 : Int32), (0 : Int32), mv5)) u4)) u2)) ∧ (¬ r1 = 0 → p_X5_refuse rf r1 (fun (r28 : Int32) (u28 : F1) => (fun (rfv29 : F1) => post r28 (m, rfv29)) u28))))
set_option maxHeartbeats 4000000 in
set_option maxRecDepth 100000 in
theorem w_X5_join {p : Program} {l : Launch} {e : Env} {s : State} {mi : MethodId} {args : Array Value} {below : List Frame} {meth : Method} {co : Code} {D : va_G} {cI cQ : ClassId} {A : Nat → Prop} {Q : State → Prop} (x : Nat) (an : Nat → Nat) (am : Nat → Nat) (aq : Nat → Nat) (ap : Nat → Nat) (b : Nat → Nat → Nat) (al : Nat → Nat) (au : Nat → Nat) (re : Nat) (pq : Int32) (n : PT) (m : PT) (rf : F1) (p1 : Int32) {post : Int32 → PT × F1 → Prop} (C : xC p s mi args co cX5_join RX5 8 D (tyL cI cQ) A) (hret : ∀ (pc : Nat) (r : Int32) (u : PT × F1) (lv : List (Nat × Value)), decode cX5_join pc = .ok (.ireturn, 1) → post r u → xG p l e (rmL 5 0 0 113) s mi args below meth co D A 8 Q 0 0 pc [.int r] [gObj x an am aq ap al au re pq, gPar cI an n, gPar cI am u.1, gA cI re 7 u.2] lv) (hw : p_X5_join n m rf p1 post) : xG p l e (rmL 5 0 0 113) s mi args below meth co D A 8 Q 0 0 0 [] [gObj x an am aq ap al au re pq, gPar cI an n, gPar cI am m, gA cI re 7 rf] [(0, .ref x), (1, .int p1)] := by
  unfold p_X5_join at hw
  try dsimp only at hw
  show xG p l e (rmL 5 0 0 113) s mi args below meth co D A 8 Q 0 0 0 [] [gObj x an am aq ap al au re pq, gPar cI an n, gPar cI am m, gA cI re 7 rf] [(0, .ref x), (1, .int p1)]
  refine g_iload_n C dX5_join_0 1 rfl rfl ?_
  refine g_iconst (v := 0) C dX5_join_1 rfl rfl ?_
  refine g_bipush (v := 60) C dX5_join_2 (by decide) rfl ?_
  refine g_callSi (As := [.int p1, .int (0 : Int32), .int (60 : Int32)]) (gr := [gObj x an am aq ap al au re pq, gPar cI an n, gPar cI am m, gA cI re 7 rf]) C (c_X5_outside l D cI cQ   p1 (0 : Int32) (60 : Int32) _) dX5_join_4 ⟨ml_X5_47, kS_X5_outside⟩ ⟨Nat.le_of_ble_eq_true rfl, Nat.le_of_ble_eq_true rfl⟩ ⟨Nat.le_refl _, Nat.le_refl _⟩ [0, 1, 2, 3] 4 rfl pmb_0_1_2_3 rfl rfl rfl (Nat.le_of_ble_eq_true rfl) rfl (fun (u : Unit) => [gObj x an am aq ap al au re pq, gPar cI an n, gPar cI am m, gA cI re 7 rf]) [0, 1, 2, 3] 4 (fun _ => rfl) pmb_0_1_2_3 (fun _ => rfl) hw (fun r1 u1 hw => ?_)
  refine g_istore_n (v := r1) C dX5_join_7 rfl (Nat.le_of_ble_eq_true rfl) (lv' := [(2, .int r1), (0, .ref x), (1, .int p1)]) rfl rfl ?_
  refine g_iload_n C dX5_join_8 0 rfl rfl ?_
  refine g_if_eq (tgt := 18) C dX5_join_9 (by decide) rfl hw (fun _ hw => ?_) (fun _ hw => ?_)
  · refine g_aload_n C dX5_join_18 1 rfl rfl ?_
    refine g_callVv (As := []) (gr := [gA cI re 7 rf]) C (c_X5_think l D cI cQ x an am aq ap b al au re pq n m  _) dX5_join_19 ⟨ml_X5_137, kV_X5_think⟩ ⟨Nat.le_of_ble_eq_true rfl, Nat.le_of_ble_eq_true rfl⟩ ⟨Nat.le_refl _, Nat.le_refl _⟩ rfl rfl 0 0 rfl rfl [0, 1, 2, 3] 4 rfl pmb_0_1_2_3 rfl rfl rfl (Nat.le_of_ble_eq_true rfl) rfl (fun (u : PT) => [gObj x an am aq ap al au re pq, gPar cI an n, gPar cI am u, gA cI re 7 rf]) [0, 1, 2, 3] 4 (fun _ => rfl) pmb_0_1_2_3 (fun _ => rfl) hw (fun u2 hw => ?_)
    obtain ⟨mv3, rfl⟩ : ∃ z, z = u2 := ⟨_, rfl⟩
    refine g_aload_n C dX5_join_22 1 rfl rfl ?_
    refine g_iload_n C dX5_join_23 2 rfl rfl ?_
    refine g_callVi (As := [.int p1]) (gr := [gPar cI an n, gA cI re 7 rf]) C (c_X5_cupBehind l D cI cQ x an am aq ap b al au re pq mv3 p1 _) dX5_join_24 ⟨ml_X5_156, kV_X5_cupBehind⟩ ⟨Nat.le_of_ble_eq_true rfl, Nat.le_of_ble_eq_true rfl⟩ ⟨Nat.le_refl _, Nat.le_refl _⟩ rfl rfl 0 0 rfl rfl [0, 2, 1, 3] 4 rfl pmb_0_2_1_3 rfl rfl rfl (Nat.le_of_ble_eq_true rfl) rfl (fun (u : PT) => [gObj x an am aq ap al au re pq, gPar cI an n, gPar cI am u, gA cI re 7 rf]) [0, 2, 1, 3] 4 (fun _ => rfl) pmb_0_2_1_3 (fun _ => rfl) hw (fun r4 u4 hw => ?_)
    obtain ⟨mv5, rfl⟩ : ∃ z, z = u4 := ⟨_, rfl⟩
    refine g_istore_n (v := r4) C dX5_join_27 rfl (Nat.le_of_ble_eq_true rfl) (lv' := [(3, .int r4), (2, .int r1), (0, .ref x), (1, .int p1)]) rfl rfl ?_
    refine g_bipush (v := -9) C dX5_join_28 (by decide) rfl ?_
    refine g_istore (v := (-9 : Int32)) C dX5_join_30 rfl (Nat.le_of_ble_eq_true rfl) (lv' := [(4, .int (-9 : Int32)), (3, .int r4), (2, .int r1), (0, .ref x), (1, .int p1)]) rfl rfl ?_
    refine g_iconst (v := 0) C dX5_join_32 rfl rfl ?_
    refine g_istore (v := (0 : Int32)) C dX5_join_33 rfl (Nat.le_of_ble_eq_true rfl) (lv' := [(5, .int (0 : Int32)), (4, .int (-9 : Int32)), (3, .int r4), (2, .int r1), (0, .ref x), (1, .int p1)]) rfl rfl ?_
    refine g_lv [4, 5, 2, 1, 0] rfl ?_
    refine lpN_ind (G := (fun (z10 : Int32 × Int32 × Int32 × PT) => (fun (x6 : Int32) (x7 : Int32) (x8 : Int32) (mv9 : PT) => xG p l e (rmL 5 0 0 113) s mi args below meth co D A 8 Q 0 0 35 [] [gObj x an am aq ap al au re pq, gPar cI an n, gPar cI am mv9, gA cI re 7 rf] [(0, .ref x), (1, .int p1), (3, .int x6), (4, .int x7), (5, .int x8)]) z10.1 z10.2.1 z10.2.2.1 z10.2.2.2)) ?_ 1000 (r4, (-9 : Int32), (0 : Int32), mv5) hw
    rintro K10 ⟨x6, x7, x8, mv9⟩ ih10 hw
    show xG p l e (rmL 5 0 0 113) s mi args below meth co D A 8 Q 0 0 35 [] [gObj x an am aq ap al au re pq, gPar cI an n, gPar cI am mv9, gA cI re 7 rf] [(0, .ref x), (1, .int p1), (3, .int x6), (4, .int x7), (5, .int x8)]
    refine g_iload C dX5_join_35 4 rfl rfl ?_
    refine g_aload_n C dX5_join_37 0 rfl rfl ?_
    refine g_get (v := .ref (an 0)) (ci := 4) C dX5_join_38 inw_X5 rfl 0 0 0 rfl rfl (Nat.le_of_ble_eq_true rfl) rfl fl_X5_10 rfl rfl ?_
    refine g_callVi (As := []) (gr := [gObj x an am aq ap al au re pq, gPar cI am mv9, gA cI re 7 rf]) C (c_X3_houses l D cI cQ an n  _) dX5_join_41 ⟨ml_X5_103, kV_X3_houses⟩ ⟨Nat.le_of_ble_eq_true rfl, Nat.le_of_ble_eq_true rfl⟩ ⟨Nat.le_refl _, Nat.le_refl _⟩ rfl rfl 0 0 rfl rfl [1, 0, 2, 3] 4 rfl pmb_1_0_2_3 rfl rfl rfl (Nat.le_of_ble_eq_true rfl) rfl (fun (u : Unit) => [gObj x an am aq ap al au re pq, gPar cI an n, gPar cI am mv9, gA cI re 7 rf]) [1, 0, 2, 3] 4 (fun _ => rfl) pmb_1_0_2_3 (fun _ => rfl) hw (fun r11 u11 hw => ?_)
    refine g_icmp_ge (tgt := 150) C dX5_join_44 (by decide) rfl hw (fun _ hw => ?_) (fun _ hw => ?_)
    · refine g_iload C dX5_join_150 3 rfl rfl ?_
      exact hret 152 x7 (mv9, rf) _ dX5_join_152 hw
    · refine g_iload C dX5_join_47 4 rfl rfl ?_
      refine g_iconst (v := 1) C dX5_join_49 rfl rfl ?_
      refine g_iadd C dX5_join_50 rfl ?_
      refine nm_el hw (fun v12 ev12 hw => ?_)
      refine g_istore (v := v12) C dX5_join_51 ev12.symm (Nat.le_of_ble_eq_true rfl) (lv' := [(6, .int v12), (0, .ref x), (1, .int p1), (3, .int x6), (4, .int x7), (5, .int x8)]) rfl rfl ?_
      refine g_lv [1, 2, 3, 4, 5, 0] rfl ?_
      refine lpN_ind (G := (fun (z17 : Int32 × Int32 × Int32 × PT) => (fun (x13 : Int32) (x14 : Int32) (x15 : Int32) (mv16 : PT) => xG p l e (rmL 5 0 0 113) s mi args below meth co D A 8 Q 0 0 53 [] [gObj x an am aq ap al au re pq, gPar cI an n, gPar cI am mv16, gA cI re 7 rf] [(0, .ref x), (1, .int p1), (3, .int x13), (4, .int x14), (5, .int x8), (6, .int x15)]) z17.1 z17.2.1 z17.2.2.1 z17.2.2.2)) ?_ 1000 (x6, x7, v12, mv9) hw
      rintro K17 ⟨x13, x14, x15, mv16⟩ ih17 hw
      show xG p l e (rmL 5 0 0 113) s mi args below meth co D A 8 Q 0 0 53 [] [gObj x an am aq ap al au re pq, gPar cI an n, gPar cI am mv16, gA cI re 7 rf] [(0, .ref x), (1, .int p1), (3, .int x13), (4, .int x14), (5, .int x8), (6, .int x15)]
      refine g_iload C dX5_join_53 5 rfl rfl ?_
      refine g_bipush (v := 9) C dX5_join_55 (by decide) rfl ?_
      refine g_icmp_gt (tgt := 144) C dX5_join_57 (by decide) rfl hw (fun _ hw => ?_) (fun _ hw => ?_)
      · refine g_iinc (v := (x8 + 1)) (j := 4) C dX5_join_144 rfl rfl (Nat.le_of_ble_eq_true rfl) (lv' := [(5, .int (x8 + 1)), (0, .ref x), (1, .int p1), (3, .int x13), (4, .int x14), (6, .int x15)]) rfl rfl ?_
        refine g_goto (pc' := 35) C dX5_join_147 (by decide) rfl ?_
        refine g_lv [1, 2, 3, 4, 0] rfl ?_
        exact ih10 (x13, x14, (x8 + 1), mv16) hw
      · refine g_iload C dX5_join_60 5 rfl rfl ?_
        refine g_aload_n C dX5_join_62 0 rfl rfl ?_
        refine g_get (v := .ref (an 0)) (ci := 4) C dX5_join_63 inw_X5 rfl 0 0 0 rfl rfl (Nat.le_of_ble_eq_true rfl) rfl fl_X5_10 rfl rfl ?_
        refine g_iload C dX5_join_66 4 rfl rfl ?_
        refine g_callVi (As := [.int x8]) (gr := [gObj x an am aq ap al au re pq, gPar cI am mv16, gA cI re 7 rf]) C (c_X3_nextOf l D cI cQ an n x8 _) dX5_join_68 ⟨ml_X5_84, kV_X3_nextOf⟩ ⟨Nat.le_of_ble_eq_true rfl, Nat.le_of_ble_eq_true rfl⟩ ⟨Nat.le_refl _, Nat.le_refl _⟩ rfl rfl 0 0 rfl rfl [1, 0, 2, 3] 4 rfl pmb_1_0_2_3 rfl rfl rfl (Nat.le_of_ble_eq_true rfl) rfl (fun (u : Unit) => [gObj x an am aq ap al au re pq, gPar cI an n, gPar cI am mv16, gA cI re 7 rf]) [1, 0, 2, 3] 4 (fun _ => rfl) pmb_1_0_2_3 (fun _ => rfl) hw (fun r18 u18 hw => ?_)
        refine g_icmp_eq (tgt := 138) C dX5_join_71 (by decide) rfl hw (fun _ hw => ?_) (fun _ hw => ?_)
        · refine g_iinc (v := (x15 + 1)) (j := 5) C dX5_join_138 rfl rfl (Nat.le_of_ble_eq_true rfl) (lv' := [(6, .int (x15 + 1)), (0, .ref x), (1, .int p1), (3, .int x13), (4, .int x14), (5, .int x8)]) rfl rfl ?_
          refine g_goto (pc' := 53) C dX5_join_141 (by decide) rfl ?_
          refine g_lv [1, 2, 3, 4, 5, 0] rfl ?_
          exact ih17 (x13, x14, (x15 + 1), mv16) hw
        · refine g_iload C dX5_join_74 5 rfl rfl ?_
          refine g_bipush (v := 9) C dX5_join_76 (by decide) rfl ?_
          refine jn_el hw (fun (z19 : Unit) => xG p l e (rmL 5 0 0 113) s mi args below meth co D A 8 Q 0 0 96 [] [gObj x an am aq ap al au re pq, gPar cI an n, gPar cI am mv16, gA cI re 7 rf] [(0, .ref x), (1, .int p1), (3, .int x13), (4, .int x14), (5, .int x8), (6, .int x15)]) ?_ ?_
          · rintro _ hw
            show xG p l e (rmL 5 0 0 113) s mi args below meth co D A 8 Q 0 0 96 [] [gObj x an am aq ap al au re pq, gPar cI an n, gPar cI am mv16, gA cI re 7 rf] [(0, .ref x), (1, .int p1), (3, .int x13), (4, .int x14), (5, .int x8), (6, .int x15)]
            refine g_aload_n C dX5_join_96 0 rfl rfl ?_
            refine g_callVv (As := []) (gr := [gA cI re 7 rf]) C (c_X5_think l D cI cQ x an am aq ap b al au re pq n mv16  _) dX5_join_97 ⟨ml_X5_137, kV_X5_think⟩ ⟨Nat.le_of_ble_eq_true rfl, Nat.le_of_ble_eq_true rfl⟩ ⟨Nat.le_refl _, Nat.le_refl _⟩ rfl rfl 0 0 rfl rfl [0, 1, 2, 3] 4 rfl pmb_0_1_2_3 rfl rfl rfl (Nat.le_of_ble_eq_true rfl) rfl (fun (u : PT) => [gObj x an am aq ap al au re pq, gPar cI an n, gPar cI am u, gA cI re 7 rf]) [0, 1, 2, 3] 4 (fun _ => rfl) pmb_0_1_2_3 (fun _ => rfl) hw (fun u20 hw => ?_)
            obtain ⟨mv21, rfl⟩ : ∃ z, z = u20 := ⟨_, rfl⟩
            refine g_aload_n C dX5_join_100 0 rfl rfl ?_
            refine g_get (v := .ref (am 0)) (ci := 4) C dX5_join_101 inw_X5 rfl 0 0 1 rfl rfl (Nat.le_of_ble_eq_true rfl) rfl fl_X5_16 rfl rfl ?_
            refine g_iload C dX5_join_104 4 rfl rfl ?_
            refine g_iload C dX5_join_106 5 rfl rfl ?_
            refine g_callVi (As := [.int x8, .int x15]) (gr := [gObj x an am aq ap al au re pq, gPar cI an n, gA cI re 7 rf]) C (c_X3_lead l D cI cQ am mv21 x8 x15 _) dX5_join_108 ⟨ml_X5_110, kV_X3_lead⟩ ⟨Nat.le_of_ble_eq_true rfl, Nat.le_of_ble_eq_true rfl⟩ ⟨Nat.le_refl _, Nat.le_refl _⟩ rfl rfl 0 0 rfl rfl [2, 0, 1, 3] 4 rfl pmb_2_0_1_3 rfl rfl rfl (Nat.le_of_ble_eq_true rfl) rfl (fun (u : PT) => [gObj x an am aq ap al au re pq, gPar cI an n, gPar cI am u, gA cI re 7 rf]) [1, 2, 0, 3] 4 (fun _ => rfl) pmb_1_2_0_3 (fun _ => rfl) hw (fun r22 u22 hw => ?_)
            obtain ⟨mv23, rfl⟩ : ∃ z, z = u22 := ⟨_, rfl⟩
            refine g_pop C dX5_join_111 rfl rfl ?_
            refine g_aload_n C dX5_join_112 0 rfl rfl ?_
            refine g_iload_n C dX5_join_113 1 rfl rfl ?_
            refine g_callVi (As := [.int p1]) (gr := [gPar cI an n, gA cI re 7 rf]) C (c_X5_cupBehind l D cI cQ x an am aq ap b al au re pq mv23 p1 _) dX5_join_114 ⟨ml_X5_156, kV_X5_cupBehind⟩ ⟨Nat.le_of_ble_eq_true rfl, Nat.le_of_ble_eq_true rfl⟩ ⟨Nat.le_refl _, Nat.le_refl _⟩ rfl rfl 0 0 rfl rfl [0, 2, 1, 3] 4 rfl pmb_0_2_1_3 rfl rfl rfl (Nat.le_of_ble_eq_true rfl) rfl (fun (u : PT) => [gObj x an am aq ap al au re pq, gPar cI an n, gPar cI am u, gA cI re 7 rf]) [0, 2, 1, 3] 4 (fun _ => rfl) pmb_0_2_1_3 (fun _ => rfl) hw (fun r24 u24 hw => ?_)
            obtain ⟨mv25, rfl⟩ : ∃ z, z = u24 := ⟨_, rfl⟩
            refine g_istore (v := r24) C dX5_join_117 rfl (Nat.le_of_ble_eq_true rfl) (lv' := [(7, .int r24), (0, .ref x), (1, .int p1), (3, .int x13), (4, .int x14), (5, .int x8), (6, .int x15)]) rfl rfl ?_
            refine g_iload C dX5_join_119 0 rfl rfl ?_
            refine g_iload_n C dX5_join_121 3 rfl rfl ?_
            refine g_icmp_le (tgt := 138) C dX5_join_122 (by decide) rfl hw (fun _ hw => ?_) (fun _ hw => ?_)
            · refine g_iinc (v := (x15 + 1)) (j := 6) C dX5_join_138 rfl rfl (Nat.le_of_ble_eq_true rfl) (lv' := [(6, .int (x15 + 1)), (7, .int r24), (0, .ref x), (1, .int p1), (3, .int x13), (4, .int x14), (5, .int x8)]) rfl rfl ?_
              refine g_goto (pc' := 53) C dX5_join_141 (by decide) rfl ?_
              refine g_lv [2, 3, 4, 5, 6, 0] rfl ?_
              exact ih17 (x13, x14, (x15 + 1), mv25) hw
            · refine g_iload C dX5_join_125 0 rfl rfl ?_
              refine g_istore_n (v := r24) C dX5_join_127 rfl (Nat.le_of_ble_eq_true rfl) (lv' := [(3, .int r24), (7, .int r24), (0, .ref x), (1, .int p1), (4, .int x14), (5, .int x8), (6, .int x15)]) rfl rfl ?_
              refine g_bipush (v := 10) C dX5_join_128 (by decide) rfl ?_
              refine g_iload C dX5_join_130 5 rfl rfl ?_
              refine g_imul C dX5_join_132 rfl ?_
              refine g_iload C dX5_join_133 6 rfl rfl ?_
              refine g_iadd C dX5_join_135 rfl ?_
              refine nm_el hw (fun v26 ev26 hw => ?_)
              refine g_istore (v := v26) C dX5_join_136 ev26.symm (Nat.le_of_ble_eq_true rfl) (lv' := [(4, .int v26), (3, .int r24), (7, .int r24), (0, .ref x), (1, .int p1), (5, .int x8), (6, .int x15)]) rfl rfl ?_
              refine g_iinc (v := (x15 + 1)) (j := 6) C dX5_join_138 rfl rfl (Nat.le_of_ble_eq_true rfl) (lv' := [(6, .int (x15 + 1)), (4, .int v26), (3, .int r24), (7, .int r24), (0, .ref x), (1, .int p1), (5, .int x8)]) rfl rfl ?_
              refine g_goto (pc' := 53) C dX5_join_141 (by decide) rfl ?_
              refine g_lv [4, 5, 2, 1, 6, 0] rfl ?_
              exact ih17 (r24, v26, (x15 + 1), mv25) hw
          · intro J19 hJ19 hw
            refine g_icmp_eq (tgt := 96) C dX5_join_78 (by decide) rfl hw (fun _ hw => ?_) (fun _ hw => ?_)
            · exact hJ19 () hw
            · refine g_aload_n C dX5_join_81 0 rfl rfl ?_
              refine g_get (v := .ref (an 0)) (ci := 4) C dX5_join_82 inw_X5 rfl 0 0 0 rfl rfl (Nat.le_of_ble_eq_true rfl) rfl fl_X5_10 rfl rfl ?_
              refine g_iload C dX5_join_85 5 rfl rfl ?_
              refine g_callVi (As := [.int x15]) (gr := [gObj x an am aq ap al au re pq, gPar cI am mv16, gA cI re 7 rf]) C (c_X3_there l D cI cQ an n x15 _) dX5_join_87 ⟨ml_X5_72, kV_X3_there⟩ ⟨Nat.le_of_ble_eq_true rfl, Nat.le_of_ble_eq_true rfl⟩ ⟨Nat.le_refl _, Nat.le_refl _⟩ rfl rfl 0 0 rfl rfl [1, 0, 2, 3] 4 rfl pmb_1_0_2_3 rfl rfl rfl (Nat.le_of_ble_eq_true rfl) rfl (fun (u : Unit) => [gObj x an am aq ap al au re pq, gPar cI an n, gPar cI am mv16, gA cI re 7 rf]) [1, 0, 2, 3] 4 (fun _ => rfl) pmb_1_0_2_3 (fun _ => rfl) hw (fun r27 u27 hw => ?_)
              refine g_if_ne (tgt := 96) C dX5_join_90 (by decide) rfl hw (fun _ hw => ?_) (fun _ hw => ?_)
              · exact hJ19 () hw
              · refine g_goto (pc' := 138) C dX5_join_93 (by decide) rfl ?_
                refine g_iinc (v := (x15 + 1)) (j := 5) C dX5_join_138 rfl rfl (Nat.le_of_ble_eq_true rfl) (lv' := [(6, .int (x15 + 1)), (0, .ref x), (1, .int p1), (3, .int x13), (4, .int x14), (5, .int x8)]) rfl rfl ?_
                refine g_goto (pc' := 53) C dX5_join_141 (by decide) rfl ?_
                refine g_lv [1, 2, 3, 4, 5, 0] rfl ?_
                exact ih17 (x13, x14, (x15 + 1), mv16) hw
  · refine g_aload_n C dX5_join_12 1 rfl rfl ?_
    refine g_iload_n C dX5_join_13 0 rfl rfl ?_
    refine g_callVi (As := [.int r1]) (gr := [gPar cI an n, gPar cI am m]) C (c_X5_refuse l D cI cQ x an am aq ap b al au re pq rf r1 _) dX5_join_14 ⟨ml_X5_51, kV_X5_refuse⟩ ⟨Nat.le_of_ble_eq_true rfl, Nat.le_of_ble_eq_true rfl⟩ ⟨Nat.le_refl _, Nat.le_refl _⟩ rfl rfl 0 0 rfl rfl [0, 3, 1, 2] 4 rfl pmb_0_3_1_2 rfl rfl rfl (Nat.le_of_ble_eq_true rfl) rfl (fun (u : F1) => [gObj x an am aq ap al au re pq, gPar cI an n, gPar cI am m, gA cI re 7 u]) [0, 2, 3, 1] 4 (fun _ => rfl) pmb_0_2_3_1 (fun _ => rfl) hw (fun r28 u28 hw => ?_)
    obtain ⟨rfv29, rfl⟩ : ∃ z, z = u28 := ⟨_, rfl⟩
    exact hret 17 r28 (m, rfv29) _ dX5_join_17 hw
set_option maxRecDepth 100000 in
theorem c_X5_join (l : Launch) (D : va_G) (cI cQ : ClassId) (x : Nat) (an : Nat → Nat) (am : Nat → Nat) (aq : Nat → Nat) (ap : Nat → Nat) (b : Nat → Nat → Nat) (al : Nat → Nat) (au : Nat → Nat) (re : Nat) (pq : Int32) (n : PT) (m : PT) (rf : F1) (p1 : Int32) (post : Int32 → PT × F1 → Prop) (sz : Nat) : Met l yX5_join (wsY yX5_join cX5_join 8 (some .int)) (rmL 5 0 0 113) (xP D (tyL cI cQ) [.ref x, .int p1] [gObj x an am aq ap al au re pq, gPar cI an n, gPar cI am m, gA cI re 7 rf] sz (p_X5_join n m rf p1 post)) (xQi D (tyL cI cQ) post (fun (u : PT × F1) => [gObj x an am aq ap al au re pq, gPar cI an n, gPar cI am u.1, gA cI re 7 u.2]) (va_A [gObj x an am aq ap al au re pq, gPar cI an n, gPar cI am m, gA cI re 7 rf].flatten sz)) 0 0 (va_A [gObj x an am aq ap al au re pq, gPar cI an n, gPar cI am m, gA cI re 7 rf].flatten sz) :=
  Met_i pn_X5 (Nat.le_of_ble_eq_true rfl) (fun p e s mi below meth co A Q _ C hret hw => w_X5_join x an am aq ap b al au re pq n m rf p1 C hret hw)
theorem kV_X5_join : Cond.instanceMethod yX5_join ∈ gTbl ∧ Cond.selects yX5_join.cls yX5_join yX5_join ∈ gTbl ∧ Cond.initialized yX5_join.cls ∈ gTbl ∧ Cond.code yX5_join cX5_join 8 (some .int) ∈ gTbl ∧ (yX5_join.cls ≠ "java/lang/invoke/MethodHandle" ∧ yX5_join.cls ≠ "java/lang/invoke/VarHandle" ∧ (parseMethodDescriptor yX5_join.desc).map (fun d => d.parameters.length) = some 1) := ⟨im_X5_join, sl_X5_join, in_X5, cd_X5_join, (by decide +kernel)⟩
set_option maxRecDepth 100000 in
def p_X5_way (n : PT) (rf : F1) (p1 : Int32) (p2 : Int32) (post : Int32 → F1 → Prop) : Prop := p_X3_there n p1 (fun (r1 : Int32) => ((r1 = 0 → p_X5_refuse rf (-1 : Int32) (fun (r8 : Int32) (u8 : F1) => (fun (rfv9 : F1) => post r8 rfv9) u8)) ∧ (¬ r1 = 0 → p_X3_wayBits n p1 (fun (r2 : Int32) => ((p2 = 0 → p_J6_bitCount_0f7a4 r2 (fun (r3 : Int32) => post r3 rf)) ∧ (¬ p2 = 0 → ((p2 = 1 → p_X3_blockedBits n (fun (r4 : Int32) => p_J6_bitCount_0f7a4 (r2 &&& r4) (fun (r5 : Int32) => post r5 rf))) ∧ (¬ p2 = 1 → ((p2 = 2 → post r2 rf) ∧ (¬ p2 = 2 → p_X5_refuse rf (-2 : Int32) (fun (r6 : Int32) (u6 : F1) => (fun (rfv7 : F1) => post r6 rfv7) u6)))))))))))
set_option maxHeartbeats 4000000 in
set_option maxRecDepth 100000 in
theorem w_X5_way {p : Program} {l : Launch} {e : Env} {s : State} {mi : MethodId} {args : Array Value} {below : List Frame} {meth : Method} {co : Code} {D : va_G} {cI cQ : ClassId} {A : Nat → Prop} {Q : State → Prop} (x : Nat) (an : Nat → Nat) (am : Nat → Nat) (aq : Nat → Nat) (ap : Nat → Nat) (b : Nat → Nat → Nat) (al : Nat → Nat) (au : Nat → Nat) (re : Nat) (pq : Int32) (n : PT) (rf : F1) (p1 : Int32) (p2 : Int32) {post : Int32 → F1 → Prop} (C : xC p s mi args co cX5_way RX5 4 D (tyL cI cQ) A) (hret : ∀ (pc : Nat) (r : Int32) (u : F1) (lv : List (Nat × Value)), decode cX5_way pc = .ok (.ireturn, 1) → post r u → xG p l e (rmL 2 0 0 45) s mi args below meth co D A 4 Q 0 0 pc [.int r] [gObj x an am aq ap al au re pq, gPar cI an n, gA cI re 7 u] lv) (hw : p_X5_way n rf p1 p2 post) : xG p l e (rmL 2 0 0 45) s mi args below meth co D A 4 Q 0 0 0 [] [gObj x an am aq ap al au re pq, gPar cI an n, gA cI re 7 rf] [(0, .ref x), (1, .int p1), (2, .int p2)] := by
  unfold p_X5_way at hw
  try dsimp only at hw
  show xG p l e (rmL 2 0 0 45) s mi args below meth co D A 4 Q 0 0 0 [] [gObj x an am aq ap al au re pq, gPar cI an n, gA cI re 7 rf] [(0, .ref x), (1, .int p1), (2, .int p2)]
  refine g_aload_n C dX5_way_0 0 rfl rfl ?_
  refine g_get (v := .ref (an 0)) (ci := 4) C dX5_way_1 inw_X5 rfl 0 0 0 rfl rfl (Nat.le_of_ble_eq_true rfl) rfl fl_X5_10 rfl rfl ?_
  refine g_iload_n C dX5_way_4 1 rfl rfl ?_
  refine g_callVi (As := [.int p1]) (gr := [gObj x an am aq ap al au re pq, gA cI re 7 rf]) C (c_X3_there l D cI cQ an n p1 _) dX5_way_5 ⟨ml_X5_72, kV_X3_there⟩ ⟨Nat.le_of_ble_eq_true rfl, Nat.le_of_ble_eq_true rfl⟩ ⟨Nat.le_refl _, Nat.le_refl _⟩ rfl rfl 0 0 rfl rfl [1, 0, 2] 3 rfl pmb_1_0_2 rfl rfl rfl (Nat.le_of_ble_eq_true rfl) rfl (fun (u : Unit) => [gObj x an am aq ap al au re pq, gPar cI an n, gA cI re 7 rf]) [1, 0, 2] 3 (fun _ => rfl) pmb_1_0_2 (fun _ => rfl) hw (fun r1 u1 hw => ?_)
  refine g_if_ne (tgt := 17) C dX5_way_8 (by decide) rfl hw (fun _ hw => ?_) (fun _ hw => ?_)
  · refine g_aload_n C dX5_way_17 0 rfl rfl ?_
    refine g_get (v := .ref (an 0)) (ci := 4) C dX5_way_18 inw_X5 rfl 0 0 0 rfl rfl (Nat.le_of_ble_eq_true rfl) rfl fl_X5_10 rfl rfl ?_
    refine g_iload_n C dX5_way_21 1 rfl rfl ?_
    refine g_callVi (As := [.int p1]) (gr := [gObj x an am aq ap al au re pq, gA cI re 7 rf]) C (c_X3_wayBits l D cI cQ an n p1 _) dX5_way_22 ⟨ml_X5_173, kV_X3_wayBits⟩ ⟨Nat.le_of_ble_eq_true rfl, Nat.le_of_ble_eq_true rfl⟩ ⟨Nat.le_refl _, Nat.le_refl _⟩ rfl rfl 0 0 rfl rfl [1, 0, 2] 3 rfl pmb_1_0_2 rfl rfl rfl (Nat.le_of_ble_eq_true rfl) rfl (fun (u : Unit) => [gObj x an am aq ap al au re pq, gPar cI an n, gA cI re 7 rf]) [1, 0, 2] 3 (fun _ => rfl) pmb_1_0_2 (fun _ => rfl) hw (fun r2 u2 hw => ?_)
    refine g_istore_n (v := r2) C dX5_way_25 rfl (Nat.le_of_ble_eq_true rfl) (lv' := [(3, .int r2), (0, .ref x), (1, .int p1), (2, .int p2)]) rfl rfl ?_
    refine g_iload_n C dX5_way_26 3 rfl rfl ?_
    rcases Classical.em (p2 = 0) with hs27_0 | hs27_0
    · replace hw := hw.1 hs27_0
      refine g_tswIn (pc' := 52) C dX5_way_27 0 hs27_0 (by decide) (by decide) rfl (by decide) ?_
      refine g_iload_n C dX5_way_52 0 rfl rfl ?_
      refine g_callSi (As := [.int r2]) (gr := [gObj x an am aq ap al au re pq, gPar cI an n, gA cI re 7 rf]) C (c_J6_bitCount_0f7a4 l D cI cQ   r2 _) dX5_way_53 ⟨ml_X5_165, kS_J6_bitCount_0f7a4⟩ ⟨Nat.le_of_ble_eq_true rfl, Nat.le_of_ble_eq_true rfl⟩ ⟨Nat.le_refl _, Nat.le_refl _⟩ [0, 1, 2] 3 rfl pmb_0_1_2 rfl rfl rfl (Nat.le_of_ble_eq_true rfl) rfl (fun (u : Unit) => [gObj x an am aq ap al au re pq, gPar cI an n, gA cI re 7 rf]) [0, 1, 2] 3 (fun _ => rfl) pmb_0_1_2 (fun _ => rfl) hw (fun r3 u3 hw => ?_)
      exact hret 56 r3 rf _ dX5_way_56 hw
    · replace hw := hw.2 hs27_0
      rcases Classical.em (p2 = 1) with hs27_1 | hs27_1
      · replace hw := hw.1 hs27_1
        refine g_tswIn (pc' := 57) C dX5_way_27 1 hs27_1 (by decide) (by decide) rfl (by decide) ?_
        refine g_iload_n C dX5_way_57 0 rfl rfl ?_
        refine g_aload_n C dX5_way_58 1 rfl rfl ?_
        refine g_get (v := .ref (an 0)) (ci := 4) C dX5_way_59 inw_X5 rfl 0 0 0 rfl rfl (Nat.le_of_ble_eq_true rfl) rfl fl_X5_10 rfl rfl ?_
        refine g_callVi (As := []) (gr := [gObj x an am aq ap al au re pq, gA cI re 7 rf]) C (c_X3_blockedBits l D cI cQ an n  _) dX5_way_62 ⟨ml_X5_159, kV_X3_blockedBits⟩ ⟨Nat.le_of_ble_eq_true rfl, Nat.le_of_ble_eq_true rfl⟩ ⟨Nat.le_refl _, Nat.le_refl _⟩ rfl rfl 0 0 rfl rfl [1, 0, 2] 3 rfl pmb_1_0_2 rfl rfl rfl (Nat.le_of_ble_eq_true rfl) rfl (fun (u : Unit) => [gObj x an am aq ap al au re pq, gPar cI an n, gA cI re 7 rf]) [1, 0, 2] 3 (fun _ => rfl) pmb_1_0_2 (fun _ => rfl) hw (fun r4 u4 hw => ?_)
        refine g_iand C dX5_way_65 rfl ?_
        refine g_callSi (As := [.int (r2 &&& r4)]) (gr := [gObj x an am aq ap al au re pq, gPar cI an n, gA cI re 7 rf]) C (c_J6_bitCount_0f7a4 l D cI cQ   (r2 &&& r4) _) dX5_way_66 ⟨ml_X5_165, kS_J6_bitCount_0f7a4⟩ ⟨Nat.le_of_ble_eq_true rfl, Nat.le_of_ble_eq_true rfl⟩ ⟨Nat.le_refl _, Nat.le_refl _⟩ [0, 1, 2] 3 rfl pmb_0_1_2 rfl rfl rfl (Nat.le_of_ble_eq_true rfl) rfl (fun (u : Unit) => [gObj x an am aq ap al au re pq, gPar cI an n, gA cI re 7 rf]) [0, 1, 2] 3 (fun _ => rfl) pmb_0_1_2 (fun _ => rfl) hw (fun r5 u5 hw => ?_)
        exact hret 69 r5 rf _ dX5_way_69 hw
      · replace hw := hw.2 hs27_1
        rcases Classical.em (p2 = 2) with hs27_2 | hs27_2
        · replace hw := hw.1 hs27_2
          refine g_tswIn (pc' := 70) C dX5_way_27 2 hs27_2 (by decide) (by decide) rfl (by decide) ?_
          refine g_iload_n C dX5_way_70 0 rfl rfl ?_
          exact hret 71 r2 rf _ dX5_way_71 hw
        · replace hw := hw.2 hs27_2
          have ht27 : (p2).toInt < 0 ∨ 2 < (p2).toInt := by
            have q0 := lv_neT (a := 0) hs27_0 (by decide)
            have q1 := lv_neT (a := 1) hs27_1 (by decide)
            have q2 := lv_neT (a := 2) hs27_2 (by decide)
            omega
          refine g_tswOut (pc' := 72) C dX5_way_27 ht27 (by decide) ?_
          refine g_aload_n C dX5_way_72 1 rfl rfl ?_
          refine g_bipush (v := -2) C dX5_way_73 (by decide) rfl ?_
          refine g_callVi (As := [.int (-2 : Int32)]) (gr := [gPar cI an n]) C (c_X5_refuse l D cI cQ x an am aq ap b al au re pq rf (-2 : Int32) _) dX5_way_75 ⟨ml_X5_51, kV_X5_refuse⟩ ⟨Nat.le_of_ble_eq_true rfl, Nat.le_of_ble_eq_true rfl⟩ ⟨Nat.le_refl _, Nat.le_refl _⟩ rfl rfl 0 0 rfl rfl [0, 2, 1] 3 rfl pmb_0_2_1 rfl rfl rfl (Nat.le_of_ble_eq_true rfl) rfl (fun (u : F1) => [gObj x an am aq ap al au re pq, gPar cI an n, gA cI re 7 u]) [0, 2, 1] 3 (fun _ => rfl) pmb_0_2_1 (fun _ => rfl) hw (fun r6 u6 hw => ?_)
          obtain ⟨rfv7, rfl⟩ : ∃ z, z = u6 := ⟨_, rfl⟩
          exact hret 78 r6 rfv7 _ dX5_way_78 hw
  · refine g_aload_n C dX5_way_11 0 rfl rfl ?_
    refine g_iconst (v := -1) C dX5_way_12 (by decide) rfl ?_
    refine g_callVi (As := [.int (-1 : Int32)]) (gr := [gPar cI an n]) C (c_X5_refuse l D cI cQ x an am aq ap b al au re pq rf (-1 : Int32) _) dX5_way_13 ⟨ml_X5_51, kV_X5_refuse⟩ ⟨Nat.le_of_ble_eq_true rfl, Nat.le_of_ble_eq_true rfl⟩ ⟨Nat.le_refl _, Nat.le_refl _⟩ rfl rfl 0 0 rfl rfl [0, 2, 1] 3 rfl pmb_0_2_1 rfl rfl rfl (Nat.le_of_ble_eq_true rfl) rfl (fun (u : F1) => [gObj x an am aq ap al au re pq, gPar cI an n, gA cI re 7 u]) [0, 2, 1] 3 (fun _ => rfl) pmb_0_2_1 (fun _ => rfl) hw (fun r8 u8 hw => ?_)
    obtain ⟨rfv9, rfl⟩ : ∃ z, z = u8 := ⟨_, rfl⟩
    exact hret 16 r8 rfv9 _ dX5_way_16 hw
set_option maxRecDepth 100000 in
theorem c_X5_way (l : Launch) (D : va_G) (cI cQ : ClassId) (x : Nat) (an : Nat → Nat) (am : Nat → Nat) (aq : Nat → Nat) (ap : Nat → Nat) (b : Nat → Nat → Nat) (al : Nat → Nat) (au : Nat → Nat) (re : Nat) (pq : Int32) (n : PT) (rf : F1) (p1 : Int32) (p2 : Int32) (post : Int32 → F1 → Prop) (sz : Nat) : Met l yX5_way (wsY yX5_way cX5_way 4 (some .int)) (rmL 2 0 0 45) (xP D (tyL cI cQ) [.ref x, .int p1, .int p2] [gObj x an am aq ap al au re pq, gPar cI an n, gA cI re 7 rf] sz (p_X5_way n rf p1 p2 post)) (xQi D (tyL cI cQ) post (fun (u : F1) => [gObj x an am aq ap al au re pq, gPar cI an n, gA cI re 7 u]) (va_A [gObj x an am aq ap al au re pq, gPar cI an n, gA cI re 7 rf].flatten sz)) 0 0 (va_A [gObj x an am aq ap al au re pq, gPar cI an n, gA cI re 7 rf].flatten sz) :=
  Met_i pn_X5 (Nat.le_of_ble_eq_true rfl) (fun p e s mi below meth co A Q _ C hret hw => w_X5_way x an am aq ap b al au re pq n rf p1 p2 C hret hw)
theorem kV_X5_way : Cond.instanceMethod yX5_way ∈ gTbl ∧ Cond.selects yX5_way.cls yX5_way yX5_way ∈ gTbl ∧ Cond.initialized yX5_way.cls ∈ gTbl ∧ Cond.code yX5_way cX5_way 4 (some .int) ∈ gTbl ∧ (yX5_way.cls ≠ "java/lang/invoke/MethodHandle" ∧ yX5_way.cls ≠ "java/lang/invoke/VarHandle" ∧ (parseMethodDescriptor yX5_way.desc).map (fun d => d.parameters.length) = some 2) := ⟨im_X5_way, sl_X5_way, in_X5, cd_X5_way, (by decide +kernel)⟩
set_option maxRecDepth 100000 in
def p_X5_rowTellsCup (m : PT) (nu : LT) (post : Int32 → PT → Prop) : Prop := lpN (fun (K3 : (Int32 × PT) → Prop) (z3 : Int32 × PT) => (fun (x1 : Int32) (mv2 : PT) => p_X2_size nu (fun (r4 : Int32) => ((r4 ≤ x1 → post (1 : Int32) mv2) ∧ (¬ r4 ≤ x1 → p_X2_at nu x1 (fun (r5 : Int32) => p_X3_inCup mv2 (fun (r6 : Int32) => ((r5 = r6 → p_X3_flow mv2 (fun (r7 : Int32) (u7 : PT) => (fun (mv8 : PT) => K3 ((x1 + 1), mv8)) u7)) ∧ (¬ r5 = r6 → post (0 : Int32) mv2)))))))) z3.1 z3.2) 1000 ((0 : Int32), m)
set_option maxHeartbeats 4000000 in
set_option maxRecDepth 100000 in
theorem w_X5_rowTellsCup {p : Program} {l : Launch} {e : Env} {s : State} {mi : MethodId} {args : Array Value} {below : List Frame} {meth : Method} {co : Code} {D : va_G} {cI cQ : ClassId} {A : Nat → Prop} {Q : State → Prop} (x : Nat) (an : Nat → Nat) (am : Nat → Nat) (aq : Nat → Nat) (ap : Nat → Nat) (b : Nat → Nat → Nat) (al : Nat → Nat) (au : Nat → Nat) (re : Nat) (pq : Int32) (m : PT) (nu : LT) {post : Int32 → PT → Prop} (C : xC p s mi args co cX5_rowTellsCup RX5 2 D (tyL cI cQ) A) (hret : ∀ (pc : Nat) (r : Int32) (u : PT) (lv : List (Nat × Value)), decode cX5_rowTellsCup pc = .ok (.ireturn, 1) → bz r → post r u → xG p l e (rmL 3 0 0 70) s mi args below meth co D A 2 Q 0 0 pc [.int r] [gObj x an am aq ap al au re pq, gPar cI am u, gNum cI au nu] lv) (hw : p_X5_rowTellsCup m nu post) : xG p l e (rmL 3 0 0 70) s mi args below meth co D A 2 Q 0 0 0 [] [gObj x an am aq ap al au re pq, gPar cI am m, gNum cI au nu] [(0, .ref x)] := by
  unfold p_X5_rowTellsCup at hw
  try dsimp only at hw
  show xG p l e (rmL 3 0 0 70) s mi args below meth co D A 2 Q 0 0 0 [] [gObj x an am aq ap al au re pq, gPar cI am m, gNum cI au nu] [(0, .ref x)]
  refine g_iconst (v := 0) C dX5_rowTellsCup_0 rfl rfl ?_
  refine g_istore_n (v := (0 : Int32)) C dX5_rowTellsCup_1 rfl (Nat.le_of_ble_eq_true rfl) (lv' := [(1, .int (0 : Int32)), (0, .ref x)]) rfl rfl ?_
  refine g_lv [1, 0] rfl ?_
  refine lpN_ind (G := (fun (z3 : Int32 × PT) => (fun (x1 : Int32) (mv2 : PT) => xG p l e (rmL 3 0 0 70) s mi args below meth co D A 2 Q 0 0 2 [] [gObj x an am aq ap al au re pq, gPar cI am mv2, gNum cI au nu] [(0, .ref x), (1, .int x1)]) z3.1 z3.2)) ?_ 1000 ((0 : Int32), m) hw
  rintro K3 ⟨x1, mv2⟩ ih3 hw
  show xG p l e (rmL 3 0 0 70) s mi args below meth co D A 2 Q 0 0 2 [] [gObj x an am aq ap al au re pq, gPar cI am mv2, gNum cI au nu] [(0, .ref x), (1, .int x1)]
  refine g_iload_n C dX5_rowTellsCup_2 1 rfl rfl ?_
  refine g_aload_n C dX5_rowTellsCup_3 0 rfl rfl ?_
  refine g_get (v := .ref (au 0)) (ci := 4) C dX5_rowTellsCup_4 inw_X5 rfl 0 0 5 rfl rfl (Nat.le_of_ble_eq_true rfl) rfl fl_X5_39 rfl rfl ?_
  refine g_callVi (As := []) (gr := [gObj x an am aq ap al au re pq, gPar cI am mv2]) C (c_X2_size l D cI cQ au nu  _) dX5_rowTellsCup_7 ⟨ml_X5_224, kV_X2_size⟩ ⟨Nat.le_of_ble_eq_true rfl, Nat.le_of_ble_eq_true rfl⟩ ⟨Nat.le_refl _, Nat.le_refl _⟩ rfl rfl 0 0 rfl rfl [2, 0, 1] 3 rfl pmb_2_0_1 rfl rfl rfl (Nat.le_of_ble_eq_true rfl) rfl (fun (u : Unit) => [gObj x an am aq ap al au re pq, gPar cI am mv2, gNum cI au nu]) [1, 2, 0] 3 (fun _ => rfl) pmb_1_2_0 (fun _ => rfl) hw (fun r4 u4 hw => ?_)
  refine g_icmp_ge (tgt := 47) C dX5_rowTellsCup_10 (by decide) rfl hw (fun _ hw => ?_) (fun _ hw => ?_)
  · refine g_iconst (v := 1) C dX5_rowTellsCup_47 rfl rfl ?_
    exact hret 48 (1 : Int32) mv2 _ dX5_rowTellsCup_48 ⟨rfl, rfl⟩ hw
  · refine g_aload_n C dX5_rowTellsCup_13 0 rfl rfl ?_
    refine g_get (v := .ref (au 0)) (ci := 4) C dX5_rowTellsCup_14 inw_X5 rfl 0 0 5 rfl rfl (Nat.le_of_ble_eq_true rfl) rfl fl_X5_39 rfl rfl ?_
    refine g_iload_n C dX5_rowTellsCup_17 1 rfl rfl ?_
    refine g_callVi (As := [.int x1]) (gr := [gObj x an am aq ap al au re pq, gPar cI am mv2]) C (c_X2_at l D cI cQ au nu x1 _) dX5_rowTellsCup_18 ⟨ml_X5_225, kV_X2_at⟩ ⟨Nat.le_of_ble_eq_true rfl, Nat.le_of_ble_eq_true rfl⟩ ⟨Nat.le_refl _, Nat.le_refl _⟩ rfl rfl 0 0 rfl rfl [2, 0, 1] 3 rfl pmb_2_0_1 rfl rfl rfl (Nat.le_of_ble_eq_true rfl) rfl (fun (u : Unit) => [gObj x an am aq ap al au re pq, gPar cI am mv2, gNum cI au nu]) [1, 2, 0] 3 (fun _ => rfl) pmb_1_2_0 (fun _ => rfl) hw (fun r5 u5 hw => ?_)
    refine g_aload_n C dX5_rowTellsCup_21 0 rfl rfl ?_
    refine g_get (v := .ref (am 0)) (ci := 4) C dX5_rowTellsCup_22 inw_X5 rfl 0 0 1 rfl rfl (Nat.le_of_ble_eq_true rfl) rfl fl_X5_16 rfl rfl ?_
    refine g_callVi (As := []) (gr := [gObj x an am aq ap al au re pq, gNum cI au nu]) C (c_X3_inCup l D cI cQ am mv2  _) dX5_rowTellsCup_25 ⟨ml_X5_119, kV_X3_inCup⟩ ⟨Nat.le_of_ble_eq_true rfl, Nat.le_of_ble_eq_true rfl⟩ ⟨Nat.le_refl _, Nat.le_refl _⟩ rfl rfl 0 0 rfl rfl [1, 0, 2] 3 rfl pmb_1_0_2 rfl rfl rfl (Nat.le_of_ble_eq_true rfl) rfl (fun (u : Unit) => [gObj x an am aq ap al au re pq, gPar cI am mv2, gNum cI au nu]) [1, 0, 2] 3 (fun _ => rfl) pmb_1_0_2 (fun _ => rfl) hw (fun r6 u6 hw => ?_)
    refine g_icmp_eq (tgt := 33) C dX5_rowTellsCup_28 (by decide) rfl hw (fun _ hw => ?_) (fun _ hw => ?_)
    · refine g_aload_n C dX5_rowTellsCup_33 0 rfl rfl ?_
      refine g_get (v := .ref (am 0)) (ci := 4) C dX5_rowTellsCup_34 inw_X5 rfl 0 0 1 rfl rfl (Nat.le_of_ble_eq_true rfl) rfl fl_X5_16 rfl rfl ?_
      refine g_callVi (As := []) (gr := [gObj x an am aq ap al au re pq, gNum cI au nu]) C (c_X3_flow l D cI cQ am mv2  _) dX5_rowTellsCup_37 ⟨ml_X5_152, kV_X3_flow⟩ ⟨Nat.le_of_ble_eq_true rfl, Nat.le_of_ble_eq_true rfl⟩ ⟨Nat.le_refl _, Nat.le_refl _⟩ rfl rfl 0 0 rfl rfl [1, 0, 2] 3 rfl pmb_1_0_2 rfl rfl rfl (Nat.le_of_ble_eq_true rfl) rfl (fun (u : PT) => [gObj x an am aq ap al au re pq, gPar cI am u, gNum cI au nu]) [1, 0, 2] 3 (fun _ => rfl) pmb_1_0_2 (fun _ => rfl) hw (fun r7 u7 hw => ?_)
      obtain ⟨mv8, rfl⟩ : ∃ z, z = u7 := ⟨_, rfl⟩
      refine g_pop C dX5_rowTellsCup_40 rfl rfl ?_
      refine g_iinc (v := (x1 + 1)) (j := 1) C dX5_rowTellsCup_41 rfl rfl (Nat.le_of_ble_eq_true rfl) (lv' := [(1, .int (x1 + 1)), (0, .ref x)]) rfl rfl ?_
      refine g_goto (pc' := 2) C dX5_rowTellsCup_44 (by decide) rfl ?_
      refine g_lv [1, 0] rfl ?_
      exact ih3 ((x1 + 1), mv8) hw
    · refine g_iconst (v := 0) C dX5_rowTellsCup_31 rfl rfl ?_
      exact hret 32 (0 : Int32) mv2 _ dX5_rowTellsCup_32 ⟨rfl, rfl⟩ hw
set_option maxRecDepth 100000 in
theorem c_X5_rowTellsCup (l : Launch) (D : va_G) (cI cQ : ClassId) (x : Nat) (an : Nat → Nat) (am : Nat → Nat) (aq : Nat → Nat) (ap : Nat → Nat) (b : Nat → Nat → Nat) (al : Nat → Nat) (au : Nat → Nat) (re : Nat) (pq : Int32) (m : PT) (nu : LT) (post : Int32 → PT → Prop) (sz : Nat) : Met l yX5_rowTellsCup (wsY yX5_rowTellsCup cX5_rowTellsCup 2 (some .boolean)) (rmL 3 0 0 70) (xP D (tyL cI cQ) [.ref x] [gObj x an am aq ap al au re pq, gPar cI am m, gNum cI au nu] sz (p_X5_rowTellsCup m nu post)) (xQi D (tyL cI cQ) post (fun (u : PT) => [gObj x an am aq ap al au re pq, gPar cI am u, gNum cI au nu]) (va_A [gObj x an am aq ap al au re pq, gPar cI am m, gNum cI au nu].flatten sz)) 0 0 (va_A [gObj x an am aq ap al au re pq, gPar cI am m, gNum cI au nu].flatten sz) :=
  Met_z pn_X5 (Nat.le_of_ble_eq_true rfl) (fun p e s mi below meth co A Q _ C hret hw => w_X5_rowTellsCup x an am aq ap b al au re pq m nu C hret hw)
theorem kV_X5_rowTellsCup : Cond.instanceMethod yX5_rowTellsCup ∈ gTbl ∧ Cond.selects yX5_rowTellsCup.cls yX5_rowTellsCup yX5_rowTellsCup ∈ gTbl ∧ Cond.initialized yX5_rowTellsCup.cls ∈ gTbl ∧ Cond.code yX5_rowTellsCup cX5_rowTellsCup 2 (some .boolean) ∈ gTbl ∧ (yX5_rowTellsCup.cls ≠ "java/lang/invoke/MethodHandle" ∧ yX5_rowTellsCup.cls ≠ "java/lang/invoke/VarHandle" ∧ (parseMethodDescriptor yX5_rowTellsCup.desc).map (fun d => d.parameters.length) = some 0) := ⟨im_X5_rowTellsCup, sl_X5_rowTellsCup, in_X5, cd_X5_rowTellsCup, (by decide +kernel)⟩
set_option maxRecDepth 100000 in
def p_X5_whichBlocked (n : PT) (m : PT) (nu : LT) (post : Int32 → PT → Prop) : Prop := lpN (fun (K4 : (Int32 × Int32 × PT) → Prop) (z4 : Int32 × Int32 × PT) => (fun (x1 : Int32) (x2 : Int32) (mv3 : PT) => p_X3_houses n (fun (r5 : Int32) => ((r5 ≤ x2 → post x1 mv3) ∧ (¬ r5 ≤ x2 → p_X3_isBlocked n x2 (fun (r6 : Int32) => ((r6 = 0 → p_X5_think n mv3 (fun (u7 : PT) => (fun (mv8 : PT) => p_X3_block mv8 x2 (fun (u9 : PT) => (fun (mv10 : PT) => p_X5_rowTellsCup mv10 nu (fun (r11 : Int32) (u11 : PT) => (fun (mv12 : PT) => ((r11 = 0 → K4 (x1, (x2 + 1), mv12)) ∧ (¬ r11 = 0 → nm ((x1 ||| ((1 : Int32) <<< (x2 &&& 31))) : Int32) (fun (v13 : Int32) => K4 (v13, (x2 + 1), mv12))))) u11)) u9)) u7)) ∧ (¬ r6 = 0 → K4 (x1, (x2 + 1), mv3)))))))) z4.1 z4.2.1 z4.2.2) 1000 ((0 : Int32), (0 : Int32), m)
set_option maxHeartbeats 4000000 in
set_option maxRecDepth 100000 in
theorem w_X5_whichBlocked {p : Program} {l : Launch} {e : Env} {s : State} {mi : MethodId} {args : Array Value} {below : List Frame} {meth : Method} {co : Code} {D : va_G} {cI cQ : ClassId} {A : Nat → Prop} {Q : State → Prop} (x : Nat) (an : Nat → Nat) (am : Nat → Nat) (aq : Nat → Nat) (ap : Nat → Nat) (b : Nat → Nat → Nat) (al : Nat → Nat) (au : Nat → Nat) (re : Nat) (pq : Int32) (n : PT) (m : PT) (nu : LT) {post : Int32 → PT → Prop} (C : xC p s mi args co cX5_whichBlocked RX5 3 D (tyL cI cQ) A) (hret : ∀ (pc : Nat) (r : Int32) (u : PT) (lv : List (Nat × Value)), decode cX5_whichBlocked pc = .ok (.ireturn, 1) → post r u → xG p l e (rmL 4 0 0 91) s mi args below meth co D A 3 Q 0 0 pc [.int r] [gObj x an am aq ap al au re pq, gPar cI an n, gPar cI am u, gNum cI au nu] lv) (hw : p_X5_whichBlocked n m nu post) : xG p l e (rmL 4 0 0 91) s mi args below meth co D A 3 Q 0 0 0 [] [gObj x an am aq ap al au re pq, gPar cI an n, gPar cI am m, gNum cI au nu] [(0, .ref x)] := by
  unfold p_X5_whichBlocked at hw
  try dsimp only at hw
  show xG p l e (rmL 4 0 0 91) s mi args below meth co D A 3 Q 0 0 0 [] [gObj x an am aq ap al au re pq, gPar cI an n, gPar cI am m, gNum cI au nu] [(0, .ref x)]
  refine g_iconst (v := 0) C dX5_whichBlocked_0 rfl rfl ?_
  refine g_istore_n (v := (0 : Int32)) C dX5_whichBlocked_1 rfl (Nat.le_of_ble_eq_true rfl) (lv' := [(1, .int (0 : Int32)), (0, .ref x)]) rfl rfl ?_
  refine g_iconst (v := 0) C dX5_whichBlocked_2 rfl rfl ?_
  refine g_istore_n (v := (0 : Int32)) C dX5_whichBlocked_3 rfl (Nat.le_of_ble_eq_true rfl) (lv' := [(2, .int (0 : Int32)), (1, .int (0 : Int32)), (0, .ref x)]) rfl rfl ?_
  refine g_lv [2, 1, 0] rfl ?_
  refine lpN_ind (G := (fun (z4 : Int32 × Int32 × PT) => (fun (x1 : Int32) (x2 : Int32) (mv3 : PT) => xG p l e (rmL 4 0 0 91) s mi args below meth co D A 3 Q 0 0 4 [] [gObj x an am aq ap al au re pq, gPar cI an n, gPar cI am mv3, gNum cI au nu] [(0, .ref x), (1, .int x1), (2, .int x2)]) z4.1 z4.2.1 z4.2.2)) ?_ 1000 ((0 : Int32), (0 : Int32), m) hw
  rintro K4 ⟨x1, x2, mv3⟩ ih4 hw
  show xG p l e (rmL 4 0 0 91) s mi args below meth co D A 3 Q 0 0 4 [] [gObj x an am aq ap al au re pq, gPar cI an n, gPar cI am mv3, gNum cI au nu] [(0, .ref x), (1, .int x1), (2, .int x2)]
  refine g_iload_n C dX5_whichBlocked_4 2 rfl rfl ?_
  refine g_aload_n C dX5_whichBlocked_5 0 rfl rfl ?_
  refine g_get (v := .ref (an 0)) (ci := 4) C dX5_whichBlocked_6 inw_X5 rfl 0 0 0 rfl rfl (Nat.le_of_ble_eq_true rfl) rfl fl_X5_10 rfl rfl ?_
  refine g_callVi (As := []) (gr := [gObj x an am aq ap al au re pq, gPar cI am mv3, gNum cI au nu]) C (c_X3_houses l D cI cQ an n  _) dX5_whichBlocked_9 ⟨ml_X5_103, kV_X3_houses⟩ ⟨Nat.le_of_ble_eq_true rfl, Nat.le_of_ble_eq_true rfl⟩ ⟨Nat.le_refl _, Nat.le_refl _⟩ rfl rfl 0 0 rfl rfl [1, 0, 2, 3] 4 rfl pmb_1_0_2_3 rfl rfl rfl (Nat.le_of_ble_eq_true rfl) rfl (fun (u : Unit) => [gObj x an am aq ap al au re pq, gPar cI an n, gPar cI am mv3, gNum cI au nu]) [1, 0, 2, 3] 4 (fun _ => rfl) pmb_1_0_2_3 (fun _ => rfl) hw (fun r5 u5 hw => ?_)
  refine g_icmp_ge (tgt := 60) C dX5_whichBlocked_12 (by decide) rfl hw (fun _ hw => ?_) (fun _ hw => ?_)
  · refine g_iload_n C dX5_whichBlocked_60 1 rfl rfl ?_
    exact hret 61 x1 mv3 _ dX5_whichBlocked_61 hw
  · refine g_aload_n C dX5_whichBlocked_15 0 rfl rfl ?_
    refine g_get (v := .ref (an 0)) (ci := 4) C dX5_whichBlocked_16 inw_X5 rfl 0 0 0 rfl rfl (Nat.le_of_ble_eq_true rfl) rfl fl_X5_10 rfl rfl ?_
    refine g_iload_n C dX5_whichBlocked_19 2 rfl rfl ?_
    refine g_callVi (As := [.int x2]) (gr := [gObj x an am aq ap al au re pq, gPar cI am mv3, gNum cI au nu]) C (c_X3_isBlocked l D cI cQ an n x2 _) dX5_whichBlocked_20 ⟨ml_X5_87, kV_X3_isBlocked⟩ ⟨Nat.le_of_ble_eq_true rfl, Nat.le_of_ble_eq_true rfl⟩ ⟨Nat.le_refl _, Nat.le_refl _⟩ rfl rfl 0 0 rfl rfl [1, 0, 2, 3] 4 rfl pmb_1_0_2_3 rfl rfl rfl (Nat.le_of_ble_eq_true rfl) rfl (fun (u : Unit) => [gObj x an am aq ap al au re pq, gPar cI an n, gPar cI am mv3, gNum cI au nu]) [1, 0, 2, 3] 4 (fun _ => rfl) pmb_1_0_2_3 (fun _ => rfl) hw (fun r6 u6 hw => ?_)
    refine g_if_eq (tgt := 29) C dX5_whichBlocked_23 (by decide) rfl hw (fun _ hw => ?_) (fun _ hw => ?_)
    · refine g_aload_n C dX5_whichBlocked_29 0 rfl rfl ?_
      refine g_callVv (As := []) (gr := [gNum cI au nu]) C (c_X5_think l D cI cQ x an am aq ap b al au re pq n mv3  _) dX5_whichBlocked_30 ⟨ml_X5_137, kV_X5_think⟩ ⟨Nat.le_of_ble_eq_true rfl, Nat.le_of_ble_eq_true rfl⟩ ⟨Nat.le_refl _, Nat.le_refl _⟩ rfl rfl 0 0 rfl rfl [0, 1, 2, 3] 4 rfl pmb_0_1_2_3 rfl rfl rfl (Nat.le_of_ble_eq_true rfl) rfl (fun (u : PT) => [gObj x an am aq ap al au re pq, gPar cI an n, gPar cI am u, gNum cI au nu]) [0, 1, 2, 3] 4 (fun _ => rfl) pmb_0_1_2_3 (fun _ => rfl) hw (fun u7 hw => ?_)
      obtain ⟨mv8, rfl⟩ : ∃ z, z = u7 := ⟨_, rfl⟩
      refine g_aload_n C dX5_whichBlocked_33 0 rfl rfl ?_
      refine g_get (v := .ref (am 0)) (ci := 4) C dX5_whichBlocked_34 inw_X5 rfl 0 0 1 rfl rfl (Nat.le_of_ble_eq_true rfl) rfl fl_X5_16 rfl rfl ?_
      refine g_iload_n C dX5_whichBlocked_37 2 rfl rfl ?_
      refine g_callVv (As := [.int x2]) (gr := [gObj x an am aq ap al au re pq, gPar cI an n, gNum cI au nu]) C (c_X3_block l D cI cQ am mv8 x2 _) dX5_whichBlocked_38 ⟨ml_X5_170, kV_X3_block⟩ ⟨Nat.le_of_ble_eq_true rfl, Nat.le_of_ble_eq_true rfl⟩ ⟨Nat.le_refl _, Nat.le_refl _⟩ rfl rfl 0 0 rfl rfl [2, 0, 1, 3] 4 rfl pmb_2_0_1_3 rfl rfl rfl (Nat.le_of_ble_eq_true rfl) rfl (fun (u : PT) => [gObj x an am aq ap al au re pq, gPar cI an n, gPar cI am u, gNum cI au nu]) [1, 2, 0, 3] 4 (fun _ => rfl) pmb_1_2_0_3 (fun _ => rfl) hw (fun u9 hw => ?_)
      obtain ⟨mv10, rfl⟩ : ∃ z, z = u9 := ⟨_, rfl⟩
      refine g_aload_n C dX5_whichBlocked_41 0 rfl rfl ?_
      refine g_callVi (As := []) (gr := [gPar cI an n]) C (c_X5_rowTellsCup l D cI cQ x an am aq ap b al au re pq mv10 nu  _) dX5_whichBlocked_42 ⟨ml_X5_176, kV_X5_rowTellsCup⟩ ⟨Nat.le_of_ble_eq_true rfl, Nat.le_of_ble_eq_true rfl⟩ ⟨Nat.le_refl _, Nat.le_refl _⟩ rfl rfl 0 0 rfl rfl [0, 2, 3, 1] 4 rfl pmb_0_2_3_1 rfl rfl rfl (Nat.le_of_ble_eq_true rfl) rfl (fun (u : PT) => [gObj x an am aq ap al au re pq, gPar cI an n, gPar cI am u, gNum cI au nu]) [0, 3, 1, 2] 4 (fun _ => rfl) pmb_0_3_1_2 (fun _ => rfl) hw (fun r11 u11 hw => ?_)
      obtain ⟨mv12, rfl⟩ : ∃ z, z = u11 := ⟨_, rfl⟩
      refine g_if_eq (tgt := 54) C dX5_whichBlocked_45 (by decide) rfl hw (fun _ hw => ?_) (fun _ hw => ?_)
      · refine g_iinc (v := (x2 + 1)) (j := 2) C dX5_whichBlocked_54 rfl rfl (Nat.le_of_ble_eq_true rfl) (lv' := [(2, .int (x2 + 1)), (0, .ref x), (1, .int x1)]) rfl rfl ?_
        refine g_goto (pc' := 4) C dX5_whichBlocked_57 (by decide) rfl ?_
        refine g_lv [1, 2, 0] rfl ?_
        exact ih4 (x1, (x2 + 1), mv12) hw
      · refine g_iload_n C dX5_whichBlocked_48 1 rfl rfl ?_
        refine g_iconst (v := 1) C dX5_whichBlocked_49 rfl rfl ?_
        refine g_iload_n C dX5_whichBlocked_50 2 rfl rfl ?_
        refine g_ishl C dX5_whichBlocked_51 rfl ?_
        refine g_ior C dX5_whichBlocked_52 rfl ?_
        refine nm_el hw (fun v13 ev13 hw => ?_)
        refine g_istore_n (v := v13) C dX5_whichBlocked_53 ev13.symm (Nat.le_of_ble_eq_true rfl) (lv' := [(1, .int v13), (0, .ref x), (2, .int x2)]) rfl rfl ?_
        refine g_iinc (v := (x2 + 1)) (j := 2) C dX5_whichBlocked_54 rfl rfl (Nat.le_of_ble_eq_true rfl) (lv' := [(2, .int (x2 + 1)), (1, .int v13), (0, .ref x)]) rfl rfl ?_
        refine g_goto (pc' := 4) C dX5_whichBlocked_57 (by decide) rfl ?_
        refine g_lv [2, 1, 0] rfl ?_
        exact ih4 (v13, (x2 + 1), mv12) hw
    · refine g_goto (pc' := 54) C dX5_whichBlocked_26 (by decide) rfl ?_
      refine g_iinc (v := (x2 + 1)) (j := 2) C dX5_whichBlocked_54 rfl rfl (Nat.le_of_ble_eq_true rfl) (lv' := [(2, .int (x2 + 1)), (0, .ref x), (1, .int x1)]) rfl rfl ?_
      refine g_goto (pc' := 4) C dX5_whichBlocked_57 (by decide) rfl ?_
      refine g_lv [1, 2, 0] rfl ?_
      exact ih4 (x1, (x2 + 1), mv3) hw
set_option maxRecDepth 100000 in
theorem c_X5_whichBlocked (l : Launch) (D : va_G) (cI cQ : ClassId) (x : Nat) (an : Nat → Nat) (am : Nat → Nat) (aq : Nat → Nat) (ap : Nat → Nat) (b : Nat → Nat → Nat) (al : Nat → Nat) (au : Nat → Nat) (re : Nat) (pq : Int32) (n : PT) (m : PT) (nu : LT) (post : Int32 → PT → Prop) (sz : Nat) : Met l yX5_whichBlocked (wsY yX5_whichBlocked cX5_whichBlocked 3 (some .int)) (rmL 4 0 0 91) (xP D (tyL cI cQ) [.ref x] [gObj x an am aq ap al au re pq, gPar cI an n, gPar cI am m, gNum cI au nu] sz (p_X5_whichBlocked n m nu post)) (xQi D (tyL cI cQ) post (fun (u : PT) => [gObj x an am aq ap al au re pq, gPar cI an n, gPar cI am u, gNum cI au nu]) (va_A [gObj x an am aq ap al au re pq, gPar cI an n, gPar cI am m, gNum cI au nu].flatten sz)) 0 0 (va_A [gObj x an am aq ap al au re pq, gPar cI an n, gPar cI am m, gNum cI au nu].flatten sz) :=
  Met_i pn_X5 (Nat.le_of_ble_eq_true rfl) (fun p e s mi below meth co A Q _ C hret hw => w_X5_whichBlocked x an am aq ap b al au re pq n m nu C hret hw)
theorem kV_X5_whichBlocked : Cond.instanceMethod yX5_whichBlocked ∈ gTbl ∧ Cond.selects yX5_whichBlocked.cls yX5_whichBlocked yX5_whichBlocked ∈ gTbl ∧ Cond.initialized yX5_whichBlocked.cls ∈ gTbl ∧ Cond.code yX5_whichBlocked cX5_whichBlocked 3 (some .int) ∈ gTbl ∧ (yX5_whichBlocked.cls ≠ "java/lang/invoke/MethodHandle" ∧ yX5_whichBlocked.cls ≠ "java/lang/invoke/VarHandle" ∧ (parseMethodDescriptor yX5_whichBlocked.desc).map (fun d => d.parameters.length) = some 0) := ⟨im_X5_whichBlocked, sl_X5_whichBlocked, in_X5, cd_X5_whichBlocked, (by decide +kernel)⟩
set_option maxRecDepth 100000 in
def p_X5_wasPoured (n : PT) (m : PT) (nu : LT) (rf : F1) (p1 : Int32) (p2 : Int32) (post : Int32 → PT × F1 → Prop) : Prop := p_X3_there n p1 (fun (r1 : Int32) => ((r1 = 0 → p_X5_refuse rf (-1 : Int32) (fun (r19 : Int32) (u19 : F1) => (fun (rfv20 : F1) => post r19 (m, rfv20)) u19)) ∧ (¬ r1 = 0 → jn (fun (z2 : Unit) => p_X5_refuse rf (-2 : Int32) (fun (r3 : Int32) (u3 : F1) => (fun (rfv4 : F1) => post r3 (m, rfv4)) u3)) (fun J2 => ((p2 < 0 → J2 ()) ∧ (¬ p2 < 0 → ((p2 ≤ (2 : Int32) → lpN (fun (K10 : (Int32 × Int32 × Int32 × Int32 × PT) → Prop) (z10 : Int32 × Int32 × Int32 × Int32 × PT) => (fun (x5 : Int32) (x6 : Int32) (x7 : Int32) (x8 : Int32) (mv9 : PT) => (((99 : Int32) < x8 → ((p2 = 0 → post x5 (mv9, rf)) ∧ (¬ p2 = 0 → ((p2 = (1 : Int32) → post x6 (mv9, rf)) ∧ (¬ p2 = (1 : Int32) → post x7 (mv9, rf)))))) ∧ (¬ (99 : Int32) < x8 → p_X5_think n mv9 (fun (u11 : PT) => (fun (mv12 : PT) => p_X3_fill mv12 p1 x8 (fun (r13 : Int32) (u13 : PT) => (fun (mv14 : PT) => p_X5_rowTellsCup mv14 nu (fun (r15 : Int32) (u15 : PT) => (fun (mv16 : PT) => ((r15 = 0 → K10 (x5, x6, x7, (x8 + 1), mv16)) ∧ (¬ r15 = 0 → jn (fun (z18 : Int32) => (fun (x17 : Int32) => K10 ((x5 + 1), x17, x8, (x8 + 1), mv16)) z18) (fun J18 => ((x6 = (-9 : Int32) → J18 x8) ∧ (¬ x6 = (-9 : Int32) → J18 x6)))))) u15)) u13)) u11)))) z10.1 z10.2.1 z10.2.2.1 z10.2.2.2.1 z10.2.2.2.2) 1000 ((0 : Int32), (-9 : Int32), (-9 : Int32), (0 : Int32), m)) ∧ (¬ p2 ≤ (2 : Int32) → J2 ()))))))))
set_option maxHeartbeats 4000000 in
set_option maxRecDepth 100000 in
theorem w_X5_wasPoured {p : Program} {l : Launch} {e : Env} {s : State} {mi : MethodId} {args : Array Value} {below : List Frame} {meth : Method} {co : Code} {D : va_G} {cI cQ : ClassId} {A : Nat → Prop} {Q : State → Prop} (x : Nat) (an : Nat → Nat) (am : Nat → Nat) (aq : Nat → Nat) (ap : Nat → Nat) (b : Nat → Nat → Nat) (al : Nat → Nat) (au : Nat → Nat) (re : Nat) (pq : Int32) (n : PT) (m : PT) (nu : LT) (rf : F1) (p1 : Int32) (p2 : Int32) {post : Int32 → PT × F1 → Prop} (C : xC p s mi args co cX5_wasPoured RX5 7 D (tyL cI cQ) A) (hret : ∀ (pc : Nat) (r : Int32) (u : PT × F1) (lv : List (Nat × Value)), decode cX5_wasPoured pc = .ok (.ireturn, 1) → post r u → xG p l e (rmL 4 0 0 91) s mi args below meth co D A 7 Q 0 0 pc [.int r] [gObj x an am aq ap al au re pq, gPar cI an n, gPar cI am u.1, gNum cI au nu, gA cI re 7 u.2] lv) (hw : p_X5_wasPoured n m nu rf p1 p2 post) : xG p l e (rmL 4 0 0 91) s mi args below meth co D A 7 Q 0 0 0 [] [gObj x an am aq ap al au re pq, gPar cI an n, gPar cI am m, gNum cI au nu, gA cI re 7 rf] [(0, .ref x), (1, .int p1), (2, .int p2)] := by
  unfold p_X5_wasPoured at hw
  try dsimp only at hw
  show xG p l e (rmL 4 0 0 91) s mi args below meth co D A 7 Q 0 0 0 [] [gObj x an am aq ap al au re pq, gPar cI an n, gPar cI am m, gNum cI au nu, gA cI re 7 rf] [(0, .ref x), (1, .int p1), (2, .int p2)]
  refine g_aload_n C dX5_wasPoured_0 0 rfl rfl ?_
  refine g_get (v := .ref (an 0)) (ci := 4) C dX5_wasPoured_1 inw_X5 rfl 0 0 0 rfl rfl (Nat.le_of_ble_eq_true rfl) rfl fl_X5_10 rfl rfl ?_
  refine g_iload_n C dX5_wasPoured_4 1 rfl rfl ?_
  refine g_callVi (As := [.int p1]) (gr := [gObj x an am aq ap al au re pq, gPar cI am m, gNum cI au nu, gA cI re 7 rf]) C (c_X3_there l D cI cQ an n p1 _) dX5_wasPoured_5 ⟨ml_X5_72, kV_X3_there⟩ ⟨Nat.le_of_ble_eq_true rfl, Nat.le_of_ble_eq_true rfl⟩ ⟨Nat.le_refl _, Nat.le_refl _⟩ rfl rfl 0 0 rfl rfl [1, 0, 2, 3, 4] 5 rfl pmb_1_0_2_3_4 rfl rfl rfl (Nat.le_of_ble_eq_true rfl) rfl (fun (u : Unit) => [gObj x an am aq ap al au re pq, gPar cI an n, gPar cI am m, gNum cI au nu, gA cI re 7 rf]) [1, 0, 2, 3, 4] 5 (fun _ => rfl) pmb_1_0_2_3_4 (fun _ => rfl) hw (fun r1 u1 hw => ?_)
  refine g_if_ne (tgt := 17) C dX5_wasPoured_8 (by decide) rfl hw (fun _ hw => ?_) (fun _ hw => ?_)
  · refine g_iload_n C dX5_wasPoured_17 2 rfl rfl ?_
    refine jn_el hw (fun (z2 : Unit) => xG p l e (rmL 4 0 0 91) s mi args below meth co D A 7 Q 0 0 26 [] [gObj x an am aq ap al au re pq, gPar cI an n, gPar cI am m, gNum cI au nu, gA cI re 7 rf] [(0, .ref x)]) ?_ ?_
    · rintro _ hw
      show xG p l e (rmL 4 0 0 91) s mi args below meth co D A 7 Q 0 0 26 [] [gObj x an am aq ap al au re pq, gPar cI an n, gPar cI am m, gNum cI au nu, gA cI re 7 rf] [(0, .ref x)]
      refine g_aload_n C dX5_wasPoured_26 0 rfl rfl ?_
      refine g_bipush (v := -2) C dX5_wasPoured_27 (by decide) rfl ?_
      refine g_callVi (As := [.int (-2 : Int32)]) (gr := [gPar cI an n, gPar cI am m, gNum cI au nu]) C (c_X5_refuse l D cI cQ x an am aq ap b al au re pq rf (-2 : Int32) _) dX5_wasPoured_29 ⟨ml_X5_51, kV_X5_refuse⟩ ⟨Nat.le_of_ble_eq_true rfl, Nat.le_of_ble_eq_true rfl⟩ ⟨Nat.le_refl _, Nat.le_refl _⟩ rfl rfl 0 0 rfl rfl [0, 4, 1, 2, 3] 5 rfl pmb_0_4_1_2_3 rfl rfl rfl (Nat.le_of_ble_eq_true rfl) rfl (fun (u : F1) => [gObj x an am aq ap al au re pq, gPar cI an n, gPar cI am m, gNum cI au nu, gA cI re 7 u]) [0, 2, 3, 4, 1] 5 (fun _ => rfl) pmb_0_2_3_4_1 (fun _ => rfl) hw (fun r3 u3 hw => ?_)
      obtain ⟨rfv4, rfl⟩ : ∃ z, z = u3 := ⟨_, rfl⟩
      exact hret 32 r3 (m, rfv4) _ dX5_wasPoured_32 hw
    · intro J2 hJ2 hw
      refine g_if_lt (tgt := 26) C dX5_wasPoured_18 (by decide) rfl hw (fun _ hw => ?_) (fun _ hw => ?_)
      · refine g_lv [0] rfl ?_
        exact hJ2 () hw
      · refine g_iload_n C dX5_wasPoured_21 2 rfl rfl ?_
        refine g_iconst (v := 2) C dX5_wasPoured_22 rfl rfl ?_
        refine g_icmp_le (tgt := 33) C dX5_wasPoured_23 (by decide) rfl hw (fun _ hw => ?_) (fun _ hw => ?_)
        · refine g_iconst (v := 0) C dX5_wasPoured_33 rfl rfl ?_
          refine g_istore_n (v := (0 : Int32)) C dX5_wasPoured_34 rfl (Nat.le_of_ble_eq_true rfl) (lv' := [(3, .int (0 : Int32)), (0, .ref x), (1, .int p1), (2, .int p2)]) rfl rfl ?_
          refine g_bipush (v := -9) C dX5_wasPoured_35 (by decide) rfl ?_
          refine g_istore (v := (-9 : Int32)) C dX5_wasPoured_37 rfl (Nat.le_of_ble_eq_true rfl) (lv' := [(4, .int (-9 : Int32)), (3, .int (0 : Int32)), (0, .ref x), (1, .int p1), (2, .int p2)]) rfl rfl ?_
          refine g_bipush (v := -9) C dX5_wasPoured_39 (by decide) rfl ?_
          refine g_istore (v := (-9 : Int32)) C dX5_wasPoured_41 rfl (Nat.le_of_ble_eq_true rfl) (lv' := [(5, .int (-9 : Int32)), (4, .int (-9 : Int32)), (3, .int (0 : Int32)), (0, .ref x), (1, .int p1), (2, .int p2)]) rfl rfl ?_
          refine g_iconst (v := 0) C dX5_wasPoured_43 rfl rfl ?_
          refine g_istore (v := (0 : Int32)) C dX5_wasPoured_44 rfl (Nat.le_of_ble_eq_true rfl) (lv' := [(6, .int (0 : Int32)), (5, .int (-9 : Int32)), (4, .int (-9 : Int32)), (3, .int (0 : Int32)), (0, .ref x), (1, .int p1), (2, .int p2)]) rfl rfl ?_
          refine g_lv [4, 5, 6, 3, 2, 1, 0] rfl ?_
          refine lpN_ind (G := (fun (z10 : Int32 × Int32 × Int32 × Int32 × PT) => (fun (x5 : Int32) (x6 : Int32) (x7 : Int32) (x8 : Int32) (mv9 : PT) => xG p l e (rmL 4 0 0 91) s mi args below meth co D A 7 Q 0 0 46 [] [gObj x an am aq ap al au re pq, gPar cI an n, gPar cI am mv9, gNum cI au nu, gA cI re 7 rf] [(0, .ref x), (1, .int p1), (2, .int p2), (3, .int x5), (4, .int x6), (5, .int x7), (6, .int x8)]) z10.1 z10.2.1 z10.2.2.1 z10.2.2.2.1 z10.2.2.2.2)) ?_ 1000 ((0 : Int32), (-9 : Int32), (-9 : Int32), (0 : Int32), m) hw
          rintro K10 ⟨x5, x6, x7, x8, mv9⟩ ih10 hw
          show xG p l e (rmL 4 0 0 91) s mi args below meth co D A 7 Q 0 0 46 [] [gObj x an am aq ap al au re pq, gPar cI an n, gPar cI am mv9, gNum cI au nu, gA cI re 7 rf] [(0, .ref x), (1, .int p1), (2, .int p2), (3, .int x5), (4, .int x6), (5, .int x7), (6, .int x8)]
          refine g_iload C dX5_wasPoured_46 6 rfl rfl ?_
          refine g_bipush (v := 99) C dX5_wasPoured_48 (by decide) rfl ?_
          refine g_icmp_gt (tgt := 104) C dX5_wasPoured_50 (by decide) rfl hw (fun _ hw => ?_) (fun _ hw => ?_)
          · refine g_iload_n C dX5_wasPoured_104 2 rfl rfl ?_
            refine g_if_ne (tgt := 110) C dX5_wasPoured_105 (by decide) rfl hw (fun _ hw => ?_) (fun _ hw => ?_)
            · refine g_iload_n C dX5_wasPoured_110 2 rfl rfl ?_
              refine g_iconst (v := 1) C dX5_wasPoured_111 rfl rfl ?_
              refine g_icmp_ne (tgt := 120) C dX5_wasPoured_112 (by decide) rfl hw (fun _ hw => ?_) (fun _ hw => ?_)
              · refine g_iload C dX5_wasPoured_120 5 rfl rfl ?_
                exact hret 122 x7 (mv9, rf) _ dX5_wasPoured_122 hw
              · refine g_iload C dX5_wasPoured_115 4 rfl rfl ?_
                refine g_goto (pc' := 122) C dX5_wasPoured_117 (by decide) rfl ?_
                exact hret 122 x6 (mv9, rf) _ dX5_wasPoured_122 hw
            · refine g_iload_n C dX5_wasPoured_108 3 rfl rfl ?_
              exact hret 109 x5 (mv9, rf) _ dX5_wasPoured_109 hw
          · refine g_aload_n C dX5_wasPoured_53 0 rfl rfl ?_
            refine g_callVv (As := []) (gr := [gNum cI au nu, gA cI re 7 rf]) C (c_X5_think l D cI cQ x an am aq ap b al au re pq n mv9  _) dX5_wasPoured_54 ⟨ml_X5_137, kV_X5_think⟩ ⟨Nat.le_of_ble_eq_true rfl, Nat.le_of_ble_eq_true rfl⟩ ⟨Nat.le_refl _, Nat.le_refl _⟩ rfl rfl 0 0 rfl rfl [0, 1, 2, 3, 4] 5 rfl pmb_0_1_2_3_4 rfl rfl rfl (Nat.le_of_ble_eq_true rfl) rfl (fun (u : PT) => [gObj x an am aq ap al au re pq, gPar cI an n, gPar cI am u, gNum cI au nu, gA cI re 7 rf]) [0, 1, 2, 3, 4] 5 (fun _ => rfl) pmb_0_1_2_3_4 (fun _ => rfl) hw (fun u11 hw => ?_)
            obtain ⟨mv12, rfl⟩ : ∃ z, z = u11 := ⟨_, rfl⟩
            refine g_aload_n C dX5_wasPoured_57 0 rfl rfl ?_
            refine g_get (v := .ref (am 0)) (ci := 4) C dX5_wasPoured_58 inw_X5 rfl 0 0 1 rfl rfl (Nat.le_of_ble_eq_true rfl) rfl fl_X5_16 rfl rfl ?_
            refine g_iload_n C dX5_wasPoured_61 1 rfl rfl ?_
            refine g_iload C dX5_wasPoured_62 6 rfl rfl ?_
            refine g_callVi (As := [.int p1, .int x8]) (gr := [gObj x an am aq ap al au re pq, gPar cI an n, gNum cI au nu, gA cI re 7 rf]) C (c_X3_fill l D cI cQ am mv12 p1 x8 _) dX5_wasPoured_64 ⟨ml_X5_116, kV_X3_fill⟩ ⟨Nat.le_of_ble_eq_true rfl, Nat.le_of_ble_eq_true rfl⟩ ⟨Nat.le_refl _, Nat.le_refl _⟩ rfl rfl 0 0 rfl rfl [2, 0, 1, 3, 4] 5 rfl pmb_2_0_1_3_4 rfl rfl rfl (Nat.le_of_ble_eq_true rfl) rfl (fun (u : PT) => [gObj x an am aq ap al au re pq, gPar cI an n, gPar cI am u, gNum cI au nu, gA cI re 7 rf]) [1, 2, 0, 3, 4] 5 (fun _ => rfl) pmb_1_2_0_3_4 (fun _ => rfl) hw (fun r13 u13 hw => ?_)
            obtain ⟨mv14, rfl⟩ : ∃ z, z = u13 := ⟨_, rfl⟩
            refine g_pop C dX5_wasPoured_67 rfl rfl ?_
            refine g_aload_n C dX5_wasPoured_68 0 rfl rfl ?_
            refine g_callVi (As := []) (gr := [gPar cI an n, gA cI re 7 rf]) C (c_X5_rowTellsCup l D cI cQ x an am aq ap b al au re pq mv14 nu  _) dX5_wasPoured_69 ⟨ml_X5_176, kV_X5_rowTellsCup⟩ ⟨Nat.le_of_ble_eq_true rfl, Nat.le_of_ble_eq_true rfl⟩ ⟨Nat.le_refl _, Nat.le_refl _⟩ rfl rfl 0 0 rfl rfl [0, 2, 3, 1, 4] 5 rfl pmb_0_2_3_1_4 rfl rfl rfl (Nat.le_of_ble_eq_true rfl) rfl (fun (u : PT) => [gObj x an am aq ap al au re pq, gPar cI an n, gPar cI am u, gNum cI au nu, gA cI re 7 rf]) [0, 3, 1, 2, 4] 5 (fun _ => rfl) pmb_0_3_1_2_4 (fun _ => rfl) hw (fun r15 u15 hw => ?_)
            obtain ⟨mv16, rfl⟩ : ∃ z, z = u15 := ⟨_, rfl⟩
            refine g_if_eq (tgt := 98) C dX5_wasPoured_72 (by decide) rfl hw (fun _ hw => ?_) (fun _ hw => ?_)
            · refine g_iinc (v := (x8 + 1)) (j := 6) C dX5_wasPoured_98 rfl rfl (Nat.le_of_ble_eq_true rfl) (lv' := [(6, .int (x8 + 1)), (0, .ref x), (1, .int p1), (2, .int p2), (3, .int x5), (4, .int x6), (5, .int x7)]) rfl rfl ?_
              refine g_goto (pc' := 46) C dX5_wasPoured_101 (by decide) rfl ?_
              refine g_lv [1, 2, 3, 4, 5, 6, 0] rfl ?_
              exact ih10 (x5, x6, x7, (x8 + 1), mv16) hw
            · refine g_iinc (v := (x5 + 1)) (j := 3) C dX5_wasPoured_75 rfl rfl (Nat.le_of_ble_eq_true rfl) (lv' := [(3, .int (x5 + 1)), (0, .ref x), (1, .int p1), (2, .int p2), (4, .int x6), (5, .int x7), (6, .int x8)]) rfl rfl ?_
              refine g_iload C dX5_wasPoured_78 4 rfl rfl ?_
              refine g_bipush (v := -9) C dX5_wasPoured_80 (by decide) rfl ?_
              refine jn_el hw (fun (z18 : Int32) => (fun (x17 : Int32) => xG p l e (rmL 4 0 0 91) s mi args below meth co D A 7 Q 0 0 92 [.int x17] [gObj x an am aq ap al au re pq, gPar cI an n, gPar cI am mv16, gNum cI au nu, gA cI re 7 rf] [(0, .ref x), (1, .int p1), (2, .int p2), (3, .int (x5 + 1)), (6, .int x8)]) z18) ?_ ?_
              · rintro x17 hw
                show xG p l e (rmL 4 0 0 91) s mi args below meth co D A 7 Q 0 0 92 [.int x17] [gObj x an am aq ap al au re pq, gPar cI an n, gPar cI am mv16, gNum cI au nu, gA cI re 7 rf] [(0, .ref x), (1, .int p1), (2, .int p2), (3, .int (x5 + 1)), (6, .int x8)]
                refine g_istore (v := x17) C dX5_wasPoured_92 rfl (Nat.le_of_ble_eq_true rfl) (lv' := [(4, .int x17), (0, .ref x), (1, .int p1), (2, .int p2), (3, .int (x5 + 1)), (6, .int x8)]) rfl rfl ?_
                refine g_iload C dX5_wasPoured_94 5 rfl rfl ?_
                refine g_istore (v := x8) C dX5_wasPoured_96 rfl (Nat.le_of_ble_eq_true rfl) (lv' := [(5, .int x8), (4, .int x17), (0, .ref x), (1, .int p1), (2, .int p2), (3, .int (x5 + 1)), (6, .int x8)]) rfl rfl ?_
                refine g_iinc (v := (x8 + 1)) (j := 6) C dX5_wasPoured_98 rfl rfl (Nat.le_of_ble_eq_true rfl) (lv' := [(6, .int (x8 + 1)), (5, .int x8), (4, .int x17), (0, .ref x), (1, .int p1), (2, .int p2), (3, .int (x5 + 1))]) rfl rfl ?_
                refine g_goto (pc' := 46) C dX5_wasPoured_101 (by decide) rfl ?_
                refine g_lv [3, 4, 5, 6, 2, 1, 0] rfl ?_
                exact ih10 ((x5 + 1), x17, x8, (x8 + 1), mv16) hw
              · intro J18 hJ18 hw
                refine g_icmp_ne (tgt := 90) C dX5_wasPoured_82 (by decide) rfl hw (fun _ hw => ?_) (fun _ hw => ?_)
                · refine g_iload C dX5_wasPoured_90 4 rfl rfl ?_
                  refine g_lv [1, 2, 3, 0, 6] rfl ?_
                  exact hJ18 x6 hw
                · refine g_iload C dX5_wasPoured_85 6 rfl rfl ?_
                  refine g_goto (pc' := 92) C dX5_wasPoured_87 (by decide) rfl ?_
                  refine g_lv [1, 2, 3, 0, 6] rfl ?_
                  exact hJ18 x8 hw
        · refine g_lv [0] rfl ?_
          exact hJ2 () hw
  · refine g_aload_n C dX5_wasPoured_11 0 rfl rfl ?_
    refine g_iconst (v := -1) C dX5_wasPoured_12 (by decide) rfl ?_
    refine g_callVi (As := [.int (-1 : Int32)]) (gr := [gPar cI an n, gPar cI am m, gNum cI au nu]) C (c_X5_refuse l D cI cQ x an am aq ap b al au re pq rf (-1 : Int32) _) dX5_wasPoured_13 ⟨ml_X5_51, kV_X5_refuse⟩ ⟨Nat.le_of_ble_eq_true rfl, Nat.le_of_ble_eq_true rfl⟩ ⟨Nat.le_refl _, Nat.le_refl _⟩ rfl rfl 0 0 rfl rfl [0, 4, 1, 2, 3] 5 rfl pmb_0_4_1_2_3 rfl rfl rfl (Nat.le_of_ble_eq_true rfl) rfl (fun (u : F1) => [gObj x an am aq ap al au re pq, gPar cI an n, gPar cI am m, gNum cI au nu, gA cI re 7 u]) [0, 2, 3, 4, 1] 5 (fun _ => rfl) pmb_0_2_3_4_1 (fun _ => rfl) hw (fun r19 u19 hw => ?_)
    obtain ⟨rfv20, rfl⟩ : ∃ z, z = u19 := ⟨_, rfl⟩
    exact hret 16 r19 (m, rfv20) _ dX5_wasPoured_16 hw
set_option maxRecDepth 100000 in
theorem c_X5_wasPoured (l : Launch) (D : va_G) (cI cQ : ClassId) (x : Nat) (an : Nat → Nat) (am : Nat → Nat) (aq : Nat → Nat) (ap : Nat → Nat) (b : Nat → Nat → Nat) (al : Nat → Nat) (au : Nat → Nat) (re : Nat) (pq : Int32) (n : PT) (m : PT) (nu : LT) (rf : F1) (p1 : Int32) (p2 : Int32) (post : Int32 → PT × F1 → Prop) (sz : Nat) : Met l yX5_wasPoured (wsY yX5_wasPoured cX5_wasPoured 7 (some .int)) (rmL 4 0 0 91) (xP D (tyL cI cQ) [.ref x, .int p1, .int p2] [gObj x an am aq ap al au re pq, gPar cI an n, gPar cI am m, gNum cI au nu, gA cI re 7 rf] sz (p_X5_wasPoured n m nu rf p1 p2 post)) (xQi D (tyL cI cQ) post (fun (u : PT × F1) => [gObj x an am aq ap al au re pq, gPar cI an n, gPar cI am u.1, gNum cI au nu, gA cI re 7 u.2]) (va_A [gObj x an am aq ap al au re pq, gPar cI an n, gPar cI am m, gNum cI au nu, gA cI re 7 rf].flatten sz)) 0 0 (va_A [gObj x an am aq ap al au re pq, gPar cI an n, gPar cI am m, gNum cI au nu, gA cI re 7 rf].flatten sz) :=
  Met_i pn_X5 (Nat.le_of_ble_eq_true rfl) (fun p e s mi below meth co A Q _ C hret hw => w_X5_wasPoured x an am aq ap b al au re pq n m nu rf p1 p2 C hret hw)
theorem kV_X5_wasPoured : Cond.instanceMethod yX5_wasPoured ∈ gTbl ∧ Cond.selects yX5_wasPoured.cls yX5_wasPoured yX5_wasPoured ∈ gTbl ∧ Cond.initialized yX5_wasPoured.cls ∈ gTbl ∧ Cond.code yX5_wasPoured cX5_wasPoured 7 (some .int) ∈ gTbl ∧ (yX5_wasPoured.cls ≠ "java/lang/invoke/MethodHandle" ∧ yX5_wasPoured.cls ≠ "java/lang/invoke/VarHandle" ∧ (parseMethodDescriptor yX5_wasPoured.desc).map (fun d => d.parameters.length) = some 2) := ⟨im_X5_wasPoured, sl_X5_wasPoured, in_X5, cd_X5_wasPoured, (by decide +kernel)⟩
set_option maxRecDepth 100000 in
def p_X5_figuresTold (n : PT) (m : PT) (nu : LT) (p1 : Int32) (post : Int32 → PT → Prop) : Prop := lpN (fun (K4 : (Int32 × Int32 × PT) → Prop) (z4 : Int32 × Int32 × PT) => (fun (x1 : Int32) (x2 : Int32) (mv3 : PT) => (((9 : Int32) < x2 → post x1 mv3) ∧ (¬ (9 : Int32) < x2 → p_X5_think n mv3 (fun (u5 : PT) => (fun (mv6 : PT) => p_X3_kindOf n p1 (fun (r7 : Int32) => p_X3_remake mv6 p1 r7 x2 (fun (u8 : PT) => (fun (mv9 : PT) => p_X5_rowTellsCup mv9 nu (fun (r10 : Int32) (u10 : PT) => (fun (mv11 : PT) => ((r10 = 0 → K4 (x1, (x2 + 1), mv11)) ∧ (¬ r10 = 0 → nm ((x1 ||| ((1 : Int32) <<< (x2 &&& 31))) : Int32) (fun (v12 : Int32) => K4 (v12, (x2 + 1), mv11))))) u10)) u8))) u5)))) z4.1 z4.2.1 z4.2.2) 1000 ((0 : Int32), (0 : Int32), m)
set_option maxHeartbeats 4000000 in
set_option maxRecDepth 100000 in
theorem w_X5_figuresTold {p : Program} {l : Launch} {e : Env} {s : State} {mi : MethodId} {args : Array Value} {below : List Frame} {meth : Method} {co : Code} {D : va_G} {cI cQ : ClassId} {A : Nat → Prop} {Q : State → Prop} (x : Nat) (an : Nat → Nat) (am : Nat → Nat) (aq : Nat → Nat) (ap : Nat → Nat) (b : Nat → Nat → Nat) (al : Nat → Nat) (au : Nat → Nat) (re : Nat) (pq : Int32) (n : PT) (m : PT) (nu : LT) (p1 : Int32) {post : Int32 → PT → Prop} (C : xC p s mi args co cX5_figuresTold RX5 4 D (tyL cI cQ) A) (hret : ∀ (pc : Nat) (r : Int32) (u : PT) (lv : List (Nat × Value)), decode cX5_figuresTold pc = .ok (.ireturn, 1) → post r u → xG p l e (rmL 4 0 0 91) s mi args below meth co D A 4 Q 0 0 pc [.int r] [gObj x an am aq ap al au re pq, gPar cI an n, gPar cI am u, gNum cI au nu] lv) (hw : p_X5_figuresTold n m nu p1 post) : xG p l e (rmL 4 0 0 91) s mi args below meth co D A 4 Q 0 0 0 [] [gObj x an am aq ap al au re pq, gPar cI an n, gPar cI am m, gNum cI au nu] [(0, .ref x), (1, .int p1)] := by
  unfold p_X5_figuresTold at hw
  try dsimp only at hw
  show xG p l e (rmL 4 0 0 91) s mi args below meth co D A 4 Q 0 0 0 [] [gObj x an am aq ap al au re pq, gPar cI an n, gPar cI am m, gNum cI au nu] [(0, .ref x), (1, .int p1)]
  refine g_iconst (v := 0) C dX5_figuresTold_0 rfl rfl ?_
  refine g_istore_n (v := (0 : Int32)) C dX5_figuresTold_1 rfl (Nat.le_of_ble_eq_true rfl) (lv' := [(2, .int (0 : Int32)), (0, .ref x), (1, .int p1)]) rfl rfl ?_
  refine g_iconst (v := 0) C dX5_figuresTold_2 rfl rfl ?_
  refine g_istore_n (v := (0 : Int32)) C dX5_figuresTold_3 rfl (Nat.le_of_ble_eq_true rfl) (lv' := [(3, .int (0 : Int32)), (2, .int (0 : Int32)), (0, .ref x), (1, .int p1)]) rfl rfl ?_
  refine g_lv [2, 3, 1, 0] rfl ?_
  refine lpN_ind (G := (fun (z4 : Int32 × Int32 × PT) => (fun (x1 : Int32) (x2 : Int32) (mv3 : PT) => xG p l e (rmL 4 0 0 91) s mi args below meth co D A 4 Q 0 0 4 [] [gObj x an am aq ap al au re pq, gPar cI an n, gPar cI am mv3, gNum cI au nu] [(0, .ref x), (1, .int p1), (2, .int x1), (3, .int x2)]) z4.1 z4.2.1 z4.2.2)) ?_ 1000 ((0 : Int32), (0 : Int32), m) hw
  rintro K4 ⟨x1, x2, mv3⟩ ih4 hw
  show xG p l e (rmL 4 0 0 91) s mi args below meth co D A 4 Q 0 0 4 [] [gObj x an am aq ap al au re pq, gPar cI an n, gPar cI am mv3, gNum cI au nu] [(0, .ref x), (1, .int p1), (2, .int x1), (3, .int x2)]
  refine g_iload_n C dX5_figuresTold_4 3 rfl rfl ?_
  refine g_bipush (v := 9) C dX5_figuresTold_5 (by decide) rfl ?_
  refine g_icmp_gt (tgt := 50) C dX5_figuresTold_7 (by decide) rfl hw (fun _ hw => ?_) (fun _ hw => ?_)
  · refine g_iload_n C dX5_figuresTold_50 2 rfl rfl ?_
    exact hret 51 x1 mv3 _ dX5_figuresTold_51 hw
  · refine g_aload_n C dX5_figuresTold_10 0 rfl rfl ?_
    refine g_callVv (As := []) (gr := [gNum cI au nu]) C (c_X5_think l D cI cQ x an am aq ap b al au re pq n mv3  _) dX5_figuresTold_11 ⟨ml_X5_137, kV_X5_think⟩ ⟨Nat.le_of_ble_eq_true rfl, Nat.le_of_ble_eq_true rfl⟩ ⟨Nat.le_refl _, Nat.le_refl _⟩ rfl rfl 0 0 rfl rfl [0, 1, 2, 3] 4 rfl pmb_0_1_2_3 rfl rfl rfl (Nat.le_of_ble_eq_true rfl) rfl (fun (u : PT) => [gObj x an am aq ap al au re pq, gPar cI an n, gPar cI am u, gNum cI au nu]) [0, 1, 2, 3] 4 (fun _ => rfl) pmb_0_1_2_3 (fun _ => rfl) hw (fun u5 hw => ?_)
    obtain ⟨mv6, rfl⟩ : ∃ z, z = u5 := ⟨_, rfl⟩
    refine g_aload_n C dX5_figuresTold_14 0 rfl rfl ?_
    refine g_get (v := .ref (am 0)) (ci := 4) C dX5_figuresTold_15 inw_X5 rfl 0 0 1 rfl rfl (Nat.le_of_ble_eq_true rfl) rfl fl_X5_16 rfl rfl ?_
    refine g_iload_n C dX5_figuresTold_18 1 rfl rfl ?_
    refine g_aload_n C dX5_figuresTold_19 0 rfl rfl ?_
    refine g_get (v := .ref (an 0)) (ci := 4) C dX5_figuresTold_20 inw_X5 rfl 0 0 0 rfl rfl (Nat.le_of_ble_eq_true rfl) rfl fl_X5_10 rfl rfl ?_
    refine g_iload_n C dX5_figuresTold_23 1 rfl rfl ?_
    refine g_callVi (As := [.int p1]) (gr := [gObj x an am aq ap al au re pq, gPar cI am mv6, gNum cI au nu]) C (c_X3_kindOf l D cI cQ an n p1 _) dX5_figuresTold_24 ⟨ml_X5_75, kV_X3_kindOf⟩ ⟨Nat.le_of_ble_eq_true rfl, Nat.le_of_ble_eq_true rfl⟩ ⟨Nat.le_refl _, Nat.le_refl _⟩ rfl rfl 0 0 rfl rfl [1, 0, 2, 3] 4 rfl pmb_1_0_2_3 rfl rfl rfl (Nat.le_of_ble_eq_true rfl) rfl (fun (u : Unit) => [gObj x an am aq ap al au re pq, gPar cI an n, gPar cI am mv6, gNum cI au nu]) [1, 0, 2, 3] 4 (fun _ => rfl) pmb_1_0_2_3 (fun _ => rfl) hw (fun r7 u7 hw => ?_)
    refine g_iload_n C dX5_figuresTold_27 3 rfl rfl ?_
    refine g_callVv (As := [.int p1, .int r7, .int x2]) (gr := [gObj x an am aq ap al au re pq, gPar cI an n, gNum cI au nu]) C (c_X3_remake l D cI cQ am mv6 p1 r7 x2 _) dX5_figuresTold_28 ⟨ml_X5_219, kV_X3_remake⟩ ⟨Nat.le_of_ble_eq_true rfl, Nat.le_of_ble_eq_true rfl⟩ ⟨Nat.le_refl _, Nat.le_refl _⟩ rfl rfl 0 0 rfl rfl [2, 0, 1, 3] 4 rfl pmb_2_0_1_3 rfl rfl rfl (Nat.le_of_ble_eq_true rfl) rfl (fun (u : PT) => [gObj x an am aq ap al au re pq, gPar cI an n, gPar cI am u, gNum cI au nu]) [1, 2, 0, 3] 4 (fun _ => rfl) pmb_1_2_0_3 (fun _ => rfl) hw (fun u8 hw => ?_)
    obtain ⟨mv9, rfl⟩ : ∃ z, z = u8 := ⟨_, rfl⟩
    refine g_aload_n C dX5_figuresTold_31 0 rfl rfl ?_
    refine g_callVi (As := []) (gr := [gPar cI an n]) C (c_X5_rowTellsCup l D cI cQ x an am aq ap b al au re pq mv9 nu  _) dX5_figuresTold_32 ⟨ml_X5_176, kV_X5_rowTellsCup⟩ ⟨Nat.le_of_ble_eq_true rfl, Nat.le_of_ble_eq_true rfl⟩ ⟨Nat.le_refl _, Nat.le_refl _⟩ rfl rfl 0 0 rfl rfl [0, 2, 3, 1] 4 rfl pmb_0_2_3_1 rfl rfl rfl (Nat.le_of_ble_eq_true rfl) rfl (fun (u : PT) => [gObj x an am aq ap al au re pq, gPar cI an n, gPar cI am u, gNum cI au nu]) [0, 3, 1, 2] 4 (fun _ => rfl) pmb_0_3_1_2 (fun _ => rfl) hw (fun r10 u10 hw => ?_)
    obtain ⟨mv11, rfl⟩ : ∃ z, z = u10 := ⟨_, rfl⟩
    refine g_if_eq (tgt := 44) C dX5_figuresTold_35 (by decide) rfl hw (fun _ hw => ?_) (fun _ hw => ?_)
    · refine g_iinc (v := (x2 + 1)) (j := 3) C dX5_figuresTold_44 rfl rfl (Nat.le_of_ble_eq_true rfl) (lv' := [(3, .int (x2 + 1)), (0, .ref x), (1, .int p1), (2, .int x1)]) rfl rfl ?_
      refine g_goto (pc' := 4) C dX5_figuresTold_47 (by decide) rfl ?_
      refine g_lv [1, 2, 3, 0] rfl ?_
      exact ih4 (x1, (x2 + 1), mv11) hw
    · refine g_iload_n C dX5_figuresTold_38 2 rfl rfl ?_
      refine g_iconst (v := 1) C dX5_figuresTold_39 rfl rfl ?_
      refine g_iload_n C dX5_figuresTold_40 3 rfl rfl ?_
      refine g_ishl C dX5_figuresTold_41 rfl ?_
      refine g_ior C dX5_figuresTold_42 rfl ?_
      refine nm_el hw (fun v12 ev12 hw => ?_)
      refine g_istore_n (v := v12) C dX5_figuresTold_43 ev12.symm (Nat.le_of_ble_eq_true rfl) (lv' := [(2, .int v12), (0, .ref x), (1, .int p1), (3, .int x2)]) rfl rfl ?_
      refine g_iinc (v := (x2 + 1)) (j := 3) C dX5_figuresTold_44 rfl rfl (Nat.le_of_ble_eq_true rfl) (lv' := [(3, .int (x2 + 1)), (2, .int v12), (0, .ref x), (1, .int p1)]) rfl rfl ?_
      refine g_goto (pc' := 4) C dX5_figuresTold_47 (by decide) rfl ?_
      refine g_lv [2, 3, 1, 0] rfl ?_
      exact ih4 (v12, (x2 + 1), mv11) hw
set_option maxRecDepth 100000 in
theorem c_X5_figuresTold (l : Launch) (D : va_G) (cI cQ : ClassId) (x : Nat) (an : Nat → Nat) (am : Nat → Nat) (aq : Nat → Nat) (ap : Nat → Nat) (b : Nat → Nat → Nat) (al : Nat → Nat) (au : Nat → Nat) (re : Nat) (pq : Int32) (n : PT) (m : PT) (nu : LT) (p1 : Int32) (post : Int32 → PT → Prop) (sz : Nat) : Met l yX5_figuresTold (wsY yX5_figuresTold cX5_figuresTold 4 (some .int)) (rmL 4 0 0 91) (xP D (tyL cI cQ) [.ref x, .int p1] [gObj x an am aq ap al au re pq, gPar cI an n, gPar cI am m, gNum cI au nu] sz (p_X5_figuresTold n m nu p1 post)) (xQi D (tyL cI cQ) post (fun (u : PT) => [gObj x an am aq ap al au re pq, gPar cI an n, gPar cI am u, gNum cI au nu]) (va_A [gObj x an am aq ap al au re pq, gPar cI an n, gPar cI am m, gNum cI au nu].flatten sz)) 0 0 (va_A [gObj x an am aq ap al au re pq, gPar cI an n, gPar cI am m, gNum cI au nu].flatten sz) :=
  Met_i pn_X5 (Nat.le_of_ble_eq_true rfl) (fun p e s mi below meth co A Q _ C hret hw => w_X5_figuresTold x an am aq ap b al au re pq n m nu p1 C hret hw)
theorem kV_X5_figuresTold : Cond.instanceMethod yX5_figuresTold ∈ gTbl ∧ Cond.selects yX5_figuresTold.cls yX5_figuresTold yX5_figuresTold ∈ gTbl ∧ Cond.initialized yX5_figuresTold.cls ∈ gTbl ∧ Cond.code yX5_figuresTold cX5_figuresTold 4 (some .int) ∈ gTbl ∧ (yX5_figuresTold.cls ≠ "java/lang/invoke/MethodHandle" ∧ yX5_figuresTold.cls ≠ "java/lang/invoke/VarHandle" ∧ (parseMethodDescriptor yX5_figuresTold.desc).map (fun d => d.parameters.length) = some 1) := ⟨im_X5_figuresTold, sl_X5_figuresTold, in_X5, cd_X5_figuresTold, (by decide +kernel)⟩
set_option maxRecDepth 100000 in
def p_X5_kindsTold (n : PT) (m : PT) (nu : LT) (p1 : Int32) (post : Int32 → PT → Prop) : Prop := lpN (fun (K4 : (Int32 × Int32 × PT) → Prop) (z4 : Int32 × Int32 × PT) => (fun (x1 : Int32) (x2 : Int32) (mv3 : PT) => (((5 : Int32) < x2 → post x1 mv3) ∧ (¬ (5 : Int32) < x2 → p_X5_think n mv3 (fun (u5 : PT) => (fun (mv6 : PT) => p_X3_figureOf n p1 (fun (r7 : Int32) => p_X3_remake mv6 p1 x2 r7 (fun (u8 : PT) => (fun (mv9 : PT) => p_X5_rowTellsCup mv9 nu (fun (r10 : Int32) (u10 : PT) => (fun (mv11 : PT) => ((r10 = 0 → K4 (x1, (x2 + 1), mv11)) ∧ (¬ r10 = 0 → nm ((x1 ||| ((1 : Int32) <<< (x2 &&& 31))) : Int32) (fun (v12 : Int32) => K4 (v12, (x2 + 1), mv11))))) u10)) u8))) u5)))) z4.1 z4.2.1 z4.2.2) 1000 ((0 : Int32), (0 : Int32), m)
set_option maxHeartbeats 4000000 in
set_option maxRecDepth 100000 in
theorem w_X5_kindsTold {p : Program} {l : Launch} {e : Env} {s : State} {mi : MethodId} {args : Array Value} {below : List Frame} {meth : Method} {co : Code} {D : va_G} {cI cQ : ClassId} {A : Nat → Prop} {Q : State → Prop} (x : Nat) (an : Nat → Nat) (am : Nat → Nat) (aq : Nat → Nat) (ap : Nat → Nat) (b : Nat → Nat → Nat) (al : Nat → Nat) (au : Nat → Nat) (re : Nat) (pq : Int32) (n : PT) (m : PT) (nu : LT) (p1 : Int32) {post : Int32 → PT → Prop} (C : xC p s mi args co cX5_kindsTold RX5 4 D (tyL cI cQ) A) (hret : ∀ (pc : Nat) (r : Int32) (u : PT) (lv : List (Nat × Value)), decode cX5_kindsTold pc = .ok (.ireturn, 1) → post r u → xG p l e (rmL 4 0 0 91) s mi args below meth co D A 4 Q 0 0 pc [.int r] [gObj x an am aq ap al au re pq, gPar cI an n, gPar cI am u, gNum cI au nu] lv) (hw : p_X5_kindsTold n m nu p1 post) : xG p l e (rmL 4 0 0 91) s mi args below meth co D A 4 Q 0 0 0 [] [gObj x an am aq ap al au re pq, gPar cI an n, gPar cI am m, gNum cI au nu] [(0, .ref x), (1, .int p1)] := by
  unfold p_X5_kindsTold at hw
  try dsimp only at hw
  show xG p l e (rmL 4 0 0 91) s mi args below meth co D A 4 Q 0 0 0 [] [gObj x an am aq ap al au re pq, gPar cI an n, gPar cI am m, gNum cI au nu] [(0, .ref x), (1, .int p1)]
  refine g_iconst (v := 0) C dX5_kindsTold_0 rfl rfl ?_
  refine g_istore_n (v := (0 : Int32)) C dX5_kindsTold_1 rfl (Nat.le_of_ble_eq_true rfl) (lv' := [(2, .int (0 : Int32)), (0, .ref x), (1, .int p1)]) rfl rfl ?_
  refine g_iconst (v := 0) C dX5_kindsTold_2 rfl rfl ?_
  refine g_istore_n (v := (0 : Int32)) C dX5_kindsTold_3 rfl (Nat.le_of_ble_eq_true rfl) (lv' := [(3, .int (0 : Int32)), (2, .int (0 : Int32)), (0, .ref x), (1, .int p1)]) rfl rfl ?_
  refine g_lv [2, 3, 1, 0] rfl ?_
  refine lpN_ind (G := (fun (z4 : Int32 × Int32 × PT) => (fun (x1 : Int32) (x2 : Int32) (mv3 : PT) => xG p l e (rmL 4 0 0 91) s mi args below meth co D A 4 Q 0 0 4 [] [gObj x an am aq ap al au re pq, gPar cI an n, gPar cI am mv3, gNum cI au nu] [(0, .ref x), (1, .int p1), (2, .int x1), (3, .int x2)]) z4.1 z4.2.1 z4.2.2)) ?_ 1000 ((0 : Int32), (0 : Int32), m) hw
  rintro K4 ⟨x1, x2, mv3⟩ ih4 hw
  show xG p l e (rmL 4 0 0 91) s mi args below meth co D A 4 Q 0 0 4 [] [gObj x an am aq ap al au re pq, gPar cI an n, gPar cI am mv3, gNum cI au nu] [(0, .ref x), (1, .int p1), (2, .int x1), (3, .int x2)]
  refine g_iload_n C dX5_kindsTold_4 3 rfl rfl ?_
  refine g_iconst (v := 5) C dX5_kindsTold_5 rfl rfl ?_
  refine g_icmp_gt (tgt := 49) C dX5_kindsTold_6 (by decide) rfl hw (fun _ hw => ?_) (fun _ hw => ?_)
  · refine g_iload_n C dX5_kindsTold_49 2 rfl rfl ?_
    exact hret 50 x1 mv3 _ dX5_kindsTold_50 hw
  · refine g_aload_n C dX5_kindsTold_9 0 rfl rfl ?_
    refine g_callVv (As := []) (gr := [gNum cI au nu]) C (c_X5_think l D cI cQ x an am aq ap b al au re pq n mv3  _) dX5_kindsTold_10 ⟨ml_X5_137, kV_X5_think⟩ ⟨Nat.le_of_ble_eq_true rfl, Nat.le_of_ble_eq_true rfl⟩ ⟨Nat.le_refl _, Nat.le_refl _⟩ rfl rfl 0 0 rfl rfl [0, 1, 2, 3] 4 rfl pmb_0_1_2_3 rfl rfl rfl (Nat.le_of_ble_eq_true rfl) rfl (fun (u : PT) => [gObj x an am aq ap al au re pq, gPar cI an n, gPar cI am u, gNum cI au nu]) [0, 1, 2, 3] 4 (fun _ => rfl) pmb_0_1_2_3 (fun _ => rfl) hw (fun u5 hw => ?_)
    obtain ⟨mv6, rfl⟩ : ∃ z, z = u5 := ⟨_, rfl⟩
    refine g_aload_n C dX5_kindsTold_13 0 rfl rfl ?_
    refine g_get (v := .ref (am 0)) (ci := 4) C dX5_kindsTold_14 inw_X5 rfl 0 0 1 rfl rfl (Nat.le_of_ble_eq_true rfl) rfl fl_X5_16 rfl rfl ?_
    refine g_iload_n C dX5_kindsTold_17 1 rfl rfl ?_
    refine g_iload_n C dX5_kindsTold_18 3 rfl rfl ?_
    refine g_aload_n C dX5_kindsTold_19 0 rfl rfl ?_
    refine g_get (v := .ref (an 0)) (ci := 4) C dX5_kindsTold_20 inw_X5 rfl 0 0 0 rfl rfl (Nat.le_of_ble_eq_true rfl) rfl fl_X5_10 rfl rfl ?_
    refine g_iload_n C dX5_kindsTold_23 1 rfl rfl ?_
    refine g_callVi (As := [.int p1]) (gr := [gObj x an am aq ap al au re pq, gPar cI am mv6, gNum cI au nu]) C (c_X3_figureOf l D cI cQ an n p1 _) dX5_kindsTold_24 ⟨ml_X5_78, kV_X3_figureOf⟩ ⟨Nat.le_of_ble_eq_true rfl, Nat.le_of_ble_eq_true rfl⟩ ⟨Nat.le_refl _, Nat.le_refl _⟩ rfl rfl 0 0 rfl rfl [1, 0, 2, 3] 4 rfl pmb_1_0_2_3 rfl rfl rfl (Nat.le_of_ble_eq_true rfl) rfl (fun (u : Unit) => [gObj x an am aq ap al au re pq, gPar cI an n, gPar cI am mv6, gNum cI au nu]) [1, 0, 2, 3] 4 (fun _ => rfl) pmb_1_0_2_3 (fun _ => rfl) hw (fun r7 u7 hw => ?_)
    refine g_callVv (As := [.int p1, .int x2, .int r7]) (gr := [gObj x an am aq ap al au re pq, gPar cI an n, gNum cI au nu]) C (c_X3_remake l D cI cQ am mv6 p1 x2 r7 _) dX5_kindsTold_27 ⟨ml_X5_219, kV_X3_remake⟩ ⟨Nat.le_of_ble_eq_true rfl, Nat.le_of_ble_eq_true rfl⟩ ⟨Nat.le_refl _, Nat.le_refl _⟩ rfl rfl 0 0 rfl rfl [2, 0, 1, 3] 4 rfl pmb_2_0_1_3 rfl rfl rfl (Nat.le_of_ble_eq_true rfl) rfl (fun (u : PT) => [gObj x an am aq ap al au re pq, gPar cI an n, gPar cI am u, gNum cI au nu]) [1, 2, 0, 3] 4 (fun _ => rfl) pmb_1_2_0_3 (fun _ => rfl) hw (fun u8 hw => ?_)
    obtain ⟨mv9, rfl⟩ : ∃ z, z = u8 := ⟨_, rfl⟩
    refine g_aload_n C dX5_kindsTold_30 0 rfl rfl ?_
    refine g_callVi (As := []) (gr := [gPar cI an n]) C (c_X5_rowTellsCup l D cI cQ x an am aq ap b al au re pq mv9 nu  _) dX5_kindsTold_31 ⟨ml_X5_176, kV_X5_rowTellsCup⟩ ⟨Nat.le_of_ble_eq_true rfl, Nat.le_of_ble_eq_true rfl⟩ ⟨Nat.le_refl _, Nat.le_refl _⟩ rfl rfl 0 0 rfl rfl [0, 2, 3, 1] 4 rfl pmb_0_2_3_1 rfl rfl rfl (Nat.le_of_ble_eq_true rfl) rfl (fun (u : PT) => [gObj x an am aq ap al au re pq, gPar cI an n, gPar cI am u, gNum cI au nu]) [0, 3, 1, 2] 4 (fun _ => rfl) pmb_0_3_1_2 (fun _ => rfl) hw (fun r10 u10 hw => ?_)
    obtain ⟨mv11, rfl⟩ : ∃ z, z = u10 := ⟨_, rfl⟩
    refine g_if_eq (tgt := 43) C dX5_kindsTold_34 (by decide) rfl hw (fun _ hw => ?_) (fun _ hw => ?_)
    · refine g_iinc (v := (x2 + 1)) (j := 3) C dX5_kindsTold_43 rfl rfl (Nat.le_of_ble_eq_true rfl) (lv' := [(3, .int (x2 + 1)), (0, .ref x), (1, .int p1), (2, .int x1)]) rfl rfl ?_
      refine g_goto (pc' := 4) C dX5_kindsTold_46 (by decide) rfl ?_
      refine g_lv [1, 2, 3, 0] rfl ?_
      exact ih4 (x1, (x2 + 1), mv11) hw
    · refine g_iload_n C dX5_kindsTold_37 2 rfl rfl ?_
      refine g_iconst (v := 1) C dX5_kindsTold_38 rfl rfl ?_
      refine g_iload_n C dX5_kindsTold_39 3 rfl rfl ?_
      refine g_ishl C dX5_kindsTold_40 rfl ?_
      refine g_ior C dX5_kindsTold_41 rfl ?_
      refine nm_el hw (fun v12 ev12 hw => ?_)
      refine g_istore_n (v := v12) C dX5_kindsTold_42 ev12.symm (Nat.le_of_ble_eq_true rfl) (lv' := [(2, .int v12), (0, .ref x), (1, .int p1), (3, .int x2)]) rfl rfl ?_
      refine g_iinc (v := (x2 + 1)) (j := 3) C dX5_kindsTold_43 rfl rfl (Nat.le_of_ble_eq_true rfl) (lv' := [(3, .int (x2 + 1)), (2, .int v12), (0, .ref x), (1, .int p1)]) rfl rfl ?_
      refine g_goto (pc' := 4) C dX5_kindsTold_46 (by decide) rfl ?_
      refine g_lv [2, 3, 1, 0] rfl ?_
      exact ih4 (v12, (x2 + 1), mv11) hw
set_option maxRecDepth 100000 in
theorem c_X5_kindsTold (l : Launch) (D : va_G) (cI cQ : ClassId) (x : Nat) (an : Nat → Nat) (am : Nat → Nat) (aq : Nat → Nat) (ap : Nat → Nat) (b : Nat → Nat → Nat) (al : Nat → Nat) (au : Nat → Nat) (re : Nat) (pq : Int32) (n : PT) (m : PT) (nu : LT) (p1 : Int32) (post : Int32 → PT → Prop) (sz : Nat) : Met l yX5_kindsTold (wsY yX5_kindsTold cX5_kindsTold 4 (some .int)) (rmL 4 0 0 91) (xP D (tyL cI cQ) [.ref x, .int p1] [gObj x an am aq ap al au re pq, gPar cI an n, gPar cI am m, gNum cI au nu] sz (p_X5_kindsTold n m nu p1 post)) (xQi D (tyL cI cQ) post (fun (u : PT) => [gObj x an am aq ap al au re pq, gPar cI an n, gPar cI am u, gNum cI au nu]) (va_A [gObj x an am aq ap al au re pq, gPar cI an n, gPar cI am m, gNum cI au nu].flatten sz)) 0 0 (va_A [gObj x an am aq ap al au re pq, gPar cI an n, gPar cI am m, gNum cI au nu].flatten sz) :=
  Met_i pn_X5 (Nat.le_of_ble_eq_true rfl) (fun p e s mi below meth co A Q _ C hret hw => w_X5_kindsTold x an am aq ap b al au re pq n m nu p1 C hret hw)
theorem kV_X5_kindsTold : Cond.instanceMethod yX5_kindsTold ∈ gTbl ∧ Cond.selects yX5_kindsTold.cls yX5_kindsTold yX5_kindsTold ∈ gTbl ∧ Cond.initialized yX5_kindsTold.cls ∈ gTbl ∧ Cond.code yX5_kindsTold cX5_kindsTold 4 (some .int) ∈ gTbl ∧ (yX5_kindsTold.cls ≠ "java/lang/invoke/MethodHandle" ∧ yX5_kindsTold.cls ≠ "java/lang/invoke/VarHandle" ∧ (parseMethodDescriptor yX5_kindsTold.desc).map (fun d => d.parameters.length) = some 1) := ⟨im_X5_kindsTold, sl_X5_kindsTold, in_X5, cd_X5_kindsTold, (by decide +kernel)⟩
set_option maxRecDepth 100000 in
def p_X5_whatKind (n : PT) (m : PT) (nu : LT) (rf : F1) (p1 : Int32) (p2 : Int32) (post : Int32 → PT × F1 → Prop) : Prop := p_X3_there n p1 (fun (r1 : Int32) => ((r1 = 0 → p_X5_refuse rf (-1 : Int32) (fun (r8 : Int32) (u8 : F1) => (fun (rfv9 : F1) => post r8 (m, rfv9)) u8)) ∧ (¬ r1 = 0 → ((p2 = 0 → p_X5_kindsTold n m nu p1 (fun (r2 : Int32) (u2 : PT) => (fun (mv3 : PT) => post r2 (mv3, rf)) u2)) ∧ (¬ p2 = 0 → ((p2 = 1 → p_X5_figuresTold n m nu p1 (fun (r4 : Int32) (u4 : PT) => (fun (mv5 : PT) => post r4 (mv5, rf)) u4)) ∧ (¬ p2 = 1 → p_X5_refuse rf (-2 : Int32) (fun (r6 : Int32) (u6 : F1) => (fun (rfv7 : F1) => post r6 (m, rfv7)) u6))))))))
set_option maxHeartbeats 4000000 in
set_option maxRecDepth 100000 in
theorem w_X5_whatKind {p : Program} {l : Launch} {e : Env} {s : State} {mi : MethodId} {args : Array Value} {below : List Frame} {meth : Method} {co : Code} {D : va_G} {cI cQ : ClassId} {A : Nat → Prop} {Q : State → Prop} (x : Nat) (an : Nat → Nat) (am : Nat → Nat) (aq : Nat → Nat) (ap : Nat → Nat) (b : Nat → Nat → Nat) (al : Nat → Nat) (au : Nat → Nat) (re : Nat) (pq : Int32) (n : PT) (m : PT) (nu : LT) (rf : F1) (p1 : Int32) (p2 : Int32) {post : Int32 → PT × F1 → Prop} (C : xC p s mi args co cX5_whatKind RX5 3 D (tyL cI cQ) A) (hret : ∀ (pc : Nat) (r : Int32) (u : PT × F1) (lv : List (Nat × Value)), decode cX5_whatKind pc = .ok (.ireturn, 1) → post r u → xG p l e (rmL 5 0 0 114) s mi args below meth co D A 3 Q 0 0 pc [.int r] [gObj x an am aq ap al au re pq, gPar cI an n, gPar cI am u.1, gNum cI au nu, gA cI re 7 u.2] lv) (hw : p_X5_whatKind n m nu rf p1 p2 post) : xG p l e (rmL 5 0 0 114) s mi args below meth co D A 3 Q 0 0 0 [] [gObj x an am aq ap al au re pq, gPar cI an n, gPar cI am m, gNum cI au nu, gA cI re 7 rf] [(0, .ref x), (1, .int p1), (2, .int p2)] := by
  unfold p_X5_whatKind at hw
  try dsimp only at hw
  show xG p l e (rmL 5 0 0 114) s mi args below meth co D A 3 Q 0 0 0 [] [gObj x an am aq ap al au re pq, gPar cI an n, gPar cI am m, gNum cI au nu, gA cI re 7 rf] [(0, .ref x), (1, .int p1), (2, .int p2)]
  refine g_aload_n C dX5_whatKind_0 0 rfl rfl ?_
  refine g_get (v := .ref (an 0)) (ci := 4) C dX5_whatKind_1 inw_X5 rfl 0 0 0 rfl rfl (Nat.le_of_ble_eq_true rfl) rfl fl_X5_10 rfl rfl ?_
  refine g_iload_n C dX5_whatKind_4 1 rfl rfl ?_
  refine g_callVi (As := [.int p1]) (gr := [gObj x an am aq ap al au re pq, gPar cI am m, gNum cI au nu, gA cI re 7 rf]) C (c_X3_there l D cI cQ an n p1 _) dX5_whatKind_5 ⟨ml_X5_72, kV_X3_there⟩ ⟨Nat.le_of_ble_eq_true rfl, Nat.le_of_ble_eq_true rfl⟩ ⟨Nat.le_refl _, Nat.le_refl _⟩ rfl rfl 0 0 rfl rfl [1, 0, 2, 3, 4] 5 rfl pmb_1_0_2_3_4 rfl rfl rfl (Nat.le_of_ble_eq_true rfl) rfl (fun (u : Unit) => [gObj x an am aq ap al au re pq, gPar cI an n, gPar cI am m, gNum cI au nu, gA cI re 7 rf]) [1, 0, 2, 3, 4] 5 (fun _ => rfl) pmb_1_0_2_3_4 (fun _ => rfl) hw (fun r1 u1 hw => ?_)
  refine g_if_ne (tgt := 17) C dX5_whatKind_8 (by decide) rfl hw (fun _ hw => ?_) (fun _ hw => ?_)
  · refine g_iload_n C dX5_whatKind_17 2 rfl rfl ?_
    rcases Classical.em (p2 = 0) with hs18_0 | hs18_0
    · replace hw := hw.1 hs18_0
      refine g_lsw (pc' := 44) C dX5_whatKind_18 (by decide) (by first | (rw [hs18_0]; done) | (rw [hs18_0]; rfl)) (by decide) ?_
      refine g_aload_n C dX5_whatKind_44 0 rfl rfl ?_
      refine g_iload_n C dX5_whatKind_45 1 rfl rfl ?_
      refine g_callVi (As := [.int p1]) (gr := [gA cI re 7 rf]) C (c_X5_kindsTold l D cI cQ x an am aq ap b al au re pq n m nu p1 _) dX5_whatKind_46 ⟨ml_X5_179, kV_X5_kindsTold⟩ ⟨Nat.le_of_ble_eq_true rfl, Nat.le_of_ble_eq_true rfl⟩ ⟨Nat.le_refl _, Nat.le_refl _⟩ rfl rfl 0 0 rfl rfl [0, 1, 2, 3, 4] 5 rfl pmb_0_1_2_3_4 rfl rfl rfl (Nat.le_of_ble_eq_true rfl) rfl (fun (u : PT) => [gObj x an am aq ap al au re pq, gPar cI an n, gPar cI am u, gNum cI au nu, gA cI re 7 rf]) [0, 1, 2, 3, 4] 5 (fun _ => rfl) pmb_0_1_2_3_4 (fun _ => rfl) hw (fun r2 u2 hw => ?_)
      obtain ⟨mv3, rfl⟩ : ∃ z, z = u2 := ⟨_, rfl⟩
      exact hret 49 r2 (mv3, rf) _ dX5_whatKind_49 hw
    · replace hw := hw.2 hs18_0
      rcases Classical.em (p2 = 1) with hs18_1 | hs18_1
      · replace hw := hw.1 hs18_1
        refine g_lsw (pc' := 50) C dX5_whatKind_18 (by decide) (by first | (rw [hs18_1]; done) | (rw [hs18_1]; rfl)) (by decide) ?_
        refine g_aload_n C dX5_whatKind_50 0 rfl rfl ?_
        refine g_iload_n C dX5_whatKind_51 1 rfl rfl ?_
        refine g_callVi (As := [.int p1]) (gr := [gA cI re 7 rf]) C (c_X5_figuresTold l D cI cQ x an am aq ap b al au re pq n m nu p1 _) dX5_whatKind_52 ⟨ml_X5_182, kV_X5_figuresTold⟩ ⟨Nat.le_of_ble_eq_true rfl, Nat.le_of_ble_eq_true rfl⟩ ⟨Nat.le_refl _, Nat.le_refl _⟩ rfl rfl 0 0 rfl rfl [0, 1, 2, 3, 4] 5 rfl pmb_0_1_2_3_4 rfl rfl rfl (Nat.le_of_ble_eq_true rfl) rfl (fun (u : PT) => [gObj x an am aq ap al au re pq, gPar cI an n, gPar cI am u, gNum cI au nu, gA cI re 7 rf]) [0, 1, 2, 3, 4] 5 (fun _ => rfl) pmb_0_1_2_3_4 (fun _ => rfl) hw (fun r4 u4 hw => ?_)
        obtain ⟨mv5, rfl⟩ : ∃ z, z = u4 := ⟨_, rfl⟩
        exact hret 55 r4 (mv5, rf) _ dX5_whatKind_55 hw
      · replace hw := hw.2 hs18_1
        refine g_lsw (off := 38) (pc' := 56) C dX5_whatKind_18 (by decide) (by show Op.lookupswitch.offset [(0, 26), (1, 32)] 38 _ = 38; rw [lv_osw hs18_0 (by decide), lv_osw hs18_1 (by decide)]; rfl) (by decide) ?_
        refine g_aload_n C dX5_whatKind_56 0 rfl rfl ?_
        refine g_bipush (v := -2) C dX5_whatKind_57 (by decide) rfl ?_
        refine g_callVi (As := [.int (-2 : Int32)]) (gr := [gPar cI an n, gPar cI am m, gNum cI au nu]) C (c_X5_refuse l D cI cQ x an am aq ap b al au re pq rf (-2 : Int32) _) dX5_whatKind_59 ⟨ml_X5_51, kV_X5_refuse⟩ ⟨Nat.le_of_ble_eq_true rfl, Nat.le_of_ble_eq_true rfl⟩ ⟨Nat.le_refl _, Nat.le_refl _⟩ rfl rfl 0 0 rfl rfl [0, 4, 1, 2, 3] 5 rfl pmb_0_4_1_2_3 rfl rfl rfl (Nat.le_of_ble_eq_true rfl) rfl (fun (u : F1) => [gObj x an am aq ap al au re pq, gPar cI an n, gPar cI am m, gNum cI au nu, gA cI re 7 u]) [0, 2, 3, 4, 1] 5 (fun _ => rfl) pmb_0_2_3_4_1 (fun _ => rfl) hw (fun r6 u6 hw => ?_)
        obtain ⟨rfv7, rfl⟩ : ∃ z, z = u6 := ⟨_, rfl⟩
        exact hret 62 r6 (m, rfv7) _ dX5_whatKind_62 hw
  · refine g_aload_n C dX5_whatKind_11 0 rfl rfl ?_
    refine g_iconst (v := -1) C dX5_whatKind_12 (by decide) rfl ?_
    refine g_callVi (As := [.int (-1 : Int32)]) (gr := [gPar cI an n, gPar cI am m, gNum cI au nu]) C (c_X5_refuse l D cI cQ x an am aq ap b al au re pq rf (-1 : Int32) _) dX5_whatKind_13 ⟨ml_X5_51, kV_X5_refuse⟩ ⟨Nat.le_of_ble_eq_true rfl, Nat.le_of_ble_eq_true rfl⟩ ⟨Nat.le_refl _, Nat.le_refl _⟩ rfl rfl 0 0 rfl rfl [0, 4, 1, 2, 3] 5 rfl pmb_0_4_1_2_3 rfl rfl rfl (Nat.le_of_ble_eq_true rfl) rfl (fun (u : F1) => [gObj x an am aq ap al au re pq, gPar cI an n, gPar cI am m, gNum cI au nu, gA cI re 7 u]) [0, 2, 3, 4, 1] 5 (fun _ => rfl) pmb_0_2_3_4_1 (fun _ => rfl) hw (fun r8 u8 hw => ?_)
    obtain ⟨rfv9, rfl⟩ : ∃ z, z = u8 := ⟨_, rfl⟩
    exact hret 16 r8 (m, rfv9) _ dX5_whatKind_16 hw
set_option maxRecDepth 100000 in
theorem c_X5_whatKind (l : Launch) (D : va_G) (cI cQ : ClassId) (x : Nat) (an : Nat → Nat) (am : Nat → Nat) (aq : Nat → Nat) (ap : Nat → Nat) (b : Nat → Nat → Nat) (al : Nat → Nat) (au : Nat → Nat) (re : Nat) (pq : Int32) (n : PT) (m : PT) (nu : LT) (rf : F1) (p1 : Int32) (p2 : Int32) (post : Int32 → PT × F1 → Prop) (sz : Nat) : Met l yX5_whatKind (wsY yX5_whatKind cX5_whatKind 3 (some .int)) (rmL 5 0 0 114) (xP D (tyL cI cQ) [.ref x, .int p1, .int p2] [gObj x an am aq ap al au re pq, gPar cI an n, gPar cI am m, gNum cI au nu, gA cI re 7 rf] sz (p_X5_whatKind n m nu rf p1 p2 post)) (xQi D (tyL cI cQ) post (fun (u : PT × F1) => [gObj x an am aq ap al au re pq, gPar cI an n, gPar cI am u.1, gNum cI au nu, gA cI re 7 u.2]) (va_A [gObj x an am aq ap al au re pq, gPar cI an n, gPar cI am m, gNum cI au nu, gA cI re 7 rf].flatten sz)) 0 0 (va_A [gObj x an am aq ap al au re pq, gPar cI an n, gPar cI am m, gNum cI au nu, gA cI re 7 rf].flatten sz) :=
  Met_i pn_X5 (Nat.le_of_ble_eq_true rfl) (fun p e s mi below meth co A Q _ C hret hw => w_X5_whatKind x an am aq ap b al au re pq n m nu rf p1 p2 C hret hw)
theorem kV_X5_whatKind : Cond.instanceMethod yX5_whatKind ∈ gTbl ∧ Cond.selects yX5_whatKind.cls yX5_whatKind yX5_whatKind ∈ gTbl ∧ Cond.initialized yX5_whatKind.cls ∈ gTbl ∧ Cond.code yX5_whatKind cX5_whatKind 3 (some .int) ∈ gTbl ∧ (yX5_whatKind.cls ≠ "java/lang/invoke/MethodHandle" ∧ yX5_whatKind.cls ≠ "java/lang/invoke/VarHandle" ∧ (parseMethodDescriptor yX5_whatKind.desc).map (fun d => d.parameters.length) = some 2) := ⟨im_X5_whatKind, sl_X5_whatKind, in_X5, cd_X5_whatKind, (by decide +kernel)⟩
set_option maxRecDepth 100000 in
def p_X5_gain (n : PT) (m : PT) (p1 : Int32) (p2 : Int32) (p3 : Int32) (p4 : Int32) (p5 : Int32) (post : Int32 → PT → Prop) : Prop := p_X5_think n m (fun (u1 : PT) => (fun (mv2 : PT) => jn (fun (z4 : PT) => (fun (mv3 : PT) => jn (fun (z6 : PT) => (fun (mv5 : PT) => p_X3_pass mv5 p5 (fun (u7 : PT) => (fun (mv8 : PT) => p_X3_holdsOf mv8 p1 (fun (r9 : Int32) => post (r9 - ((3 : Int32) * p2)) mv8)) u7)) z6) (fun J6 => ((p4 = (1 : Int32) → p_X3_block mv3 p3 (fun (u10 : PT) => (fun (mv11 : PT) => J6 mv11) u10)) ∧ (¬ p4 = (1 : Int32) → J6 mv3)))) z4) (fun J4 => ((p2 = (1 : Int32) → p_X3_block mv2 p1 (fun (u12 : PT) => (fun (mv13 : PT) => J4 mv13) u12)) ∧ (¬ p2 = (1 : Int32) → J4 mv2)))) u1)
set_option maxHeartbeats 4000000 in
set_option maxRecDepth 100000 in
theorem w_X5_gain {p : Program} {l : Launch} {e : Env} {s : State} {mi : MethodId} {args : Array Value} {below : List Frame} {meth : Method} {co : Code} {D : va_G} {cI cQ : ClassId} {A : Nat → Prop} {Q : State → Prop} (x : Nat) (an : Nat → Nat) (am : Nat → Nat) (aq : Nat → Nat) (ap : Nat → Nat) (b : Nat → Nat → Nat) (al : Nat → Nat) (au : Nat → Nat) (re : Nat) (pq : Int32) (n : PT) (m : PT) (p1 : Int32) (p2 : Int32) (p3 : Int32) (p4 : Int32) (p5 : Int32) {post : Int32 → PT → Prop} (C : xC p s mi args co cX5_gain RX5 6 D (tyL cI cQ) A) (hret : ∀ (pc : Nat) (r : Int32) (u : PT) (lv : List (Nat × Value)), decode cX5_gain pc = .ok (.ireturn, 1) → post r u → xG p l e (rmL 4 0 0 92) s mi args below meth co D A 6 Q 0 0 pc [.int r] [gObj x an am aq ap al au re pq, gPar cI an n, gPar cI am u] lv) (hw : p_X5_gain n m p1 p2 p3 p4 p5 post) : xG p l e (rmL 4 0 0 92) s mi args below meth co D A 6 Q 0 0 0 [] [gObj x an am aq ap al au re pq, gPar cI an n, gPar cI am m] [(0, .ref x), (1, .int p1), (2, .int p2), (3, .int p3), (4, .int p4), (5, .int p5)] := by
  unfold p_X5_gain at hw
  try dsimp only at hw
  show xG p l e (rmL 4 0 0 92) s mi args below meth co D A 6 Q 0 0 0 [] [gObj x an am aq ap al au re pq, gPar cI an n, gPar cI am m] [(0, .ref x), (1, .int p1), (2, .int p2), (3, .int p3), (4, .int p4), (5, .int p5)]
  refine g_aload_n C dX5_gain_0 0 rfl rfl ?_
  refine g_callVv (As := []) (gr := []) C (c_X5_think l D cI cQ x an am aq ap b al au re pq n m  _) dX5_gain_1 ⟨ml_X5_137, kV_X5_think⟩ ⟨Nat.le_of_ble_eq_true rfl, Nat.le_of_ble_eq_true rfl⟩ ⟨Nat.le_refl _, Nat.le_refl _⟩ rfl rfl 0 0 rfl rfl [0, 1, 2] 3 rfl pmb_0_1_2 rfl rfl rfl (Nat.le_of_ble_eq_true rfl) rfl (fun (u : PT) => [gObj x an am aq ap al au re pq, gPar cI an n, gPar cI am u]) [0, 1, 2] 3 (fun _ => rfl) pmb_0_1_2 (fun _ => rfl) hw (fun u1 hw => ?_)
  obtain ⟨mv2, rfl⟩ : ∃ z, z = u1 := ⟨_, rfl⟩
  refine g_iload_n C dX5_gain_4 2 rfl rfl ?_
  refine g_iconst (v := 1) C dX5_gain_5 rfl rfl ?_
  refine jn_el hw (fun (z4 : PT) => (fun (mv3 : PT) => xG p l e (rmL 4 0 0 92) s mi args below meth co D A 6 Q 0 0 17 [] [gObj x an am aq ap al au re pq, gPar cI an n, gPar cI am mv3] [(0, .ref x), (1, .int p1), (2, .int p2), (3, .int p3), (4, .int p4), (5, .int p5)]) z4) ?_ ?_
  · rintro mv3 hw
    show xG p l e (rmL 4 0 0 92) s mi args below meth co D A 6 Q 0 0 17 [] [gObj x an am aq ap al au re pq, gPar cI an n, gPar cI am mv3] [(0, .ref x), (1, .int p1), (2, .int p2), (3, .int p3), (4, .int p4), (5, .int p5)]
    refine g_iload C dX5_gain_17 4 rfl rfl ?_
    refine g_iconst (v := 1) C dX5_gain_19 rfl rfl ?_
    refine jn_el hw (fun (z6 : PT) => (fun (mv5 : PT) => xG p l e (rmL 4 0 0 92) s mi args below meth co D A 6 Q 0 0 31 [] [gObj x an am aq ap al au re pq, gPar cI an n, gPar cI am mv5] [(0, .ref x), (1, .int p1), (2, .int p2), (5, .int p5)]) z6) ?_ ?_
    · rintro mv5 hw
      show xG p l e (rmL 4 0 0 92) s mi args below meth co D A 6 Q 0 0 31 [] [gObj x an am aq ap al au re pq, gPar cI an n, gPar cI am mv5] [(0, .ref x), (1, .int p1), (2, .int p2), (5, .int p5)]
      refine g_aload_n C dX5_gain_31 0 rfl rfl ?_
      refine g_get (v := .ref (am 0)) (ci := 4) C dX5_gain_32 inw_X5 rfl 0 0 1 rfl rfl (Nat.le_of_ble_eq_true rfl) rfl fl_X5_16 rfl rfl ?_
      refine g_iload C dX5_gain_35 3 rfl rfl ?_
      refine g_callVv (As := [.int p5]) (gr := [gObj x an am aq ap al au re pq, gPar cI an n]) C (c_X3_pass l D cI cQ am mv5 p5 _) dX5_gain_37 ⟨ml_X5_128, kV_X3_pass⟩ ⟨Nat.le_of_ble_eq_true rfl, Nat.le_of_ble_eq_true rfl⟩ ⟨Nat.le_refl _, Nat.le_refl _⟩ rfl rfl 0 0 rfl rfl [2, 0, 1] 3 rfl pmb_2_0_1 rfl rfl rfl (Nat.le_of_ble_eq_true rfl) rfl (fun (u : PT) => [gObj x an am aq ap al au re pq, gPar cI an n, gPar cI am u]) [1, 2, 0] 3 (fun _ => rfl) pmb_1_2_0 (fun _ => rfl) hw (fun u7 hw => ?_)
      obtain ⟨mv8, rfl⟩ : ∃ z, z = u7 := ⟨_, rfl⟩
      refine g_aload_n C dX5_gain_40 0 rfl rfl ?_
      refine g_get (v := .ref (am 0)) (ci := 4) C dX5_gain_41 inw_X5 rfl 0 0 1 rfl rfl (Nat.le_of_ble_eq_true rfl) rfl fl_X5_16 rfl rfl ?_
      refine g_iload_n C dX5_gain_44 1 rfl rfl ?_
      refine g_callVi (As := [.int p1]) (gr := [gObj x an am aq ap al au re pq, gPar cI an n]) C (c_X3_holdsOf l D cI cQ am mv8 p1 _) dX5_gain_45 ⟨ml_X5_81, kV_X3_holdsOf⟩ ⟨Nat.le_of_ble_eq_true rfl, Nat.le_of_ble_eq_true rfl⟩ ⟨Nat.le_refl _, Nat.le_refl _⟩ rfl rfl 0 0 rfl rfl [2, 0, 1] 3 rfl pmb_2_0_1 rfl rfl rfl (Nat.le_of_ble_eq_true rfl) rfl (fun (u : Unit) => [gObj x an am aq ap al au re pq, gPar cI an n, gPar cI am mv8]) [1, 2, 0] 3 (fun _ => rfl) pmb_1_2_0 (fun _ => rfl) hw (fun r9 u9 hw => ?_)
      refine g_iconst (v := 3) C dX5_gain_48 rfl rfl ?_
      refine g_iload_n C dX5_gain_49 2 rfl rfl ?_
      refine g_imul C dX5_gain_50 rfl ?_
      refine g_isub C dX5_gain_51 rfl ?_
      exact hret 52 (r9 - ((3 : Int32) * p2)) mv8 _ dX5_gain_52 hw
    · intro J6 hJ6 hw
      refine g_icmp_ne (tgt := 31) C dX5_gain_20 (by decide) rfl hw (fun _ hw => ?_) (fun _ hw => ?_)
      · refine g_lv [0, 1, 2, 5] rfl ?_
        exact hJ6 mv3 hw
      · refine g_aload_n C dX5_gain_23 0 rfl rfl ?_
        refine g_get (v := .ref (am 0)) (ci := 4) C dX5_gain_24 inw_X5 rfl 0 0 1 rfl rfl (Nat.le_of_ble_eq_true rfl) rfl fl_X5_16 rfl rfl ?_
        refine g_iload_n C dX5_gain_27 3 rfl rfl ?_
        refine g_callVv (As := [.int p3]) (gr := [gObj x an am aq ap al au re pq, gPar cI an n]) C (c_X3_block l D cI cQ am mv3 p3 _) dX5_gain_28 ⟨ml_X5_170, kV_X3_block⟩ ⟨Nat.le_of_ble_eq_true rfl, Nat.le_of_ble_eq_true rfl⟩ ⟨Nat.le_refl _, Nat.le_refl _⟩ rfl rfl 0 0 rfl rfl [2, 0, 1] 3 rfl pmb_2_0_1 rfl rfl rfl (Nat.le_of_ble_eq_true rfl) rfl (fun (u : PT) => [gObj x an am aq ap al au re pq, gPar cI an n, gPar cI am u]) [1, 2, 0] 3 (fun _ => rfl) pmb_1_2_0 (fun _ => rfl) hw (fun u10 hw => ?_)
        obtain ⟨mv11, rfl⟩ : ∃ z, z = u10 := ⟨_, rfl⟩
        refine g_lv [0, 1, 2, 5] rfl ?_
        exact hJ6 mv11 hw
  · intro J4 hJ4 hw
    refine g_icmp_ne (tgt := 17) C dX5_gain_6 (by decide) rfl hw (fun _ hw => ?_) (fun _ hw => ?_)
    · exact hJ4 mv2 hw
    · refine g_aload_n C dX5_gain_9 0 rfl rfl ?_
      refine g_get (v := .ref (am 0)) (ci := 4) C dX5_gain_10 inw_X5 rfl 0 0 1 rfl rfl (Nat.le_of_ble_eq_true rfl) rfl fl_X5_16 rfl rfl ?_
      refine g_iload_n C dX5_gain_13 1 rfl rfl ?_
      refine g_callVv (As := [.int p1]) (gr := [gObj x an am aq ap al au re pq, gPar cI an n]) C (c_X3_block l D cI cQ am mv2 p1 _) dX5_gain_14 ⟨ml_X5_170, kV_X3_block⟩ ⟨Nat.le_of_ble_eq_true rfl, Nat.le_of_ble_eq_true rfl⟩ ⟨Nat.le_refl _, Nat.le_refl _⟩ rfl rfl 0 0 rfl rfl [2, 0, 1] 3 rfl pmb_2_0_1 rfl rfl rfl (Nat.le_of_ble_eq_true rfl) rfl (fun (u : PT) => [gObj x an am aq ap al au re pq, gPar cI an n, gPar cI am u]) [1, 2, 0] 3 (fun _ => rfl) pmb_1_2_0 (fun _ => rfl) hw (fun u12 hw => ?_)
      obtain ⟨mv13, rfl⟩ : ∃ z, z = u12 := ⟨_, rfl⟩
      exact hJ4 mv13 hw
set_option maxRecDepth 100000 in
theorem c_X5_gain (l : Launch) (D : va_G) (cI cQ : ClassId) (x : Nat) (an : Nat → Nat) (am : Nat → Nat) (aq : Nat → Nat) (ap : Nat → Nat) (b : Nat → Nat → Nat) (al : Nat → Nat) (au : Nat → Nat) (re : Nat) (pq : Int32) (n : PT) (m : PT) (p1 : Int32) (p2 : Int32) (p3 : Int32) (p4 : Int32) (p5 : Int32) (post : Int32 → PT → Prop) (sz : Nat) : Met l yX5_gain (wsY yX5_gain cX5_gain 6 (some .int)) (rmL 4 0 0 92) (xP D (tyL cI cQ) [.ref x, .int p1, .int p2, .int p3, .int p4, .int p5] [gObj x an am aq ap al au re pq, gPar cI an n, gPar cI am m] sz (p_X5_gain n m p1 p2 p3 p4 p5 post)) (xQi D (tyL cI cQ) post (fun (u : PT) => [gObj x an am aq ap al au re pq, gPar cI an n, gPar cI am u]) (va_A [gObj x an am aq ap al au re pq, gPar cI an n, gPar cI am m].flatten sz)) 0 0 (va_A [gObj x an am aq ap al au re pq, gPar cI an n, gPar cI am m].flatten sz) :=
  Met_i pn_X5 (Nat.le_of_ble_eq_true rfl) (fun p e s mi below meth co A Q _ C hret hw => w_X5_gain x an am aq ap b al au re pq n m p1 p2 p3 p4 p5 C hret hw)
theorem kV_X5_gain : Cond.instanceMethod yX5_gain ∈ gTbl ∧ Cond.selects yX5_gain.cls yX5_gain yX5_gain ∈ gTbl ∧ Cond.initialized yX5_gain.cls ∈ gTbl ∧ Cond.code yX5_gain cX5_gain 6 (some .int) ∈ gTbl ∧ (yX5_gain.cls ≠ "java/lang/invoke/MethodHandle" ∧ yX5_gain.cls ≠ "java/lang/invoke/VarHandle" ∧ (parseMethodDescriptor yX5_gain.desc).map (fun d => d.parameters.length) = some 5) := ⟨im_X5_gain, sl_X5_gain, in_X5, cd_X5_gain, (by decide +kernel)⟩
set_option maxRecDepth 100000 in
def p_X5_isContent (n : PT) (m : PT) (p1 : Int32) (p2 : Int32) (p3 : Int32) (p4 : Int32) (p5 : Int32) (post : Int32 → PT → Prop) : Prop := p_X5_gain n m p1 p2 p3 p4 p5 (fun (r1 : Int32) (u1 : PT) => (fun (mv2 : PT) => p_X5_gain n mv2 p1 ((1 : Int32) - p2) p3 p4 p5 (fun (r3 : Int32) (u3 : PT) => (fun (mv4 : PT) => ((r1 < r3 → post (0 : Int32) mv4) ∧ (¬ r1 < r3 → post (1 : Int32) mv4))) u3)) u1)
set_option maxHeartbeats 4000000 in
set_option maxRecDepth 100000 in
theorem w_X5_isContent {p : Program} {l : Launch} {e : Env} {s : State} {mi : MethodId} {args : Array Value} {below : List Frame} {meth : Method} {co : Code} {D : va_G} {cI cQ : ClassId} {A : Nat → Prop} {Q : State → Prop} (x : Nat) (an : Nat → Nat) (am : Nat → Nat) (aq : Nat → Nat) (ap : Nat → Nat) (b : Nat → Nat → Nat) (al : Nat → Nat) (au : Nat → Nat) (re : Nat) (pq : Int32) (n : PT) (m : PT) (p1 : Int32) (p2 : Int32) (p3 : Int32) (p4 : Int32) (p5 : Int32) {post : Int32 → PT → Prop} (C : xC p s mi args co cX5_isContent RX5 7 D (tyL cI cQ) A) (hret : ∀ (pc : Nat) (r : Int32) (u : PT) (lv : List (Nat × Value)), decode cX5_isContent pc = .ok (.ireturn, 1) → bz r → post r u → xG p l e (rmL 5 0 0 117) s mi args below meth co D A 7 Q 0 0 pc [.int r] [gObj x an am aq ap al au re pq, gPar cI an n, gPar cI am u] lv) (hw : p_X5_isContent n m p1 p2 p3 p4 p5 post) : xG p l e (rmL 5 0 0 117) s mi args below meth co D A 7 Q 0 0 0 [] [gObj x an am aq ap al au re pq, gPar cI an n, gPar cI am m] [(0, .ref x), (1, .int p1), (2, .int p2), (3, .int p3), (4, .int p4), (5, .int p5)] := by
  unfold p_X5_isContent at hw
  try dsimp only at hw
  show xG p l e (rmL 5 0 0 117) s mi args below meth co D A 7 Q 0 0 0 [] [gObj x an am aq ap al au re pq, gPar cI an n, gPar cI am m] [(0, .ref x), (1, .int p1), (2, .int p2), (3, .int p3), (4, .int p4), (5, .int p5)]
  refine g_aload_n C dX5_isContent_0 0 rfl rfl ?_
  refine g_iload_n C dX5_isContent_1 1 rfl rfl ?_
  refine g_iload_n C dX5_isContent_2 2 rfl rfl ?_
  refine g_iload_n C dX5_isContent_3 3 rfl rfl ?_
  refine g_iload C dX5_isContent_4 4 rfl rfl ?_
  refine g_iload C dX5_isContent_6 5 rfl rfl ?_
  refine g_callVi (As := [.int p1, .int p2, .int p3, .int p4, .int p5]) (gr := []) C (c_X5_gain l D cI cQ x an am aq ap b al au re pq n m p1 p2 p3 p4 p5 _) dX5_isContent_8 ⟨ml_X5_257, kV_X5_gain⟩ ⟨Nat.le_of_ble_eq_true rfl, Nat.le_of_ble_eq_true rfl⟩ ⟨Nat.le_refl _, Nat.le_refl _⟩ rfl rfl 0 0 rfl rfl [0, 1, 2] 3 rfl pmb_0_1_2 rfl rfl rfl (Nat.le_of_ble_eq_true rfl) rfl (fun (u : PT) => [gObj x an am aq ap al au re pq, gPar cI an n, gPar cI am u]) [0, 1, 2] 3 (fun _ => rfl) pmb_0_1_2 (fun _ => rfl) hw (fun r1 u1 hw => ?_)
  obtain ⟨mv2, rfl⟩ : ∃ z, z = u1 := ⟨_, rfl⟩
  refine g_istore (v := r1) C dX5_isContent_11 rfl (Nat.le_of_ble_eq_true rfl) (lv' := [(6, .int r1), (0, .ref x), (1, .int p1), (2, .int p2), (3, .int p3), (4, .int p4), (5, .int p5)]) rfl rfl ?_
  refine g_iload C dX5_isContent_13 0 rfl rfl ?_
  refine g_aload_n C dX5_isContent_15 1 rfl rfl ?_
  refine g_iload_n C dX5_isContent_16 2 rfl rfl ?_
  refine g_iconst (v := 1) C dX5_isContent_17 rfl rfl ?_
  refine g_iload_n C dX5_isContent_18 3 rfl rfl ?_
  refine g_isub C dX5_isContent_19 rfl ?_
  refine g_iload_n C dX5_isContent_20 4 rfl rfl ?_
  refine g_iload C dX5_isContent_21 5 rfl rfl ?_
  refine g_iload C dX5_isContent_23 6 rfl rfl ?_
  refine g_callVi (As := [.int p1, .int ((1 : Int32) - p2), .int p3, .int p4, .int p5]) (gr := []) C (c_X5_gain l D cI cQ x an am aq ap b al au re pq n mv2 p1 ((1 : Int32) - p2) p3 p4 p5 _) dX5_isContent_25 ⟨ml_X5_257, kV_X5_gain⟩ ⟨Nat.le_of_ble_eq_true rfl, Nat.le_of_ble_eq_true rfl⟩ ⟨Nat.le_refl _, Nat.le_refl _⟩ rfl rfl 0 0 rfl rfl [0, 1, 2] 3 rfl pmb_0_1_2 rfl rfl rfl (Nat.le_of_ble_eq_true rfl) rfl (fun (u : PT) => [gObj x an am aq ap al au re pq, gPar cI an n, gPar cI am u]) [0, 1, 2] 3 (fun _ => rfl) pmb_0_1_2 (fun _ => rfl) hw (fun r3 u3 hw => ?_)
  obtain ⟨mv4, rfl⟩ : ∃ z, z = u3 := ⟨_, rfl⟩
  refine g_icmp_lt (tgt := 35) C dX5_isContent_28 (by decide) rfl hw (fun _ hw => ?_) (fun _ hw => ?_)
  · refine g_iconst (v := 0) C dX5_isContent_35 rfl rfl ?_
    exact hret 36 (0 : Int32) mv4 _ dX5_isContent_36 ⟨rfl, rfl⟩ hw
  · refine g_iconst (v := 1) C dX5_isContent_31 rfl rfl ?_
    refine g_goto (pc' := 36) C dX5_isContent_32 (by decide) rfl ?_
    exact hret 36 (1 : Int32) mv4 _ dX5_isContent_36 ⟨rfl, rfl⟩ hw
set_option maxRecDepth 100000 in
theorem c_X5_isContent (l : Launch) (D : va_G) (cI cQ : ClassId) (x : Nat) (an : Nat → Nat) (am : Nat → Nat) (aq : Nat → Nat) (ap : Nat → Nat) (b : Nat → Nat → Nat) (al : Nat → Nat) (au : Nat → Nat) (re : Nat) (pq : Int32) (n : PT) (m : PT) (p1 : Int32) (p2 : Int32) (p3 : Int32) (p4 : Int32) (p5 : Int32) (post : Int32 → PT → Prop) (sz : Nat) : Met l yX5_isContent (wsY yX5_isContent cX5_isContent 7 (some .boolean)) (rmL 5 0 0 117) (xP D (tyL cI cQ) [.ref x, .int p1, .int p2, .int p3, .int p4, .int p5] [gObj x an am aq ap al au re pq, gPar cI an n, gPar cI am m] sz (p_X5_isContent n m p1 p2 p3 p4 p5 post)) (xQi D (tyL cI cQ) post (fun (u : PT) => [gObj x an am aq ap al au re pq, gPar cI an n, gPar cI am u]) (va_A [gObj x an am aq ap al au re pq, gPar cI an n, gPar cI am m].flatten sz)) 0 0 (va_A [gObj x an am aq ap al au re pq, gPar cI an n, gPar cI am m].flatten sz) :=
  Met_z pn_X5 (Nat.le_of_ble_eq_true rfl) (fun p e s mi below meth co A Q _ C hret hw => w_X5_isContent x an am aq ap b al au re pq n m p1 p2 p3 p4 p5 C hret hw)
theorem kV_X5_isContent : Cond.instanceMethod yX5_isContent ∈ gTbl ∧ Cond.selects yX5_isContent.cls yX5_isContent yX5_isContent ∈ gTbl ∧ Cond.initialized yX5_isContent.cls ∈ gTbl ∧ Cond.code yX5_isContent cX5_isContent 7 (some .boolean) ∈ gTbl ∧ (yX5_isContent.cls ≠ "java/lang/invoke/MethodHandle" ∧ yX5_isContent.cls ≠ "java/lang/invoke/VarHandle" ∧ (parseMethodDescriptor yX5_isContent.desc).map (fun d => d.parameters.length) = some 5) := ⟨im_X5_isContent, sl_X5_isContent, in_X5, cd_X5_isContent, (by decide +kernel)⟩
set_option maxRecDepth 100000 in
def p_X5_two (n : PT) (m : PT) (rf : F1) (p1 : Int32) (p2 : Int32) (p3 : Int32) (post : Int32 → PT × F1 → Prop) : Prop := p_X3_there n p1 (fun (r1 : Int32) => jn (fun (z2 : Unit) => p_X5_refuse rf (-1 : Int32) (fun (r3 : Int32) (u3 : F1) => (fun (rfv4 : F1) => post r3 (m, rfv4)) u3)) (fun J2 => ((r1 = 0 → J2 ()) ∧ (¬ r1 = 0 → p_X3_there n p2 (fun (r5 : Int32) => ((r5 = 0 → J2 ()) ∧ (¬ r5 = 0 → ((p1 = p2 → J2 ()) ∧ (¬ p1 = p2 → p_X5_outside p3 (0 : Int32) (30 : Int32) (fun (r6 : Int32) => ((r6 = 0 → lpN (fun (K9 : (Int32 × PT) → Prop) (z9 : Int32 × PT) => (fun (x7 : Int32) (mv8 : PT) => (((1 : Int32) < x7 → post (-9 : Int32) (mv8, rf)) ∧ (¬ (1 : Int32) < x7 → lpN (fun (K12 : (Int32 × PT) → Prop) (z12 : Int32 × PT) => (fun (x10 : Int32) (mv11 : PT) => (((1 : Int32) < x10 → K9 ((x7 + 1), mv11)) ∧ (¬ (1 : Int32) < x10 → p_X5_isContent n mv11 p1 x7 p2 x10 p3 (fun (r13 : Int32) (u13 : PT) => (fun (mv14 : PT) => ((r13 = 0 → K12 ((x10 + 1), mv14)) ∧ (¬ r13 = 0 → p_X5_isContent n mv14 p2 x10 p1 x7 p3 (fun (r15 : Int32) (u15 : PT) => (fun (mv16 : PT) => ((r15 = 0 → K12 ((x10 + 1), mv16)) ∧ (¬ r15 = 0 → post (((10 : Int32) * x7) + x10) (mv16, rf)))) u15)))) u13)))) z12.1 z12.2) 1000 ((0 : Int32), mv8)))) z9.1 z9.2) 1000 ((0 : Int32), m)) ∧ (¬ r6 = 0 → p_X5_refuse rf r6 (fun (r17 : Int32) (u17 : F1) => (fun (rfv18 : F1) => post r17 (m, rfv18)) u17)))))))))))))
set_option maxHeartbeats 4000000 in
set_option maxRecDepth 100000 in
theorem w_X5_two {p : Program} {l : Launch} {e : Env} {s : State} {mi : MethodId} {args : Array Value} {below : List Frame} {meth : Method} {co : Code} {D : va_G} {cI cQ : ClassId} {A : Nat → Prop} {Q : State → Prop} (x : Nat) (an : Nat → Nat) (am : Nat → Nat) (aq : Nat → Nat) (ap : Nat → Nat) (b : Nat → Nat → Nat) (al : Nat → Nat) (au : Nat → Nat) (re : Nat) (pq : Int32) (n : PT) (m : PT) (rf : F1) (p1 : Int32) (p2 : Int32) (p3 : Int32) {post : Int32 → PT × F1 → Prop} (C : xC p s mi args co cX5_two RX5 7 D (tyL cI cQ) A) (hret : ∀ (pc : Nat) (r : Int32) (u : PT × F1) (lv : List (Nat × Value)), decode cX5_two pc = .ok (.ireturn, 1) → post r u → xG p l e (rmL 6 0 0 143) s mi args below meth co D A 7 Q 0 0 pc [.int r] [gObj x an am aq ap al au re pq, gPar cI an n, gPar cI am u.1, gA cI re 7 u.2] lv) (hw : p_X5_two n m rf p1 p2 p3 post) : xG p l e (rmL 6 0 0 143) s mi args below meth co D A 7 Q 0 0 0 [] [gObj x an am aq ap al au re pq, gPar cI an n, gPar cI am m, gA cI re 7 rf] [(0, .ref x), (1, .int p1), (2, .int p2), (3, .int p3)] := by
  unfold p_X5_two at hw
  try dsimp only at hw
  show xG p l e (rmL 6 0 0 143) s mi args below meth co D A 7 Q 0 0 0 [] [gObj x an am aq ap al au re pq, gPar cI an n, gPar cI am m, gA cI re 7 rf] [(0, .ref x), (1, .int p1), (2, .int p2), (3, .int p3)]
  refine g_aload_n C dX5_two_0 0 rfl rfl ?_
  refine g_get (v := .ref (an 0)) (ci := 4) C dX5_two_1 inw_X5 rfl 0 0 0 rfl rfl (Nat.le_of_ble_eq_true rfl) rfl fl_X5_10 rfl rfl ?_
  refine g_iload_n C dX5_two_4 1 rfl rfl ?_
  refine g_callVi (As := [.int p1]) (gr := [gObj x an am aq ap al au re pq, gPar cI am m, gA cI re 7 rf]) C (c_X3_there l D cI cQ an n p1 _) dX5_two_5 ⟨ml_X5_72, kV_X3_there⟩ ⟨Nat.le_of_ble_eq_true rfl, Nat.le_of_ble_eq_true rfl⟩ ⟨Nat.le_refl _, Nat.le_refl _⟩ rfl rfl 0 0 rfl rfl [1, 0, 2, 3] 4 rfl pmb_1_0_2_3 rfl rfl rfl (Nat.le_of_ble_eq_true rfl) rfl (fun (u : Unit) => [gObj x an am aq ap al au re pq, gPar cI an n, gPar cI am m, gA cI re 7 rf]) [1, 0, 2, 3] 4 (fun _ => rfl) pmb_1_0_2_3 (fun _ => rfl) hw (fun r1 u1 hw => ?_)
  refine jn_el hw (fun (z2 : Unit) => xG p l e (rmL 6 0 0 143) s mi args below meth co D A 7 Q 0 0 27 [] [gObj x an am aq ap al au re pq, gPar cI an n, gPar cI am m, gA cI re 7 rf] [(0, .ref x)]) ?_ ?_
  · rintro _ hw
    show xG p l e (rmL 6 0 0 143) s mi args below meth co D A 7 Q 0 0 27 [] [gObj x an am aq ap al au re pq, gPar cI an n, gPar cI am m, gA cI re 7 rf] [(0, .ref x)]
    refine g_aload_n C dX5_two_27 0 rfl rfl ?_
    refine g_iconst (v := -1) C dX5_two_28 (by decide) rfl ?_
    refine g_callVi (As := [.int (-1 : Int32)]) (gr := [gPar cI an n, gPar cI am m]) C (c_X5_refuse l D cI cQ x an am aq ap b al au re pq rf (-1 : Int32) _) dX5_two_29 ⟨ml_X5_51, kV_X5_refuse⟩ ⟨Nat.le_of_ble_eq_true rfl, Nat.le_of_ble_eq_true rfl⟩ ⟨Nat.le_refl _, Nat.le_refl _⟩ rfl rfl 0 0 rfl rfl [0, 3, 1, 2] 4 rfl pmb_0_3_1_2 rfl rfl rfl (Nat.le_of_ble_eq_true rfl) rfl (fun (u : F1) => [gObj x an am aq ap al au re pq, gPar cI an n, gPar cI am m, gA cI re 7 u]) [0, 2, 3, 1] 4 (fun _ => rfl) pmb_0_2_3_1 (fun _ => rfl) hw (fun r3 u3 hw => ?_)
    obtain ⟨rfv4, rfl⟩ : ∃ z, z = u3 := ⟨_, rfl⟩
    exact hret 32 r3 (m, rfv4) _ dX5_two_32 hw
  · intro J2 hJ2 hw
    refine g_if_eq (tgt := 27) C dX5_two_8 (by decide) rfl hw (fun _ hw => ?_) (fun _ hw => ?_)
    · refine g_lv [0] rfl ?_
      exact hJ2 () hw
    · refine g_aload_n C dX5_two_11 0 rfl rfl ?_
      refine g_get (v := .ref (an 0)) (ci := 4) C dX5_two_12 inw_X5 rfl 0 0 0 rfl rfl (Nat.le_of_ble_eq_true rfl) rfl fl_X5_10 rfl rfl ?_
      refine g_iload_n C dX5_two_15 2 rfl rfl ?_
      refine g_callVi (As := [.int p2]) (gr := [gObj x an am aq ap al au re pq, gPar cI am m, gA cI re 7 rf]) C (c_X3_there l D cI cQ an n p2 _) dX5_two_16 ⟨ml_X5_72, kV_X3_there⟩ ⟨Nat.le_of_ble_eq_true rfl, Nat.le_of_ble_eq_true rfl⟩ ⟨Nat.le_refl _, Nat.le_refl _⟩ rfl rfl 0 0 rfl rfl [1, 0, 2, 3] 4 rfl pmb_1_0_2_3 rfl rfl rfl (Nat.le_of_ble_eq_true rfl) rfl (fun (u : Unit) => [gObj x an am aq ap al au re pq, gPar cI an n, gPar cI am m, gA cI re 7 rf]) [1, 0, 2, 3] 4 (fun _ => rfl) pmb_1_0_2_3 (fun _ => rfl) hw (fun r5 u5 hw => ?_)
      refine g_if_eq (tgt := 27) C dX5_two_19 (by decide) rfl hw (fun _ hw => ?_) (fun _ hw => ?_)
      · refine g_lv [0] rfl ?_
        exact hJ2 () hw
      · refine g_iload_n C dX5_two_22 1 rfl rfl ?_
        refine g_iload_n C dX5_two_23 2 rfl rfl ?_
        refine g_icmp_ne (tgt := 33) C dX5_two_24 (by decide) rfl hw (fun _ hw => ?_) (fun _ hw => ?_)
        · refine g_iload_n C dX5_two_33 3 rfl rfl ?_
          refine g_iconst (v := 0) C dX5_two_34 rfl rfl ?_
          refine g_bipush (v := 30) C dX5_two_35 (by decide) rfl ?_
          refine g_callSi (As := [.int p3, .int (0 : Int32), .int (30 : Int32)]) (gr := [gObj x an am aq ap al au re pq, gPar cI an n, gPar cI am m, gA cI re 7 rf]) C (c_X5_outside l D cI cQ   p3 (0 : Int32) (30 : Int32) _) dX5_two_37 ⟨ml_X5_47, kS_X5_outside⟩ ⟨Nat.le_of_ble_eq_true rfl, Nat.le_of_ble_eq_true rfl⟩ ⟨Nat.le_refl _, Nat.le_refl _⟩ [0, 1, 2, 3] 4 rfl pmb_0_1_2_3 rfl rfl rfl (Nat.le_of_ble_eq_true rfl) rfl (fun (u : Unit) => [gObj x an am aq ap al au re pq, gPar cI an n, gPar cI am m, gA cI re 7 rf]) [0, 1, 2, 3] 4 (fun _ => rfl) pmb_0_1_2_3 (fun _ => rfl) hw (fun r6 u6 hw => ?_)
          refine g_istore (v := r6) C dX5_two_40 rfl (Nat.le_of_ble_eq_true rfl) (lv' := [(4, .int r6), (0, .ref x), (1, .int p1), (2, .int p2), (3, .int p3)]) rfl rfl ?_
          refine g_iload C dX5_two_42 0 rfl rfl ?_
          refine g_if_eq (tgt := 54) C dX5_two_44 (by decide) rfl hw (fun _ hw => ?_) (fun _ hw => ?_)
          · refine g_iconst (v := 0) C dX5_two_54 rfl rfl ?_
            refine g_istore (v := (0 : Int32)) C dX5_two_55 rfl (Nat.le_of_ble_eq_true rfl) (lv' := [(5, .int (0 : Int32)), (4, .int r6), (0, .ref x), (1, .int p1), (2, .int p2), (3, .int p3)]) rfl rfl ?_
            refine g_lv [2, 3, 4, 5, 0] rfl ?_
            refine lpN_ind (G := (fun (z9 : Int32 × PT) => (fun (x7 : Int32) (mv8 : PT) => xG p l e (rmL 6 0 0 143) s mi args below meth co D A 7 Q 0 0 57 [] [gObj x an am aq ap al au re pq, gPar cI an n, gPar cI am mv8, gA cI re 7 rf] [(0, .ref x), (1, .int p1), (2, .int p2), (3, .int p3), (5, .int x7)]) z9.1 z9.2)) ?_ 1000 ((0 : Int32), m) hw
            rintro K9 ⟨x7, mv8⟩ ih9 hw
            show xG p l e (rmL 6 0 0 143) s mi args below meth co D A 7 Q 0 0 57 [] [gObj x an am aq ap al au re pq, gPar cI an n, gPar cI am mv8, gA cI re 7 rf] [(0, .ref x), (1, .int p1), (2, .int p2), (3, .int p3), (5, .int x7)]
            refine g_iload C dX5_two_57 4 rfl rfl ?_
            refine g_iconst (v := 1) C dX5_two_59 rfl rfl ?_
            refine g_icmp_gt (tgt := 121) C dX5_two_60 (by decide) rfl hw (fun _ hw => ?_) (fun _ hw => ?_)
            · refine g_bipush (v := -9) C dX5_two_121 (by decide) rfl ?_
              exact hret 123 (-9 : Int32) (mv8, rf) _ dX5_two_123 hw
            · refine g_iconst (v := 0) C dX5_two_63 rfl rfl ?_
              refine g_istore (v := (0 : Int32)) C dX5_two_64 rfl (Nat.le_of_ble_eq_true rfl) (lv' := [(6, .int (0 : Int32)), (0, .ref x), (1, .int p1), (2, .int p2), (3, .int p3), (5, .int x7)]) rfl rfl ?_
              refine g_lv [1, 2, 3, 4, 5, 0] rfl ?_
              refine lpN_ind (G := (fun (z12 : Int32 × PT) => (fun (x10 : Int32) (mv11 : PT) => xG p l e (rmL 6 0 0 143) s mi args below meth co D A 7 Q 0 0 66 [] [gObj x an am aq ap al au re pq, gPar cI an n, gPar cI am mv11, gA cI re 7 rf] [(0, .ref x), (1, .int p1), (2, .int p2), (3, .int p3), (5, .int x7), (6, .int x10)]) z12.1 z12.2)) ?_ 1000 ((0 : Int32), mv8) hw
              rintro K12 ⟨x10, mv11⟩ ih12 hw
              show xG p l e (rmL 6 0 0 143) s mi args below meth co D A 7 Q 0 0 66 [] [gObj x an am aq ap al au re pq, gPar cI an n, gPar cI am mv11, gA cI re 7 rf] [(0, .ref x), (1, .int p1), (2, .int p2), (3, .int p3), (5, .int x7), (6, .int x10)]
              refine g_iload C dX5_two_66 5 rfl rfl ?_
              refine g_iconst (v := 1) C dX5_two_68 rfl rfl ?_
              refine g_icmp_gt (tgt := 115) C dX5_two_69 (by decide) rfl hw (fun _ hw => ?_) (fun _ hw => ?_)
              · refine g_iinc (v := (x7 + 1)) (j := 4) C dX5_two_115 rfl rfl (Nat.le_of_ble_eq_true rfl) (lv' := [(5, .int (x7 + 1)), (0, .ref x), (1, .int p1), (2, .int p2), (3, .int p3), (6, .int x10)]) rfl rfl ?_
                refine g_goto (pc' := 57) C dX5_two_118 (by decide) rfl ?_
                refine g_lv [1, 2, 3, 4, 0] rfl ?_
                exact ih9 ((x7 + 1), mv11) hw
              · refine g_aload_n C dX5_two_72 0 rfl rfl ?_
                refine g_iload_n C dX5_two_73 1 rfl rfl ?_
                refine g_iload C dX5_two_74 4 rfl rfl ?_
                refine g_iload_n C dX5_two_76 2 rfl rfl ?_
                refine g_iload C dX5_two_77 5 rfl rfl ?_
                refine g_iload_n C dX5_two_79 3 rfl rfl ?_
                refine g_callVi (As := [.int p1, .int x7, .int p2, .int x10, .int p3]) (gr := [gA cI re 7 rf]) C (c_X5_isContent l D cI cQ x an am aq ap b al au re pq n mv11 p1 x7 p2 x10 p3 _) dX5_two_80 ⟨ml_X5_185, kV_X5_isContent⟩ ⟨Nat.le_of_ble_eq_true rfl, Nat.le_of_ble_eq_true rfl⟩ ⟨Nat.le_refl _, Nat.le_refl _⟩ rfl rfl 0 0 rfl rfl [0, 1, 2, 3] 4 rfl pmb_0_1_2_3 rfl rfl rfl (Nat.le_of_ble_eq_true rfl) rfl (fun (u : PT) => [gObj x an am aq ap al au re pq, gPar cI an n, gPar cI am u, gA cI re 7 rf]) [0, 1, 2, 3] 4 (fun _ => rfl) pmb_0_1_2_3 (fun _ => rfl) hw (fun r13 u13 hw => ?_)
                obtain ⟨mv14, rfl⟩ : ∃ z, z = u13 := ⟨_, rfl⟩
                refine g_if_eq (tgt := 109) C dX5_two_83 (by decide) rfl hw (fun _ hw => ?_) (fun _ hw => ?_)
                · refine g_iinc (v := (x10 + 1)) (j := 5) C dX5_two_109 rfl rfl (Nat.le_of_ble_eq_true rfl) (lv' := [(6, .int (x10 + 1)), (0, .ref x), (1, .int p1), (2, .int p2), (3, .int p3), (5, .int x7)]) rfl rfl ?_
                  refine g_goto (pc' := 66) C dX5_two_112 (by decide) rfl ?_
                  refine g_lv [1, 2, 3, 4, 5, 0] rfl ?_
                  exact ih12 ((x10 + 1), mv14) hw
                · refine g_aload_n C dX5_two_86 0 rfl rfl ?_
                  refine g_iload_n C dX5_two_87 2 rfl rfl ?_
                  refine g_iload C dX5_two_88 5 rfl rfl ?_
                  refine g_iload_n C dX5_two_90 1 rfl rfl ?_
                  refine g_iload C dX5_two_91 4 rfl rfl ?_
                  refine g_iload_n C dX5_two_93 3 rfl rfl ?_
                  refine g_callVi (As := [.int p2, .int x10, .int p1, .int x7, .int p3]) (gr := [gA cI re 7 rf]) C (c_X5_isContent l D cI cQ x an am aq ap b al au re pq n mv14 p2 x10 p1 x7 p3 _) dX5_two_94 ⟨ml_X5_185, kV_X5_isContent⟩ ⟨Nat.le_of_ble_eq_true rfl, Nat.le_of_ble_eq_true rfl⟩ ⟨Nat.le_refl _, Nat.le_refl _⟩ rfl rfl 0 0 rfl rfl [0, 1, 2, 3] 4 rfl pmb_0_1_2_3 rfl rfl rfl (Nat.le_of_ble_eq_true rfl) rfl (fun (u : PT) => [gObj x an am aq ap al au re pq, gPar cI an n, gPar cI am u, gA cI re 7 rf]) [0, 1, 2, 3] 4 (fun _ => rfl) pmb_0_1_2_3 (fun _ => rfl) hw (fun r15 u15 hw => ?_)
                  obtain ⟨mv16, rfl⟩ : ∃ z, z = u15 := ⟨_, rfl⟩
                  refine g_if_eq (tgt := 109) C dX5_two_97 (by decide) rfl hw (fun _ hw => ?_) (fun _ hw => ?_)
                  · refine g_iinc (v := (x10 + 1)) (j := 5) C dX5_two_109 rfl rfl (Nat.le_of_ble_eq_true rfl) (lv' := [(6, .int (x10 + 1)), (0, .ref x), (1, .int p1), (2, .int p2), (3, .int p3), (5, .int x7)]) rfl rfl ?_
                    refine g_goto (pc' := 66) C dX5_two_112 (by decide) rfl ?_
                    refine g_lv [1, 2, 3, 4, 5, 0] rfl ?_
                    exact ih12 ((x10 + 1), mv16) hw
                  · refine g_bipush (v := 10) C dX5_two_100 (by decide) rfl ?_
                    refine g_iload C dX5_two_102 4 rfl rfl ?_
                    refine g_imul C dX5_two_104 rfl ?_
                    refine g_iload C dX5_two_105 5 rfl rfl ?_
                    refine g_iadd C dX5_two_107 rfl ?_
                    exact hret 108 (((10 : Int32) * x7) + x10) (mv16, rf) _ dX5_two_108 hw
          · refine g_aload_n C dX5_two_47 1 rfl rfl ?_
            refine g_iload C dX5_two_48 0 rfl rfl ?_
            refine g_callVi (As := [.int r6]) (gr := [gPar cI an n, gPar cI am m]) C (c_X5_refuse l D cI cQ x an am aq ap b al au re pq rf r6 _) dX5_two_50 ⟨ml_X5_51, kV_X5_refuse⟩ ⟨Nat.le_of_ble_eq_true rfl, Nat.le_of_ble_eq_true rfl⟩ ⟨Nat.le_refl _, Nat.le_refl _⟩ rfl rfl 0 0 rfl rfl [0, 3, 1, 2] 4 rfl pmb_0_3_1_2 rfl rfl rfl (Nat.le_of_ble_eq_true rfl) rfl (fun (u : F1) => [gObj x an am aq ap al au re pq, gPar cI an n, gPar cI am m, gA cI re 7 u]) [0, 2, 3, 1] 4 (fun _ => rfl) pmb_0_2_3_1 (fun _ => rfl) hw (fun r17 u17 hw => ?_)
            obtain ⟨rfv18, rfl⟩ : ∃ z, z = u17 := ⟨_, rfl⟩
            exact hret 53 r17 (m, rfv18) _ dX5_two_53 hw
        · refine g_lv [0] rfl ?_
          exact hJ2 () hw
set_option maxRecDepth 100000 in
theorem c_X5_two (l : Launch) (D : va_G) (cI cQ : ClassId) (x : Nat) (an : Nat → Nat) (am : Nat → Nat) (aq : Nat → Nat) (ap : Nat → Nat) (b : Nat → Nat → Nat) (al : Nat → Nat) (au : Nat → Nat) (re : Nat) (pq : Int32) (n : PT) (m : PT) (rf : F1) (p1 : Int32) (p2 : Int32) (p3 : Int32) (post : Int32 → PT × F1 → Prop) (sz : Nat) : Met l yX5_two (wsY yX5_two cX5_two 7 (some .int)) (rmL 6 0 0 143) (xP D (tyL cI cQ) [.ref x, .int p1, .int p2, .int p3] [gObj x an am aq ap al au re pq, gPar cI an n, gPar cI am m, gA cI re 7 rf] sz (p_X5_two n m rf p1 p2 p3 post)) (xQi D (tyL cI cQ) post (fun (u : PT × F1) => [gObj x an am aq ap al au re pq, gPar cI an n, gPar cI am u.1, gA cI re 7 u.2]) (va_A [gObj x an am aq ap al au re pq, gPar cI an n, gPar cI am m, gA cI re 7 rf].flatten sz)) 0 0 (va_A [gObj x an am aq ap al au re pq, gPar cI an n, gPar cI am m, gA cI re 7 rf].flatten sz) :=
  Met_i pn_X5 (Nat.le_of_ble_eq_true rfl) (fun p e s mi below meth co A Q _ C hret hw => w_X5_two x an am aq ap b al au re pq n m rf p1 p2 p3 C hret hw)
theorem kV_X5_two : Cond.instanceMethod yX5_two ∈ gTbl ∧ Cond.selects yX5_two.cls yX5_two yX5_two ∈ gTbl ∧ Cond.initialized yX5_two.cls ∈ gTbl ∧ Cond.code yX5_two cX5_two 7 (some .int) ∈ gTbl ∧ (yX5_two.cls ≠ "java/lang/invoke/MethodHandle" ∧ yX5_two.cls ≠ "java/lang/invoke/VarHandle" ∧ (parseMethodDescriptor yX5_two.desc).map (fun d => d.parameters.length) = some 3) := ⟨im_X5_two, sl_X5_two, in_X5, cd_X5_two, (by decide +kernel)⟩
set_option maxRecDepth 100000 in
def p_X5_refuseLong (rf : F1) (p1 : Int32) (post : Int64 → F1 → Prop) : Prop := p_X5_refuse rf p1 (fun (r1 : Int32) (u1 : F1) => (fun (rfv2 : F1) => post ((4000000000000000000 : Int64) - (r1).toInt64) rfv2) u1)
set_option maxHeartbeats 4000000 in
set_option maxRecDepth 100000 in
theorem w_X5_refuseLong {p : Program} {l : Launch} {e : Env} {s : State} {mi : MethodId} {args : Array Value} {below : List Frame} {meth : Method} {co : Code} {D : va_G} {cI cQ : ClassId} {A : Nat → Prop} {Q : State → Prop} (x : Nat) (an : Nat → Nat) (am : Nat → Nat) (aq : Nat → Nat) (ap : Nat → Nat) (b : Nat → Nat → Nat) (al : Nat → Nat) (au : Nat → Nat) (re : Nat) (pq : Int32) (rf : F1) (p1 : Int32) {post : Int64 → F1 → Prop} (C : xC p s mi args co cX5_refuseLong RX5 2 D (tyL cI cQ) A) (hret : ∀ (pc : Nat) (r : Int64) (u : F1) (lv : List (Nat × Value)), decode cX5_refuseLong pc = .ok (.lreturn, 1) → post r u → xG p l e (rmL 1 0 0 21) s mi args below meth co D A 2 Q 0 0 pc [.long r] [gObj x an am aq ap al au re pq, gA cI re 7 u] lv) (hw : p_X5_refuseLong rf p1 post) : xG p l e (rmL 1 0 0 21) s mi args below meth co D A 2 Q 0 0 0 [] [gObj x an am aq ap al au re pq, gA cI re 7 rf] [(0, .ref x), (1, .int p1)] := by
  unfold p_X5_refuseLong at hw
  try dsimp only at hw
  show xG p l e (rmL 1 0 0 21) s mi args below meth co D A 2 Q 0 0 0 [] [gObj x an am aq ap al au re pq, gA cI re 7 rf] [(0, .ref x), (1, .int p1)]
  refine g_ldc2 C dX5_refuseLong_0 ct_X5_245 rfl ?_
  refine g_aload_n C dX5_refuseLong_3 0 rfl rfl ?_
  refine g_iload_n C dX5_refuseLong_4 1 rfl rfl ?_
  refine g_callVi (As := [.int p1]) (gr := []) C (c_X5_refuse l D cI cQ x an am aq ap b al au re pq rf p1 _) dX5_refuseLong_5 ⟨ml_X5_51, kV_X5_refuse⟩ ⟨Nat.le_of_ble_eq_true rfl, Nat.le_of_ble_eq_true rfl⟩ ⟨Nat.le_refl _, Nat.le_refl _⟩ rfl rfl 0 0 rfl rfl [0, 1] 2 rfl pmb_0_1 rfl rfl rfl (Nat.le_of_ble_eq_true rfl) rfl (fun (u : F1) => [gObj x an am aq ap al au re pq, gA cI re 7 u]) [0, 1] 2 (fun _ => rfl) pmb_0_1 (fun _ => rfl) hw (fun r1 u1 hw => ?_)
  obtain ⟨rfv2, rfl⟩ : ∃ z, z = u1 := ⟨_, rfl⟩
  refine g_i2l C dX5_refuseLong_8 rfl ?_
  refine g_lsub C dX5_refuseLong_9 rfl ?_
  exact hret 10 ((4000000000000000000 : Int64) - (r1).toInt64) rfv2 _ dX5_refuseLong_10 hw
set_option maxRecDepth 100000 in
theorem c_X5_refuseLong (l : Launch) (D : va_G) (cI cQ : ClassId) (x : Nat) (an : Nat → Nat) (am : Nat → Nat) (aq : Nat → Nat) (ap : Nat → Nat) (b : Nat → Nat → Nat) (al : Nat → Nat) (au : Nat → Nat) (re : Nat) (pq : Int32) (rf : F1) (p1 : Int32) (post : Int64 → F1 → Prop) (sz : Nat) : Met l yX5_refuseLong (wsY yX5_refuseLong cX5_refuseLong 2 (some .long)) (rmL 1 0 0 21) (xP D (tyL cI cQ) [.ref x, .int p1] [gObj x an am aq ap al au re pq, gA cI re 7 rf] sz (p_X5_refuseLong rf p1 post)) (xQl D (tyL cI cQ) post (fun (u : F1) => [gObj x an am aq ap al au re pq, gA cI re 7 u]) (va_A [gObj x an am aq ap al au re pq, gA cI re 7 rf].flatten sz)) 0 0 (va_A [gObj x an am aq ap al au re pq, gA cI re 7 rf].flatten sz) :=
  Met_l pn_X5 (Nat.le_of_ble_eq_true rfl) (fun p e s mi below meth co A Q _ C hret hw => w_X5_refuseLong x an am aq ap b al au re pq rf p1 C hret hw)
theorem kV_X5_refuseLong : Cond.instanceMethod yX5_refuseLong ∈ gTbl ∧ Cond.selects yX5_refuseLong.cls yX5_refuseLong yX5_refuseLong ∈ gTbl ∧ Cond.initialized yX5_refuseLong.cls ∈ gTbl ∧ Cond.code yX5_refuseLong cX5_refuseLong 2 (some .long) ∈ gTbl ∧ (yX5_refuseLong.cls ≠ "java/lang/invoke/MethodHandle" ∧ yX5_refuseLong.cls ≠ "java/lang/invoke/VarHandle" ∧ (parseMethodDescriptor yX5_refuseLong.desc).map (fun d => d.parameters.length) = some 1) := ⟨im_X5_refuseLong, sl_X5_refuseLong, in_X5, cd_X5_refuseLong, (by decide +kernel)⟩
set_option maxRecDepth 100000 in
def p_X5_commonDivisor (p1 : Int64) (p2 : Int64) (post : Int64 → Prop) : Prop := lpN (fun (K4 : (Int64 × Int64 × Int32) → Prop) (z4 : Int64 × Int64 × Int32) => (fun (y1 : Int64) (y2 : Int64) (x3 : Int32) => (((128 : Int32) ≤ x3 → post y1) ∧ (¬ (128 : Int32) ≤ x3 → (((lg_cmp y2 (0 : Int64)) = 0 → post y1) ∧ (¬ (lg_cmp y2 (0 : Int64)) = 0 → ((¬ y2 = 0) ∧ nm ((y1 - y1 / y2 * y2) : Int64) (fun (v5 : Int64) => K4 (y2, v5, (x3 + 1))))))))) z4.1 z4.2.1 z4.2.2) 1000 (p1, p2, (0 : Int32))
set_option maxHeartbeats 4000000 in
set_option maxRecDepth 100000 in
theorem w_X5_commonDivisor {p : Program} {l : Launch} {e : Env} {s : State} {mi : MethodId} {args : Array Value} {below : List Frame} {meth : Method} {co : Code} {D : va_G} {cI cQ : ClassId} {A : Nat → Prop} {Q : State → Prop} (p1 : Int64) (p2 : Int64) {post : Int64 → Prop} (C : xC p s mi args co cX5_commonDivisor RX5 11 D (tyL cI cQ) A) (hret : ∀ (pc : Nat) (r : Int64) (u : Unit) (lv : List (Nat × Value)), decode cX5_commonDivisor pc = .ok (.lreturn, 1) → post r → xG p l e (rmL 0 0 0 0) s mi args below meth co D A 11 Q 0 0 pc [.long r] [] lv) (hw : p_X5_commonDivisor p1 p2 post) : xG p l e (rmL 0 0 0 0) s mi args below meth co D A 11 Q 0 0 0 [] [] [(0, .long p1), (2, .long p2)] := by
  unfold p_X5_commonDivisor at hw
  try dsimp only at hw
  show xG p l e (rmL 0 0 0 0) s mi args below meth co D A 11 Q 0 0 0 [] [] [(0, .long p1), (2, .long p2)]
  refine g_lload_n C dX5_commonDivisor_0 0 rfl rfl ?_
  refine g_lstore (v := p1) C dX5_commonDivisor_1 rfl (Nat.le_of_ble_eq_true rfl) (lv' := [(4, .long p1), (0, .long p1), (2, .long p2)]) rfl rfl ?_
  refine g_lload_n C dX5_commonDivisor_3 2 rfl rfl ?_
  refine g_lstore (v := p2) C dX5_commonDivisor_4 rfl (Nat.le_of_ble_eq_true rfl) (lv' := [(6, .long p2), (4, .long p1), (0, .long p1), (2, .long p2)]) rfl rfl ?_
  refine g_iconst (v := 0) C dX5_commonDivisor_6 rfl rfl ?_
  refine g_istore (v := (0 : Int32)) C dX5_commonDivisor_7 rfl (Nat.le_of_ble_eq_true rfl) (lv' := [(8, .int (0 : Int32)), (6, .long p2), (4, .long p1), (0, .long p1), (2, .long p2)]) rfl rfl ?_
  refine g_lv [2, 1, 0] rfl ?_
  refine lpN_ind (G := (fun (z4 : Int64 × Int64 × Int32) => (fun (y1 : Int64) (y2 : Int64) (x3 : Int32) => xG p l e (rmL 0 0 0 0) s mi args below meth co D A 11 Q 0 0 9 [] [] [(4, .long y1), (6, .long y2), (8, .int x3)]) z4.1 z4.2.1 z4.2.2)) ?_ 1000 (p1, p2, (0 : Int32)) hw
  rintro K4 ⟨y1, y2, x3⟩ ih4 hw
  show xG p l e (rmL 0 0 0 0) s mi args below meth co D A 11 Q 0 0 9 [] [] [(4, .long y1), (6, .long y2), (8, .int x3)]
  refine g_iload C dX5_commonDivisor_9 2 rfl rfl ?_
  refine g_sipush (v := 128) C dX5_commonDivisor_11 (by decide) rfl ?_
  refine g_icmp_ge (tgt := 45) C dX5_commonDivisor_14 (by decide) rfl hw (fun _ hw => ?_) (fun _ hw => ?_)
  · refine g_lload C dX5_commonDivisor_45 0 rfl rfl ?_
    exact hret 47 y1 () _ dX5_commonDivisor_47 hw
  · refine g_lload C dX5_commonDivisor_17 1 rfl rfl ?_
    refine g_lconst (v := 0) C dX5_commonDivisor_19 rfl rfl ?_
    refine g_lcmp C dX5_commonDivisor_20 rfl ?_
    refine g_if_eq (tgt := 45) C dX5_commonDivisor_21 (by decide) rfl hw (fun _ hw => ?_) (fun _ hw => ?_)
    · refine g_lload C dX5_commonDivisor_45 0 rfl rfl ?_
      exact hret 47 y1 () _ dX5_commonDivisor_47 hw
    · refine g_lload C dX5_commonDivisor_24 0 rfl rfl ?_
      refine g_lload C dX5_commonDivisor_26 1 rfl rfl ?_
      have hz28 := hw.1
      replace hw := hw.2
      refine g_lrem C dX5_commonDivisor_28 hz28 rfl ?_
      refine nm_el hw (fun v5 ev5 hw => ?_)
      refine g_lstore (v := v5) C dX5_commonDivisor_29 ev5.symm (Nat.le_of_ble_eq_true rfl) (lv' := [(9, .long v5), (4, .long y1), (6, .long y2), (8, .int x3)]) rfl rfl ?_
      refine g_lload C dX5_commonDivisor_31 2 rfl rfl ?_
      refine g_lstore (v := y2) C dX5_commonDivisor_33 rfl (Nat.le_of_ble_eq_true rfl) (lv' := [(4, .long y2), (9, .long v5), (6, .long y2), (8, .int x3)]) rfl rfl ?_
      refine g_lload C dX5_commonDivisor_35 1 rfl rfl ?_
      refine g_lstore (v := v5) C dX5_commonDivisor_37 rfl (Nat.le_of_ble_eq_true rfl) (lv' := [(6, .long v5), (4, .long y2), (9, .long v5), (8, .int x3)]) rfl rfl ?_
      refine g_iinc (v := (x3 + 1)) (j := 3) C dX5_commonDivisor_39 rfl rfl (Nat.le_of_ble_eq_true rfl) (lv' := [(8, .int (x3 + 1)), (6, .long v5), (4, .long y2), (9, .long v5)]) rfl rfl ?_
      refine g_goto (pc' := 9) C dX5_commonDivisor_42 (by decide) rfl ?_
      refine g_lv [2, 1, 0] rfl ?_
      exact ih4 (y2, v5, (x3 + 1)) hw
set_option maxRecDepth 100000 in
theorem c_X5_commonDivisor (l : Launch) (D : va_G) (cI cQ : ClassId) (p1 : Int64) (p2 : Int64) (post : Int64 → Prop) (sz : Nat) : Met l yX5_commonDivisor (wsY yX5_commonDivisor cX5_commonDivisor 11 (some .long)) (rmL 0 0 0 0) (xP D (tyL cI cQ) [.long p1, .long p2] [] sz (p_X5_commonDivisor p1 p2 post)) (xQl D (tyL cI cQ) (fun (r : Int64) (_ : Unit) => post r) (fun (u : Unit) => []) (va_A [].flatten sz)) 0 0 (va_A [].flatten sz) :=
  Met_l pn_X5 (Nat.le_of_ble_eq_true rfl) (fun p e s mi below meth co A Q _ C hret hw => w_X5_commonDivisor p1 p2 C hret hw)
theorem kS_X5_commonDivisor : Cond.static yX5_commonDivisor ∈ gTbl ∧ Cond.initialized yX5_commonDivisor.cls ∈ gTbl ∧ Cond.code yX5_commonDivisor cX5_commonDivisor 11 (some .long) ∈ gTbl ∧ (yX5_commonDivisor.cls ≠ "java/lang/invoke/MethodHandle" ∧ yX5_commonDivisor.cls ≠ "java/lang/invoke/VarHandle" ∧ (parseMethodDescriptor yX5_commonDivisor.desc).map (fun d => d.parameters.length) = some 2) := ⟨sm_X5_commonDivisor, in_X5, cd_X5_commonDivisor, (by decide +kernel)⟩
set_option maxRecDepth 100000 in
def p_X5_partOf (p1 : Int64) (p2 : Int64) (p3 : Int32) (post : Int64 → Prop) : Prop := jn (fun (z1 : Unit) => ((p3 = 0 → post (0 : Int64)) ∧ (¬ p3 = 0 → post (1 : Int64)))) (fun J1 => (((lg_cmp p1 (0 : Int64)) ≤ 0 → J1 ()) ∧ (¬ (lg_cmp p1 (0 : Int64)) ≤ 0 → (((0 : Int32) < (lg_cmp p2 (0 : Int64)) → jn (fun (z3 : Int64) => (fun (y2 : Int64) => p_X5_commonDivisor p1 p2 (fun (r4 : Int64) => (((lg_cmp r4 (1 : Int64)) ≤ 0 → post y2) ∧ (¬ (lg_cmp r4 (1 : Int64)) ≤ 0 → ((¬ r4 = 0) ∧ post (y2 / r4)))))) z3) (fun J3 => ((p3 = 0 → J3 p1) ∧ (¬ p3 = 0 → J3 p2)))) ∧ (¬ (0 : Int32) < (lg_cmp p2 (0 : Int64)) → J1 ())))))
set_option maxHeartbeats 4000000 in
set_option maxRecDepth 100000 in
theorem w_X5_partOf {p : Program} {l : Launch} {e : Env} {s : State} {mi : MethodId} {args : Array Value} {below : List Frame} {meth : Method} {co : Code} {D : va_G} {cI cQ : ClassId} {A : Nat → Prop} {Q : State → Prop} (p1 : Int64) (p2 : Int64) (p3 : Int32) {post : Int64 → Prop} (C : xC p s mi args co cX5_partOf RX5 9 D (tyL cI cQ) A) (hret : ∀ (pc : Nat) (r : Int64) (u : Unit) (lv : List (Nat × Value)), decode cX5_partOf pc = .ok (.lreturn, 1) → post r → xG p l e (rmL 1 0 0 30) s mi args below meth co D A 9 Q 0 0 pc [.long r] [] lv) (hw : p_X5_partOf p1 p2 p3 post) : xG p l e (rmL 1 0 0 30) s mi args below meth co D A 9 Q 0 0 0 [] [] [(0, .long p1), (2, .long p2), (4, .int p3)] := by
  unfold p_X5_partOf at hw
  try dsimp only at hw
  show xG p l e (rmL 1 0 0 30) s mi args below meth co D A 9 Q 0 0 0 [] [] [(0, .long p1), (2, .long p2), (4, .int p3)]
  refine g_lload_n C dX5_partOf_0 0 rfl rfl ?_
  refine g_lconst (v := 0) C dX5_partOf_1 rfl rfl ?_
  refine g_lcmp C dX5_partOf_2 rfl ?_
  refine jn_el hw (fun (z1 : Unit) => xG p l e (rmL 1 0 0 30) s mi args below meth co D A 9 Q 0 0 12 [] [] [(4, .int p3)]) ?_ ?_
  · rintro _ hw
    show xG p l e (rmL 1 0 0 30) s mi args below meth co D A 9 Q 0 0 12 [] [] [(4, .int p3)]
    refine g_iload C dX5_partOf_12 0 rfl rfl ?_
    refine g_if_ne (tgt := 21) C dX5_partOf_14 (by decide) rfl hw (fun _ hw => ?_) (fun _ hw => ?_)
    · refine g_lconst (v := 1) C dX5_partOf_21 rfl rfl ?_
      exact hret 22 (1 : Int64) () _ dX5_partOf_22 hw
    · refine g_lconst (v := 0) C dX5_partOf_17 rfl rfl ?_
      refine g_goto (pc' := 22) C dX5_partOf_18 (by decide) rfl ?_
      exact hret 22 (0 : Int64) () _ dX5_partOf_22 hw
  · intro J1 hJ1 hw
    refine g_if_le (tgt := 12) C dX5_partOf_3 (by decide) rfl hw (fun _ hw => ?_) (fun _ hw => ?_)
    · refine g_lv [2] rfl ?_
      exact hJ1 () hw
    · refine g_lload_n C dX5_partOf_6 1 rfl rfl ?_
      refine g_lconst (v := 0) C dX5_partOf_7 rfl rfl ?_
      refine g_lcmp C dX5_partOf_8 rfl ?_
      refine g_if_gt (tgt := 23) C dX5_partOf_9 (by decide) rfl hw (fun _ hw => ?_) (fun _ hw => ?_)
      · refine g_iload C dX5_partOf_23 2 rfl rfl ?_
        refine jn_el hw (fun (z3 : Int64) => (fun (y2 : Int64) => xG p l e (rmL 1 0 0 30) s mi args below meth co D A 9 Q 0 0 33 [.long y2] [] [(0, .long p1), (2, .long p2)]) z3) ?_ ?_
        · rintro y2 hw
          show xG p l e (rmL 1 0 0 30) s mi args below meth co D A 9 Q 0 0 33 [.long y2] [] [(0, .long p1), (2, .long p2)]
          refine g_lstore (v := y2) C dX5_partOf_33 rfl (Nat.le_of_ble_eq_true rfl) (lv' := [(5, .long y2), (0, .long p1), (2, .long p2)]) rfl rfl ?_
          refine g_lload_n C dX5_partOf_35 1 rfl rfl ?_
          refine g_lload_n C dX5_partOf_36 2 rfl rfl ?_
          refine g_callSl (As := [.long p1, .long p2]) (gr := []) C (c_X5_commonDivisor l D cI cQ   p1 p2 _) dX5_partOf_37 ⟨ml_X5_279, kS_X5_commonDivisor⟩ ⟨Nat.le_of_ble_eq_true rfl, Nat.le_of_ble_eq_true rfl⟩ ⟨Nat.le_refl _, Nat.le_refl _⟩ [] 0 rfl pmb_ rfl rfl rfl (Nat.le_of_ble_eq_true rfl) rfl (fun (u : Unit) => []) [] 0 (fun _ => rfl) pmb_ (fun _ => rfl) hw (fun r4 u4 hw => ?_)
          refine g_lstore (v := r4) C dX5_partOf_40 rfl (Nat.le_of_ble_eq_true rfl) (lv' := [(7, .long r4), (5, .long y2), (0, .long p1), (2, .long p2)]) rfl rfl ?_
          refine g_lload C dX5_partOf_42 0 rfl rfl ?_
          refine g_lconst (v := 1) C dX5_partOf_44 rfl rfl ?_
          refine g_lcmp C dX5_partOf_45 rfl ?_
          refine g_if_le (tgt := 57) C dX5_partOf_46 (by decide) rfl hw (fun _ hw => ?_) (fun _ hw => ?_)
          · refine g_lload C dX5_partOf_57 1 rfl rfl ?_
            exact hret 59 y2 () _ dX5_partOf_59 hw
          · refine g_lload C dX5_partOf_49 1 rfl rfl ?_
            refine g_lload C dX5_partOf_51 0 rfl rfl ?_
            have hz53 := hw.1
            replace hw := hw.2
            refine g_ldiv C dX5_partOf_53 hz53 rfl ?_
            refine g_goto (pc' := 59) C dX5_partOf_54 (by decide) rfl ?_
            exact hret 59 (y2 / r4) () _ dX5_partOf_59 hw
        · intro J3 hJ3 hw
          refine g_if_ne (tgt := 32) C dX5_partOf_25 (by decide) rfl hw (fun _ hw => ?_) (fun _ hw => ?_)
          · refine g_lload_n C dX5_partOf_32 1 rfl rfl ?_
            refine g_lv [0, 1] rfl ?_
            exact hJ3 p2 hw
          · refine g_lload_n C dX5_partOf_28 0 rfl rfl ?_
            refine g_goto (pc' := 33) C dX5_partOf_29 (by decide) rfl ?_
            refine g_lv [0, 1] rfl ?_
            exact hJ3 p1 hw
      · refine g_lv [2] rfl ?_
        exact hJ1 () hw
set_option maxRecDepth 100000 in
theorem c_X5_partOf (l : Launch) (D : va_G) (cI cQ : ClassId) (p1 : Int64) (p2 : Int64) (p3 : Int32) (post : Int64 → Prop) (sz : Nat) : Met l yX5_partOf (wsY yX5_partOf cX5_partOf 9 (some .long)) (rmL 1 0 0 30) (xP D (tyL cI cQ) [.long p1, .long p2, .int p3] [] sz (p_X5_partOf p1 p2 p3 post)) (xQl D (tyL cI cQ) (fun (r : Int64) (_ : Unit) => post r) (fun (u : Unit) => []) (va_A [].flatten sz)) 0 0 (va_A [].flatten sz) :=
  Met_l pn_X5 (Nat.le_of_ble_eq_true rfl) (fun p e s mi below meth co A Q _ C hret hw => w_X5_partOf p1 p2 p3 C hret hw)
theorem kS_X5_partOf : Cond.static yX5_partOf ∈ gTbl ∧ Cond.initialized yX5_partOf.cls ∈ gTbl ∧ Cond.code yX5_partOf cX5_partOf 9 (some .long) ∈ gTbl ∧ (yX5_partOf.cls ≠ "java/lang/invoke/MethodHandle" ∧ yX5_partOf.cls ≠ "java/lang/invoke/VarHandle" ∧ (parseMethodDescriptor yX5_partOf.desc).map (fun d => d.parameters.length) = some 3) := ⟨sm_X5_partOf, in_X5, cd_X5_partOf, (by decide +kernel)⟩
set_option maxRecDepth 100000 in
def p_X5_blocked (n : PT) (m : PT) (rf : F1) (p1 : Int32) (p2 : Int32) (p3 : Int32) (p4 : Int32) (post : Int64 → PT × F1 → Prop) : Prop := jn (fun (z1 : Unit) => p_X5_refuseLong rf (-4 : Int32) (fun (r2 : Int64) (u2 : F1) => (fun (rfv3 : F1) => post r2 (m, rfv3)) u2)) (fun J1 => ((p1 < 0 → J1 ()) ∧ (¬ p1 < 0 → ((p2 < (2 : Int32) → J1 ()) ∧ (¬ p2 < (2 : Int32) → (((0 : Int32) ≤ p3 → jn (fun (z4 : Unit) => p_X5_refuseLong rf (-6 : Int32) (fun (r5 : Int64) (u5 : F1) => (fun (rfv6 : F1) => post r5 (m, rfv6)) u5)) (fun J4 => (((7 : Int32) < p1 → J4 ()) ∧ (¬ (7 : Int32) < p1 → (((20 : Int32) < p2 → J4 ()) ∧ (¬ (20 : Int32) < p2 → ((p3 ≤ (999 : Int32) → jn (fun (z7 : Unit) => p_X5_think n m (fun (u8 : PT) => (fun (mv9 : PT) => lpN (fun (K16 : (Int64 × Int64 × Int64 × Int64 × Int32 × PT) → Prop) (z16 : Int64 × Int64 × Int64 × Int64 × Int32 × PT) => (fun (y10 : Int64) (y11 : Int64) (y12 : Int64) (y13 : Int64) (x14 : Int32) (mv15 : PT) => ((p1 < x14 → p_X5_partOf y10 y11 p4 (fun (r17 : Int64) => post r17 (mv15, rf))) ∧ (¬ p1 < x14 → p_X3_inCup mv15 (fun (r18 : Int32) => jn (fun (z20 : Int64) => (fun (y19 : Int64) => ((¬ ((x14 + (1 : Int32))).toInt64 = 0) ∧ nm (((y12 * ((p1 - x14)).toInt64) / ((x14 + (1 : Int32))).toInt64) : Int64) (fun (v21 : Int64) => nm ((y13 * ((p2 - (1 : Int32))).toInt64) : Int64) (fun (v22 : Int64) => jn (fun (z24 : Int64) => (fun (y23 : Int64) => nm ((y11 * y23) : Int64) (fun (v25 : Int64) => p_X3_flow mv15 (fun (r26 : Int32) (u26 : PT) => (fun (mv27 : PT) => K16 (y19, v25, v21, v22, (x14 + 1), mv27)) u26))) z24) (fun J24 => ((p1 ≤ x14 → J24 (1 : Int64)) ∧ (¬ p1 ≤ x14 → J24 (p2).toInt64))))))) z20) (fun J20 => ((r18 < p3 → J20 y10) ∧ (¬ r18 < p3 → nm ((y10 + (y12 * y13)) : Int64) (fun (v28 : Int64) => J20 v28)))))))) z16.1 z16.2.1 z16.2.2.1 z16.2.2.2.1 z16.2.2.2.2.1 z16.2.2.2.2.2) 1000 ((0 : Int64), (1 : Int64), (1 : Int64), (1 : Int64), (0 : Int32), mv9)) u8)) (fun J7 => ((p4 = 0 → J7 ()) ∧ (¬ p4 = 0 → ((p4 = (1 : Int32) → J7 ()) ∧ (¬ p4 = (1 : Int32) → p_X5_refuseLong rf (-2 : Int32) (fun (r29 : Int64) (u29 : F1) => (fun (rfv30 : F1) => post r29 (m, rfv30)) u29))))))) ∧ (¬ p3 ≤ (999 : Int32) → J4 ())))))))) ∧ (¬ (0 : Int32) ≤ p3 → J1 ())))))))
set_option maxHeartbeats 4000000 in
set_option maxRecDepth 100000 in
theorem w_X5_blocked {p : Program} {l : Launch} {e : Env} {s : State} {mi : MethodId} {args : Array Value} {below : List Frame} {meth : Method} {co : Code} {D : va_G} {cI cQ : ClassId} {A : Nat → Prop} {Q : State → Prop} (x : Nat) (an : Nat → Nat) (am : Nat → Nat) (aq : Nat → Nat) (ap : Nat → Nat) (b : Nat → Nat → Nat) (al : Nat → Nat) (au : Nat → Nat) (re : Nat) (pq : Int32) (n : PT) (m : PT) (rf : F1) (p1 : Int32) (p2 : Int32) (p3 : Int32) (p4 : Int32) {post : Int64 → PT × F1 → Prop} (C : xC p s mi args co cX5_blocked RX5 14 D (tyL cI cQ) A) (hret : ∀ (pc : Nat) (r : Int64) (u : PT × F1) (lv : List (Nat × Value)), decode cX5_blocked pc = .ok (.lreturn, 1) → post r u → xG p l e (rmL 3 0 0 81) s mi args below meth co D A 14 Q 0 0 pc [.long r] [gObj x an am aq ap al au re pq, gPar cI an n, gPar cI am u.1, gA cI re 7 u.2] lv) (hw : p_X5_blocked n m rf p1 p2 p3 p4 post) : xG p l e (rmL 3 0 0 81) s mi args below meth co D A 14 Q 0 0 0 [] [gObj x an am aq ap al au re pq, gPar cI an n, gPar cI am m, gA cI re 7 rf] [(0, .ref x), (1, .int p1), (2, .int p2), (3, .int p3), (4, .int p4)] := by
  unfold p_X5_blocked at hw
  try dsimp only at hw
  show xG p l e (rmL 3 0 0 81) s mi args below meth co D A 14 Q 0 0 0 [] [gObj x an am aq ap al au re pq, gPar cI an n, gPar cI am m, gA cI re 7 rf] [(0, .ref x), (1, .int p1), (2, .int p2), (3, .int p3), (4, .int p4)]
  refine g_iload_n C dX5_blocked_0 1 rfl rfl ?_
  refine jn_el hw (fun (z1 : Unit) => xG p l e (rmL 3 0 0 81) s mi args below meth co D A 14 Q 0 0 13 [] [gObj x an am aq ap al au re pq, gPar cI an n, gPar cI am m, gA cI re 7 rf] [(0, .ref x)]) ?_ ?_
  · rintro _ hw
    show xG p l e (rmL 3 0 0 81) s mi args below meth co D A 14 Q 0 0 13 [] [gObj x an am aq ap al au re pq, gPar cI an n, gPar cI am m, gA cI re 7 rf] [(0, .ref x)]
    refine g_aload_n C dX5_blocked_13 0 rfl rfl ?_
    refine g_bipush (v := -4) C dX5_blocked_14 (by decide) rfl ?_
    refine g_callVl (As := [.int (-4 : Int32)]) (gr := [gPar cI an n, gPar cI am m]) C (c_X5_refuseLong l D cI cQ x an am aq ap b al au re pq rf (-4 : Int32) _) dX5_blocked_16 ⟨ml_X5_189, kV_X5_refuseLong⟩ ⟨Nat.le_of_ble_eq_true rfl, Nat.le_of_ble_eq_true rfl⟩ ⟨Nat.le_refl _, Nat.le_refl _⟩ rfl rfl 0 0 rfl rfl [0, 3, 1, 2] 4 rfl pmb_0_3_1_2 rfl rfl rfl (Nat.le_of_ble_eq_true rfl) rfl (fun (u : F1) => [gObj x an am aq ap al au re pq, gPar cI an n, gPar cI am m, gA cI re 7 u]) [0, 2, 3, 1] 4 (fun _ => rfl) pmb_0_2_3_1 (fun _ => rfl) hw (fun r2 u2 hw => ?_)
    obtain ⟨rfv3, rfl⟩ : ∃ z, z = u2 := ⟨_, rfl⟩
    exact hret 19 r2 (m, rfv3) _ dX5_blocked_19 hw
  · intro J1 hJ1 hw
    refine g_if_lt (tgt := 13) C dX5_blocked_1 (by decide) rfl hw (fun _ hw => ?_) (fun _ hw => ?_)
    · refine g_lv [0] rfl ?_
      exact hJ1 () hw
    · refine g_iload_n C dX5_blocked_4 2 rfl rfl ?_
      refine g_iconst (v := 2) C dX5_blocked_5 rfl rfl ?_
      refine g_icmp_lt (tgt := 13) C dX5_blocked_6 (by decide) rfl hw (fun _ hw => ?_) (fun _ hw => ?_)
      · refine g_lv [0] rfl ?_
        exact hJ1 () hw
      · refine g_iload_n C dX5_blocked_9 3 rfl rfl ?_
        refine g_if_ge (tgt := 20) C dX5_blocked_10 (by decide) rfl hw (fun _ hw => ?_) (fun _ hw => ?_)
        · refine g_iload_n C dX5_blocked_20 1 rfl rfl ?_
          refine g_bipush (v := 7) C dX5_blocked_21 (by decide) rfl ?_
          refine jn_el hw (fun (z4 : Unit) => xG p l e (rmL 3 0 0 81) s mi args below meth co D A 14 Q 0 0 39 [] [gObj x an am aq ap al au re pq, gPar cI an n, gPar cI am m, gA cI re 7 rf] [(0, .ref x)]) ?_ ?_
          · rintro _ hw
            show xG p l e (rmL 3 0 0 81) s mi args below meth co D A 14 Q 0 0 39 [] [gObj x an am aq ap al au re pq, gPar cI an n, gPar cI am m, gA cI re 7 rf] [(0, .ref x)]
            refine g_aload_n C dX5_blocked_39 0 rfl rfl ?_
            refine g_bipush (v := -6) C dX5_blocked_40 (by decide) rfl ?_
            refine g_callVl (As := [.int (-6 : Int32)]) (gr := [gPar cI an n, gPar cI am m]) C (c_X5_refuseLong l D cI cQ x an am aq ap b al au re pq rf (-6 : Int32) _) dX5_blocked_42 ⟨ml_X5_189, kV_X5_refuseLong⟩ ⟨Nat.le_of_ble_eq_true rfl, Nat.le_of_ble_eq_true rfl⟩ ⟨Nat.le_refl _, Nat.le_refl _⟩ rfl rfl 0 0 rfl rfl [0, 3, 1, 2] 4 rfl pmb_0_3_1_2 rfl rfl rfl (Nat.le_of_ble_eq_true rfl) rfl (fun (u : F1) => [gObj x an am aq ap al au re pq, gPar cI an n, gPar cI am m, gA cI re 7 u]) [0, 2, 3, 1] 4 (fun _ => rfl) pmb_0_2_3_1 (fun _ => rfl) hw (fun r5 u5 hw => ?_)
            obtain ⟨rfv6, rfl⟩ : ∃ z, z = u5 := ⟨_, rfl⟩
            exact hret 45 r5 (m, rfv6) _ dX5_blocked_45 hw
          · intro J4 hJ4 hw
            refine g_icmp_gt (tgt := 39) C dX5_blocked_23 (by decide) rfl hw (fun _ hw => ?_) (fun _ hw => ?_)
            · refine g_lv [0] rfl ?_
              exact hJ4 () hw
            · refine g_iload_n C dX5_blocked_26 2 rfl rfl ?_
              refine g_bipush (v := 20) C dX5_blocked_27 (by decide) rfl ?_
              refine g_icmp_gt (tgt := 39) C dX5_blocked_29 (by decide) rfl hw (fun _ hw => ?_) (fun _ hw => ?_)
              · refine g_lv [0] rfl ?_
                exact hJ4 () hw
              · refine g_iload_n C dX5_blocked_32 3 rfl rfl ?_
                refine g_sipush (v := 999) C dX5_blocked_33 (by decide) rfl ?_
                refine g_icmp_le (tgt := 46) C dX5_blocked_36 (by decide) rfl hw (fun _ hw => ?_) (fun _ hw => ?_)
                · refine g_iload C dX5_blocked_46 4 rfl rfl ?_
                  refine jn_el hw (fun (z7 : Unit) => xG p l e (rmL 3 0 0 81) s mi args below meth co D A 14 Q 0 0 64 [] [gObj x an am aq ap al au re pq, gPar cI an n, gPar cI am m, gA cI re 7 rf] [(0, .ref x), (1, .int p1), (2, .int p2), (3, .int p3), (4, .int p4)]) ?_ ?_
                  · rintro _ hw
                    show xG p l e (rmL 3 0 0 81) s mi args below meth co D A 14 Q 0 0 64 [] [gObj x an am aq ap al au re pq, gPar cI an n, gPar cI am m, gA cI re 7 rf] [(0, .ref x), (1, .int p1), (2, .int p2), (3, .int p3), (4, .int p4)]
                    refine g_lconst (v := 0) C dX5_blocked_64 rfl rfl ?_
                    refine g_lstore (v := (0 : Int64)) C dX5_blocked_65 rfl (Nat.le_of_ble_eq_true rfl) (lv' := [(5, .long (0 : Int64)), (0, .ref x), (1, .int p1), (2, .int p2), (3, .int p3), (4, .int p4)]) rfl rfl ?_
                    refine g_lconst (v := 1) C dX5_blocked_67 rfl rfl ?_
                    refine g_lstore (v := (1 : Int64)) C dX5_blocked_68 rfl (Nat.le_of_ble_eq_true rfl) (lv' := [(7, .long (1 : Int64)), (5, .long (0 : Int64)), (0, .ref x), (1, .int p1), (2, .int p2), (3, .int p3), (4, .int p4)]) rfl rfl ?_
                    refine g_lconst (v := 1) C dX5_blocked_70 rfl rfl ?_
                    refine g_lstore (v := (1 : Int64)) C dX5_blocked_71 rfl (Nat.le_of_ble_eq_true rfl) (lv' := [(9, .long (1 : Int64)), (7, .long (1 : Int64)), (5, .long (0 : Int64)), (0, .ref x), (1, .int p1), (2, .int p2), (3, .int p3), (4, .int p4)]) rfl rfl ?_
                    refine g_lconst (v := 1) C dX5_blocked_73 rfl rfl ?_
                    refine g_lstore (v := (1 : Int64)) C dX5_blocked_74 rfl (Nat.le_of_ble_eq_true rfl) (lv' := [(11, .long (1 : Int64)), (9, .long (1 : Int64)), (7, .long (1 : Int64)), (5, .long (0 : Int64)), (0, .ref x), (1, .int p1), (2, .int p2), (3, .int p3), (4, .int p4)]) rfl rfl ?_
                    refine g_aload_n C dX5_blocked_76 4 rfl rfl ?_
                    refine g_callVv (As := []) (gr := [gA cI re 7 rf]) C (c_X5_think l D cI cQ x an am aq ap b al au re pq n m  _) dX5_blocked_77 ⟨ml_X5_137, kV_X5_think⟩ ⟨Nat.le_of_ble_eq_true rfl, Nat.le_of_ble_eq_true rfl⟩ ⟨Nat.le_refl _, Nat.le_refl _⟩ rfl rfl 0 0 rfl rfl [0, 1, 2, 3] 4 rfl pmb_0_1_2_3 rfl rfl rfl (Nat.le_of_ble_eq_true rfl) rfl (fun (u : PT) => [gObj x an am aq ap al au re pq, gPar cI an n, gPar cI am u, gA cI re 7 rf]) [0, 1, 2, 3] 4 (fun _ => rfl) pmb_0_1_2_3 (fun _ => rfl) hw (fun u8 hw => ?_)
                    obtain ⟨mv9, rfl⟩ : ∃ z, z = u8 := ⟨_, rfl⟩
                    refine g_iconst (v := 0) C dX5_blocked_80 rfl rfl ?_
                    refine g_istore (v := (0 : Int32)) C dX5_blocked_81 rfl (Nat.le_of_ble_eq_true rfl) (lv' := [(13, .int (0 : Int32)), (11, .long (1 : Int64)), (9, .long (1 : Int64)), (7, .long (1 : Int64)), (5, .long (0 : Int64)), (0, .ref x), (1, .int p1), (2, .int p2), (3, .int p3), (4, .int p4)]) rfl rfl ?_
                    refine g_lv [5, 6, 7, 8, 9, 4, 3, 2, 1, 0] rfl ?_
                    refine lpN_ind (G := (fun (z16 : Int64 × Int64 × Int64 × Int64 × Int32 × PT) => (fun (y10 : Int64) (y11 : Int64) (y12 : Int64) (y13 : Int64) (x14 : Int32) (mv15 : PT) => xG p l e (rmL 3 0 0 81) s mi args below meth co D A 14 Q 0 0 83 [] [gObj x an am aq ap al au re pq, gPar cI an n, gPar cI am mv15, gA cI re 7 rf] [(0, .ref x), (1, .int p1), (2, .int p2), (3, .int p3), (4, .int p4), (5, .long y10), (7, .long y11), (9, .long y12), (11, .long y13), (13, .int x14)]) z16.1 z16.2.1 z16.2.2.1 z16.2.2.2.1 z16.2.2.2.2.1 z16.2.2.2.2.2)) ?_ 1000 ((0 : Int64), (1 : Int64), (1 : Int64), (1 : Int64), (0 : Int32), mv9) hw
                    rintro K16 ⟨y10, y11, y12, y13, x14, mv15⟩ ih16 hw
                    show xG p l e (rmL 3 0 0 81) s mi args below meth co D A 14 Q 0 0 83 [] [gObj x an am aq ap al au re pq, gPar cI an n, gPar cI am mv15, gA cI re 7 rf] [(0, .ref x), (1, .int p1), (2, .int p2), (3, .int p3), (4, .int p4), (5, .long y10), (7, .long y11), (9, .long y12), (11, .long y13), (13, .int x14)]
                    refine g_iload C dX5_blocked_83 9 rfl rfl ?_
                    refine g_iload_n C dX5_blocked_85 1 rfl rfl ?_
                    refine g_icmp_gt (tgt := 166) C dX5_blocked_86 (by decide) rfl hw (fun _ hw => ?_) (fun _ hw => ?_)
                    · refine g_lload C dX5_blocked_166 5 rfl rfl ?_
                      refine g_lload C dX5_blocked_168 6 rfl rfl ?_
                      refine g_iload C dX5_blocked_170 4 rfl rfl ?_
                      refine g_callSl (As := [.long y10, .long y11, .int p4]) (gr := [gObj x an am aq ap al au re pq, gPar cI an n, gPar cI am mv15, gA cI re 7 rf]) C (c_X5_partOf l D cI cQ   y10 y11 p4 _) dX5_blocked_172 ⟨ml_X5_193, kS_X5_partOf⟩ ⟨Nat.le_of_ble_eq_true rfl, Nat.le_of_ble_eq_true rfl⟩ ⟨Nat.le_refl _, Nat.le_refl _⟩ [0, 1, 2, 3] 4 rfl pmb_0_1_2_3 rfl rfl rfl (Nat.le_of_ble_eq_true rfl) rfl (fun (u : Unit) => [gObj x an am aq ap al au re pq, gPar cI an n, gPar cI am mv15, gA cI re 7 rf]) [0, 1, 2, 3] 4 (fun _ => rfl) pmb_0_1_2_3 (fun _ => rfl) hw (fun r17 u17 hw => ?_)
                      exact hret 175 r17 (mv15, rf) _ dX5_blocked_175 hw
                    · refine g_aload_n C dX5_blocked_89 0 rfl rfl ?_
                      refine g_get (v := .ref (am 0)) (ci := 4) C dX5_blocked_90 inw_X5 rfl 0 0 1 rfl rfl (Nat.le_of_ble_eq_true rfl) rfl fl_X5_16 rfl rfl ?_
                      refine g_callVi (As := []) (gr := [gObj x an am aq ap al au re pq, gPar cI an n, gA cI re 7 rf]) C (c_X3_inCup l D cI cQ am mv15  _) dX5_blocked_93 ⟨ml_X5_119, kV_X3_inCup⟩ ⟨Nat.le_of_ble_eq_true rfl, Nat.le_of_ble_eq_true rfl⟩ ⟨Nat.le_refl _, Nat.le_refl _⟩ rfl rfl 0 0 rfl rfl [2, 0, 1, 3] 4 rfl pmb_2_0_1_3 rfl rfl rfl (Nat.le_of_ble_eq_true rfl) rfl (fun (u : Unit) => [gObj x an am aq ap al au re pq, gPar cI an n, gPar cI am mv15, gA cI re 7 rf]) [1, 2, 0, 3] 4 (fun _ => rfl) pmb_1_2_0_3 (fun _ => rfl) hw (fun r18 u18 hw => ?_)
                      refine g_iload_n C dX5_blocked_96 3 rfl rfl ?_
                      refine jn_el hw (fun (z20 : Int64) => (fun (y19 : Int64) => xG p l e (rmL 3 0 0 81) s mi args below meth co D A 14 Q 0 0 110 [] [gObj x an am aq ap al au re pq, gPar cI an n, gPar cI am mv15, gA cI re 7 rf] [(0, .ref x), (1, .int p1), (2, .int p2), (3, .int p3), (4, .int p4), (5, .long y19), (7, .long y11), (9, .long y12), (11, .long y13), (13, .int x14)]) z20) ?_ ?_
                      · rintro y19 hw
                        show xG p l e (rmL 3 0 0 81) s mi args below meth co D A 14 Q 0 0 110 [] [gObj x an am aq ap al au re pq, gPar cI an n, gPar cI am mv15, gA cI re 7 rf] [(0, .ref x), (1, .int p1), (2, .int p2), (3, .int p3), (4, .int p4), (5, .long y19), (7, .long y11), (9, .long y12), (11, .long y13), (13, .int x14)]
                        refine g_lload C dX5_blocked_110 7 rfl rfl ?_
                        refine g_iload_n C dX5_blocked_112 1 rfl rfl ?_
                        refine g_iload C dX5_blocked_113 9 rfl rfl ?_
                        refine g_isub C dX5_blocked_115 rfl ?_
                        refine g_i2l C dX5_blocked_116 rfl ?_
                        refine g_lmul C dX5_blocked_117 rfl ?_
                        refine g_iload C dX5_blocked_118 9 rfl rfl ?_
                        refine g_iconst (v := 1) C dX5_blocked_120 rfl rfl ?_
                        refine g_iadd C dX5_blocked_121 rfl ?_
                        refine g_i2l C dX5_blocked_122 rfl ?_
                        have hz123 := hw.1
                        replace hw := hw.2
                        refine g_ldiv C dX5_blocked_123 hz123 rfl ?_
                        refine nm_el hw (fun v21 ev21 hw => ?_)
                        refine g_lstore (v := v21) C dX5_blocked_124 ev21.symm (Nat.le_of_ble_eq_true rfl) (lv' := [(9, .long v21), (0, .ref x), (1, .int p1), (2, .int p2), (3, .int p3), (4, .int p4), (5, .long y19), (7, .long y11), (11, .long y13), (13, .int x14)]) rfl rfl ?_
                        refine g_lload C dX5_blocked_126 8 rfl rfl ?_
                        refine g_iload_n C dX5_blocked_128 3 rfl rfl ?_
                        refine g_iconst (v := 1) C dX5_blocked_129 rfl rfl ?_
                        refine g_isub C dX5_blocked_130 rfl ?_
                        refine g_i2l C dX5_blocked_131 rfl ?_
                        refine g_lmul C dX5_blocked_132 rfl ?_
                        refine nm_el hw (fun v22 ev22 hw => ?_)
                        refine g_lstore (v := v22) C dX5_blocked_133 ev22.symm (Nat.le_of_ble_eq_true rfl) (lv' := [(11, .long v22), (9, .long v21), (0, .ref x), (1, .int p1), (2, .int p2), (3, .int p3), (4, .int p4), (5, .long y19), (7, .long y11), (13, .int x14)]) rfl rfl ?_
                        refine g_lload C dX5_blocked_135 8 rfl rfl ?_
                        refine g_iload C dX5_blocked_137 9 rfl rfl ?_
                        refine g_iload_n C dX5_blocked_139 3 rfl rfl ?_
                        refine jn_el hw (fun (z24 : Int64) => (fun (y23 : Int64) => xG p l e (rmL 3 0 0 81) s mi args below meth co D A 14 Q 0 0 149 [.long y23, .long y11] [gObj x an am aq ap al au re pq, gPar cI an n, gPar cI am mv15, gA cI re 7 rf] [(0, .ref x), (1, .int p1), (2, .int p2), (3, .int p3), (4, .int p4), (5, .long y19), (9, .long v21), (11, .long v22), (13, .int x14)]) z24) ?_ ?_
                        · rintro y23 hw
                          show xG p l e (rmL 3 0 0 81) s mi args below meth co D A 14 Q 0 0 149 [.long y23, .long y11] [gObj x an am aq ap al au re pq, gPar cI an n, gPar cI am mv15, gA cI re 7 rf] [(0, .ref x), (1, .int p1), (2, .int p2), (3, .int p3), (4, .int p4), (5, .long y19), (9, .long v21), (11, .long v22), (13, .int x14)]
                          refine g_lmul C dX5_blocked_149 rfl ?_
                          refine nm_el hw (fun v25 ev25 hw => ?_)
                          refine g_lstore (v := v25) C dX5_blocked_150 ev25.symm (Nat.le_of_ble_eq_true rfl) (lv' := [(7, .long v25), (0, .ref x), (1, .int p1), (2, .int p2), (3, .int p3), (4, .int p4), (5, .long y19), (9, .long v21), (11, .long v22), (13, .int x14)]) rfl rfl ?_
                          refine g_aload_n C dX5_blocked_152 1 rfl rfl ?_
                          refine g_get (v := .ref (am 0)) (ci := 4) C dX5_blocked_153 inw_X5 rfl 0 0 1 rfl rfl (Nat.le_of_ble_eq_true rfl) rfl fl_X5_16 rfl rfl ?_
                          refine g_callVi (As := []) (gr := [gObj x an am aq ap al au re pq, gPar cI an n, gA cI re 7 rf]) C (c_X3_flow l D cI cQ am mv15  _) dX5_blocked_156 ⟨ml_X5_152, kV_X3_flow⟩ ⟨Nat.le_of_ble_eq_true rfl, Nat.le_of_ble_eq_true rfl⟩ ⟨Nat.le_refl _, Nat.le_refl _⟩ rfl rfl 0 0 rfl rfl [2, 0, 1, 3] 4 rfl pmb_2_0_1_3 rfl rfl rfl (Nat.le_of_ble_eq_true rfl) rfl (fun (u : PT) => [gObj x an am aq ap al au re pq, gPar cI an n, gPar cI am u, gA cI re 7 rf]) [1, 2, 0, 3] 4 (fun _ => rfl) pmb_1_2_0_3 (fun _ => rfl) hw (fun r26 u26 hw => ?_)
                          obtain ⟨mv27, rfl⟩ : ∃ z, z = u26 := ⟨_, rfl⟩
                          refine g_pop C dX5_blocked_159 rfl rfl ?_
                          refine g_iinc (v := (x14 + 1)) (j := 9) C dX5_blocked_160 rfl rfl (Nat.le_of_ble_eq_true rfl) (lv' := [(13, .int (x14 + 1)), (7, .long v25), (0, .ref x), (1, .int p1), (2, .int p2), (3, .int p3), (4, .int p4), (5, .long y19), (9, .long v21), (11, .long v22)]) rfl rfl ?_
                          refine g_goto (pc' := 83) C dX5_blocked_163 (by decide) rfl ?_
                          refine g_lv [2, 3, 4, 5, 6, 7, 1, 8, 9, 0] rfl ?_
                          exact ih16 (y19, v25, v21, v22, (x14 + 1), mv27) hw
                        · intro J24 hJ24 hw
                          refine g_icmp_ge (tgt := 148) C dX5_blocked_140 (by decide) rfl hw (fun _ hw => ?_) (fun _ hw => ?_)
                          · refine g_lconst (v := 1) C dX5_blocked_148 rfl rfl ?_
                            refine g_lv [2, 3, 4, 5, 6, 7, 1, 0, 9] rfl ?_
                            exact hJ24 (1 : Int64) hw
                          · refine g_iload_n C dX5_blocked_143 4 rfl rfl ?_
                            refine g_i2l C dX5_blocked_144 rfl ?_
                            refine g_goto (pc' := 149) C dX5_blocked_145 (by decide) rfl ?_
                            refine g_lv [2, 3, 4, 5, 6, 7, 1, 0, 9] rfl ?_
                            exact hJ24 (p2).toInt64 hw
                      · intro J20 hJ20 hw
                        refine g_icmp_lt (tgt := 110) C dX5_blocked_97 (by decide) rfl hw (fun _ hw => ?_) (fun _ hw => ?_)
                        · exact hJ20 y10 hw
                        · refine g_lload C dX5_blocked_100 5 rfl rfl ?_
                          refine g_lload C dX5_blocked_102 7 rfl rfl ?_
                          refine g_lload C dX5_blocked_104 8 rfl rfl ?_
                          refine g_lmul C dX5_blocked_106 rfl ?_
                          refine g_ladd C dX5_blocked_107 rfl ?_
                          refine nm_el hw (fun v28 ev28 hw => ?_)
                          refine g_lstore (v := v28) C dX5_blocked_108 ev28.symm (Nat.le_of_ble_eq_true rfl) (lv' := [(5, .long v28), (0, .ref x), (1, .int p1), (2, .int p2), (3, .int p3), (4, .int p4), (7, .long y11), (9, .long y12), (11, .long y13), (13, .int x14)]) rfl rfl ?_
                          refine g_lv [1, 2, 3, 4, 5, 0, 6, 7, 8, 9] rfl ?_
                          exact hJ20 v28 hw
                  · intro J7 hJ7 hw
                    refine g_if_eq (tgt := 64) C dX5_blocked_48 (by decide) rfl hw (fun _ hw => ?_) (fun _ hw => ?_)
                    · exact hJ7 () hw
                    · refine g_iload C dX5_blocked_51 4 rfl rfl ?_
                      refine g_iconst (v := 1) C dX5_blocked_53 rfl rfl ?_
                      refine g_icmp_eq (tgt := 64) C dX5_blocked_54 (by decide) rfl hw (fun _ hw => ?_) (fun _ hw => ?_)
                      · exact hJ7 () hw
                      · refine g_aload_n C dX5_blocked_57 0 rfl rfl ?_
                        refine g_bipush (v := -2) C dX5_blocked_58 (by decide) rfl ?_
                        refine g_callVl (As := [.int (-2 : Int32)]) (gr := [gPar cI an n, gPar cI am m]) C (c_X5_refuseLong l D cI cQ x an am aq ap b al au re pq rf (-2 : Int32) _) dX5_blocked_60 ⟨ml_X5_189, kV_X5_refuseLong⟩ ⟨Nat.le_of_ble_eq_true rfl, Nat.le_of_ble_eq_true rfl⟩ ⟨Nat.le_refl _, Nat.le_refl _⟩ rfl rfl 0 0 rfl rfl [0, 3, 1, 2] 4 rfl pmb_0_3_1_2 rfl rfl rfl (Nat.le_of_ble_eq_true rfl) rfl (fun (u : F1) => [gObj x an am aq ap al au re pq, gPar cI an n, gPar cI am m, gA cI re 7 u]) [0, 2, 3, 1] 4 (fun _ => rfl) pmb_0_2_3_1 (fun _ => rfl) hw (fun r29 u29 hw => ?_)
                        obtain ⟨rfv30, rfl⟩ : ∃ z, z = u29 := ⟨_, rfl⟩
                        exact hret 63 r29 (m, rfv30) _ dX5_blocked_63 hw
                · refine g_lv [0] rfl ?_
                  exact hJ4 () hw
        · refine g_lv [0] rfl ?_
          exact hJ1 () hw
set_option maxRecDepth 100000 in
theorem c_X5_blocked (l : Launch) (D : va_G) (cI cQ : ClassId) (x : Nat) (an : Nat → Nat) (am : Nat → Nat) (aq : Nat → Nat) (ap : Nat → Nat) (b : Nat → Nat → Nat) (al : Nat → Nat) (au : Nat → Nat) (re : Nat) (pq : Int32) (n : PT) (m : PT) (rf : F1) (p1 : Int32) (p2 : Int32) (p3 : Int32) (p4 : Int32) (post : Int64 → PT × F1 → Prop) (sz : Nat) : Met l yX5_blocked (wsY yX5_blocked cX5_blocked 14 (some .long)) (rmL 3 0 0 81) (xP D (tyL cI cQ) [.ref x, .int p1, .int p2, .int p3, .int p4] [gObj x an am aq ap al au re pq, gPar cI an n, gPar cI am m, gA cI re 7 rf] sz (p_X5_blocked n m rf p1 p2 p3 p4 post)) (xQl D (tyL cI cQ) post (fun (u : PT × F1) => [gObj x an am aq ap al au re pq, gPar cI an n, gPar cI am u.1, gA cI re 7 u.2]) (va_A [gObj x an am aq ap al au re pq, gPar cI an n, gPar cI am m, gA cI re 7 rf].flatten sz)) 0 0 (va_A [gObj x an am aq ap al au re pq, gPar cI an n, gPar cI am m, gA cI re 7 rf].flatten sz) :=
  Met_l pn_X5 (Nat.le_of_ble_eq_true rfl) (fun p e s mi below meth co A Q _ C hret hw => w_X5_blocked x an am aq ap b al au re pq n m rf p1 p2 p3 p4 C hret hw)
theorem kV_X5_blocked : Cond.instanceMethod yX5_blocked ∈ gTbl ∧ Cond.selects yX5_blocked.cls yX5_blocked yX5_blocked ∈ gTbl ∧ Cond.initialized yX5_blocked.cls ∈ gTbl ∧ Cond.code yX5_blocked cX5_blocked 14 (some .long) ∈ gTbl ∧ (yX5_blocked.cls ≠ "java/lang/invoke/MethodHandle" ∧ yX5_blocked.cls ≠ "java/lang/invoke/VarHandle" ∧ (parseMethodDescriptor yX5_blocked.desc).map (fun d => d.parameters.length) = some 4) := ⟨im_X5_blocked, sl_X5_blocked, in_X5, cd_X5_blocked, (by decide +kernel)⟩
set_option maxRecDepth 100000 in
def p_X5_shares (n : PT) (rf : F1) (p1 : Int32) (p2 : Int32) (post : Int32 → F1 → Prop) : Prop := p_X5_outside p1 (1 : Int32) (9 : Int32) (fun (r1 : Int32) => ((r1 = 0 → jn (fun (z2 : Unit) => ((p2 = 0 → p_X3_inCup n (fun (r4 : Int32) => ((¬ p1 = 0) ∧ post (r4 / p1) rf))) ∧ (¬ p2 = 0 → p_X3_inCup n (fun (r3 : Int32) => ((¬ p1 = 0) ∧ post (r3 - r3 / p1 * p1) rf))))) (fun J2 => ((p2 = 0 → J2 ()) ∧ (¬ p2 = 0 → ((p2 = (1 : Int32) → J2 ()) ∧ (¬ p2 = (1 : Int32) → p_X5_refuse rf (-2 : Int32) (fun (r5 : Int32) (u5 : F1) => (fun (rfv6 : F1) => post r5 rfv6) u5))))))) ∧ (¬ r1 = 0 → p_X5_refuse rf r1 (fun (r7 : Int32) (u7 : F1) => (fun (rfv8 : F1) => post r7 rfv8) u7))))
set_option maxHeartbeats 4000000 in
set_option maxRecDepth 100000 in
theorem w_X5_shares {p : Program} {l : Launch} {e : Env} {s : State} {mi : MethodId} {args : Array Value} {below : List Frame} {meth : Method} {co : Code} {D : va_G} {cI cQ : ClassId} {A : Nat → Prop} {Q : State → Prop} (x : Nat) (an : Nat → Nat) (am : Nat → Nat) (aq : Nat → Nat) (ap : Nat → Nat) (b : Nat → Nat → Nat) (al : Nat → Nat) (au : Nat → Nat) (re : Nat) (pq : Int32) (n : PT) (rf : F1) (p1 : Int32) (p2 : Int32) {post : Int32 → F1 → Prop} (C : xC p s mi args co cX5_shares RX5 4 D (tyL cI cQ) A) (hret : ∀ (pc : Nat) (r : Int32) (u : F1) (lv : List (Nat × Value)), decode cX5_shares pc = .ok (.ireturn, 1) → post r u → xG p l e (rmL 1 0 0 22) s mi args below meth co D A 4 Q 0 0 pc [.int r] [gObj x an am aq ap al au re pq, gPar cI an n, gA cI re 7 u] lv) (hw : p_X5_shares n rf p1 p2 post) : xG p l e (rmL 1 0 0 22) s mi args below meth co D A 4 Q 0 0 0 [] [gObj x an am aq ap al au re pq, gPar cI an n, gA cI re 7 rf] [(0, .ref x), (1, .int p1), (2, .int p2)] := by
  unfold p_X5_shares at hw
  try dsimp only at hw
  show xG p l e (rmL 1 0 0 22) s mi args below meth co D A 4 Q 0 0 0 [] [gObj x an am aq ap al au re pq, gPar cI an n, gA cI re 7 rf] [(0, .ref x), (1, .int p1), (2, .int p2)]
  refine g_iload_n C dX5_shares_0 1 rfl rfl ?_
  refine g_iconst (v := 1) C dX5_shares_1 rfl rfl ?_
  refine g_bipush (v := 9) C dX5_shares_2 (by decide) rfl ?_
  refine g_callSi (As := [.int p1, .int (1 : Int32), .int (9 : Int32)]) (gr := [gObj x an am aq ap al au re pq, gPar cI an n, gA cI re 7 rf]) C (c_X5_outside l D cI cQ   p1 (1 : Int32) (9 : Int32) _) dX5_shares_4 ⟨ml_X5_47, kS_X5_outside⟩ ⟨Nat.le_of_ble_eq_true rfl, Nat.le_of_ble_eq_true rfl⟩ ⟨Nat.le_refl _, Nat.le_refl _⟩ [0, 1, 2] 3 rfl pmb_0_1_2 rfl rfl rfl (Nat.le_of_ble_eq_true rfl) rfl (fun (u : Unit) => [gObj x an am aq ap al au re pq, gPar cI an n, gA cI re 7 rf]) [0, 1, 2] 3 (fun _ => rfl) pmb_0_1_2 (fun _ => rfl) hw (fun r1 u1 hw => ?_)
  refine g_istore_n (v := r1) C dX5_shares_7 rfl (Nat.le_of_ble_eq_true rfl) (lv' := [(3, .int r1), (0, .ref x), (1, .int p1), (2, .int p2)]) rfl rfl ?_
  refine g_iload_n C dX5_shares_8 0 rfl rfl ?_
  refine g_if_eq (tgt := 18) C dX5_shares_9 (by decide) rfl hw (fun _ hw => ?_) (fun _ hw => ?_)
  · refine g_iload_n C dX5_shares_18 3 rfl rfl ?_
    refine jn_el hw (fun (z2 : Unit) => xG p l e (rmL 1 0 0 22) s mi args below meth co D A 4 Q 0 0 34 [] [gObj x an am aq ap al au re pq, gPar cI an n, gA cI re 7 rf] [(0, .ref x), (1, .int p1), (2, .int p2)]) ?_ ?_
    · rintro _ hw
      show xG p l e (rmL 1 0 0 22) s mi args below meth co D A 4 Q 0 0 34 [] [gObj x an am aq ap al au re pq, gPar cI an n, gA cI re 7 rf] [(0, .ref x), (1, .int p1), (2, .int p2)]
      refine g_iload_n C dX5_shares_34 2 rfl rfl ?_
      refine g_if_ne (tgt := 50) C dX5_shares_35 (by decide) rfl hw (fun _ hw => ?_) (fun _ hw => ?_)
      · refine g_aload_n C dX5_shares_50 0 rfl rfl ?_
        refine g_get (v := .ref (an 0)) (ci := 4) C dX5_shares_51 inw_X5 rfl 0 0 0 rfl rfl (Nat.le_of_ble_eq_true rfl) rfl fl_X5_10 rfl rfl ?_
        refine g_callVi (As := []) (gr := [gObj x an am aq ap al au re pq, gA cI re 7 rf]) C (c_X3_inCup l D cI cQ an n  _) dX5_shares_54 ⟨ml_X5_119, kV_X3_inCup⟩ ⟨Nat.le_of_ble_eq_true rfl, Nat.le_of_ble_eq_true rfl⟩ ⟨Nat.le_refl _, Nat.le_refl _⟩ rfl rfl 0 0 rfl rfl [1, 0, 2] 3 rfl pmb_1_0_2 rfl rfl rfl (Nat.le_of_ble_eq_true rfl) rfl (fun (u : Unit) => [gObj x an am aq ap al au re pq, gPar cI an n, gA cI re 7 rf]) [1, 0, 2] 3 (fun _ => rfl) pmb_1_0_2 (fun _ => rfl) hw (fun r3 u3 hw => ?_)
        refine g_iload_n C dX5_shares_57 1 rfl rfl ?_
        have hz58 := hw.1
        replace hw := hw.2
        refine g_irem C dX5_shares_58 hz58 rfl ?_
        exact hret 59 (r3 - r3 / p1 * p1) rf _ dX5_shares_59 hw
      · refine g_aload_n C dX5_shares_38 0 rfl rfl ?_
        refine g_get (v := .ref (an 0)) (ci := 4) C dX5_shares_39 inw_X5 rfl 0 0 0 rfl rfl (Nat.le_of_ble_eq_true rfl) rfl fl_X5_10 rfl rfl ?_
        refine g_callVi (As := []) (gr := [gObj x an am aq ap al au re pq, gA cI re 7 rf]) C (c_X3_inCup l D cI cQ an n  _) dX5_shares_42 ⟨ml_X5_119, kV_X3_inCup⟩ ⟨Nat.le_of_ble_eq_true rfl, Nat.le_of_ble_eq_true rfl⟩ ⟨Nat.le_refl _, Nat.le_refl _⟩ rfl rfl 0 0 rfl rfl [1, 0, 2] 3 rfl pmb_1_0_2 rfl rfl rfl (Nat.le_of_ble_eq_true rfl) rfl (fun (u : Unit) => [gObj x an am aq ap al au re pq, gPar cI an n, gA cI re 7 rf]) [1, 0, 2] 3 (fun _ => rfl) pmb_1_0_2 (fun _ => rfl) hw (fun r4 u4 hw => ?_)
        refine g_iload_n C dX5_shares_45 1 rfl rfl ?_
        have hz46 := hw.1
        replace hw := hw.2
        refine g_idiv C dX5_shares_46 hz46 rfl ?_
        refine g_goto (pc' := 59) C dX5_shares_47 (by decide) rfl ?_
        exact hret 59 (r4 / p1) rf _ dX5_shares_59 hw
    · intro J2 hJ2 hw
      refine g_if_eq (tgt := 34) C dX5_shares_19 (by decide) rfl hw (fun _ hw => ?_) (fun _ hw => ?_)
      · refine g_lv [1, 2, 3] rfl ?_
        exact hJ2 () hw
      · refine g_iload_n C dX5_shares_22 3 rfl rfl ?_
        refine g_iconst (v := 1) C dX5_shares_23 rfl rfl ?_
        refine g_icmp_eq (tgt := 34) C dX5_shares_24 (by decide) rfl hw (fun _ hw => ?_) (fun _ hw => ?_)
        · refine g_lv [1, 2, 3] rfl ?_
          exact hJ2 () hw
        · refine g_aload_n C dX5_shares_27 1 rfl rfl ?_
          refine g_bipush (v := -2) C dX5_shares_28 (by decide) rfl ?_
          refine g_callVi (As := [.int (-2 : Int32)]) (gr := [gPar cI an n]) C (c_X5_refuse l D cI cQ x an am aq ap b al au re pq rf (-2 : Int32) _) dX5_shares_30 ⟨ml_X5_51, kV_X5_refuse⟩ ⟨Nat.le_of_ble_eq_true rfl, Nat.le_of_ble_eq_true rfl⟩ ⟨Nat.le_refl _, Nat.le_refl _⟩ rfl rfl 0 0 rfl rfl [0, 2, 1] 3 rfl pmb_0_2_1 rfl rfl rfl (Nat.le_of_ble_eq_true rfl) rfl (fun (u : F1) => [gObj x an am aq ap al au re pq, gPar cI an n, gA cI re 7 u]) [0, 2, 1] 3 (fun _ => rfl) pmb_0_2_1 (fun _ => rfl) hw (fun r5 u5 hw => ?_)
          obtain ⟨rfv6, rfl⟩ : ∃ z, z = u5 := ⟨_, rfl⟩
          exact hret 33 r5 rfv6 _ dX5_shares_33 hw
  · refine g_aload_n C dX5_shares_12 1 rfl rfl ?_
    refine g_iload_n C dX5_shares_13 0 rfl rfl ?_
    refine g_callVi (As := [.int r1]) (gr := [gPar cI an n]) C (c_X5_refuse l D cI cQ x an am aq ap b al au re pq rf r1 _) dX5_shares_14 ⟨ml_X5_51, kV_X5_refuse⟩ ⟨Nat.le_of_ble_eq_true rfl, Nat.le_of_ble_eq_true rfl⟩ ⟨Nat.le_refl _, Nat.le_refl _⟩ rfl rfl 0 0 rfl rfl [0, 2, 1] 3 rfl pmb_0_2_1 rfl rfl rfl (Nat.le_of_ble_eq_true rfl) rfl (fun (u : F1) => [gObj x an am aq ap al au re pq, gPar cI an n, gA cI re 7 u]) [0, 2, 1] 3 (fun _ => rfl) pmb_0_2_1 (fun _ => rfl) hw (fun r7 u7 hw => ?_)
    obtain ⟨rfv8, rfl⟩ : ∃ z, z = u7 := ⟨_, rfl⟩
    exact hret 17 r7 rfv8 _ dX5_shares_17 hw
set_option maxRecDepth 100000 in
theorem c_X5_shares (l : Launch) (D : va_G) (cI cQ : ClassId) (x : Nat) (an : Nat → Nat) (am : Nat → Nat) (aq : Nat → Nat) (ap : Nat → Nat) (b : Nat → Nat → Nat) (al : Nat → Nat) (au : Nat → Nat) (re : Nat) (pq : Int32) (n : PT) (rf : F1) (p1 : Int32) (p2 : Int32) (post : Int32 → F1 → Prop) (sz : Nat) : Met l yX5_shares (wsY yX5_shares cX5_shares 4 (some .int)) (rmL 1 0 0 22) (xP D (tyL cI cQ) [.ref x, .int p1, .int p2] [gObj x an am aq ap al au re pq, gPar cI an n, gA cI re 7 rf] sz (p_X5_shares n rf p1 p2 post)) (xQi D (tyL cI cQ) post (fun (u : F1) => [gObj x an am aq ap al au re pq, gPar cI an n, gA cI re 7 u]) (va_A [gObj x an am aq ap al au re pq, gPar cI an n, gA cI re 7 rf].flatten sz)) 0 0 (va_A [gObj x an am aq ap al au re pq, gPar cI an n, gA cI re 7 rf].flatten sz) :=
  Met_i pn_X5 (Nat.le_of_ble_eq_true rfl) (fun p e s mi below meth co A Q _ C hret hw => w_X5_shares x an am aq ap b al au re pq n rf p1 p2 C hret hw)
theorem kV_X5_shares : Cond.instanceMethod yX5_shares ∈ gTbl ∧ Cond.selects yX5_shares.cls yX5_shares yX5_shares ∈ gTbl ∧ Cond.initialized yX5_shares.cls ∈ gTbl ∧ Cond.code yX5_shares cX5_shares 4 (some .int) ∈ gTbl ∧ (yX5_shares.cls ≠ "java/lang/invoke/MethodHandle" ∧ yX5_shares.cls ≠ "java/lang/invoke/VarHandle" ∧ (parseMethodDescriptor yX5_shares.desc).map (fun d => d.parameters.length) = some 2) := ⟨im_X5_shares, sl_X5_shares, in_X5, cd_X5_shares, (by decide +kernel)⟩
set_option maxRecDepth 100000 in
def p_X5_twins (n : PT) (post : Int32 → Prop) : Prop := lpN (fun (K3 : (Int32 × Int32) → Prop) (z3 : Int32 × Int32) => (fun (x1 : Int32) (x2 : Int32) => p_X3_houses n (fun (r4 : Int32) => ((r4 ≤ x2 → post x1) ∧ (¬ r4 ≤ x2 → nm ((x2 + (1 : Int32)) : Int32) (fun (v5 : Int32) => lpN (fun (K8 : (Int32 × Int32) → Prop) (z8 : Int32 × Int32) => (fun (x6 : Int32) (x7 : Int32) => p_X3_houses n (fun (r9 : Int32) => ((r9 ≤ x7 → K3 (x6, (x2 + 1))) ∧ (¬ r9 ≤ x7 → p_X3_holdsOf n x2 (fun (r10 : Int32) => p_X3_holdsOf n x7 (fun (r11 : Int32) => ((r10 = r11 → K8 ((x6 + 1), (x7 + 1))) ∧ (¬ r10 = r11 → K8 (x6, (x7 + 1)))))))))) z8.1 z8.2) 1000 (x1, v5)))))) z3.1 z3.2) 1000 ((0 : Int32), (0 : Int32))
set_option maxHeartbeats 4000000 in
set_option maxRecDepth 100000 in
theorem w_X5_twins {p : Program} {l : Launch} {e : Env} {s : State} {mi : MethodId} {args : Array Value} {below : List Frame} {meth : Method} {co : Code} {D : va_G} {cI cQ : ClassId} {A : Nat → Prop} {Q : State → Prop} (x : Nat) (an : Nat → Nat) (am : Nat → Nat) (aq : Nat → Nat) (ap : Nat → Nat) (b : Nat → Nat → Nat) (al : Nat → Nat) (au : Nat → Nat) (re : Nat) (pq : Int32) (n : PT) {post : Int32 → Prop} (C : xC p s mi args co cX5_twins RX5 4 D (tyL cI cQ) A) (hret : ∀ (pc : Nat) (r : Int32) (u : Unit) (lv : List (Nat × Value)), decode cX5_twins pc = .ok (.ireturn, 1) → post r → xG p l e (rmL 2 0 0 42) s mi args below meth co D A 4 Q 0 0 pc [.int r] [gObj x an am aq ap al au re pq, gPar cI an n] lv) (hw : p_X5_twins n post) : xG p l e (rmL 2 0 0 42) s mi args below meth co D A 4 Q 0 0 0 [] [gObj x an am aq ap al au re pq, gPar cI an n] [(0, .ref x)] := by
  unfold p_X5_twins at hw
  try dsimp only at hw
  show xG p l e (rmL 2 0 0 42) s mi args below meth co D A 4 Q 0 0 0 [] [gObj x an am aq ap al au re pq, gPar cI an n] [(0, .ref x)]
  refine g_iconst (v := 0) C dX5_twins_0 rfl rfl ?_
  refine g_istore_n (v := (0 : Int32)) C dX5_twins_1 rfl (Nat.le_of_ble_eq_true rfl) (lv' := [(1, .int (0 : Int32)), (0, .ref x)]) rfl rfl ?_
  refine g_iconst (v := 0) C dX5_twins_2 rfl rfl ?_
  refine g_istore_n (v := (0 : Int32)) C dX5_twins_3 rfl (Nat.le_of_ble_eq_true rfl) (lv' := [(2, .int (0 : Int32)), (1, .int (0 : Int32)), (0, .ref x)]) rfl rfl ?_
  refine g_lv [2, 1, 0] rfl ?_
  refine lpN_ind (G := (fun (z3 : Int32 × Int32) => (fun (x1 : Int32) (x2 : Int32) => xG p l e (rmL 2 0 0 42) s mi args below meth co D A 4 Q 0 0 4 [] [gObj x an am aq ap al au re pq, gPar cI an n] [(0, .ref x), (1, .int x1), (2, .int x2)]) z3.1 z3.2)) ?_ 1000 ((0 : Int32), (0 : Int32)) hw
  rintro K3 ⟨x1, x2⟩ ih3 hw
  show xG p l e (rmL 2 0 0 42) s mi args below meth co D A 4 Q 0 0 4 [] [gObj x an am aq ap al au re pq, gPar cI an n] [(0, .ref x), (1, .int x1), (2, .int x2)]
  refine g_iload_n C dX5_twins_4 2 rfl rfl ?_
  refine g_aload_n C dX5_twins_5 0 rfl rfl ?_
  refine g_get (v := .ref (an 0)) (ci := 4) C dX5_twins_6 inw_X5 rfl 0 0 0 rfl rfl (Nat.le_of_ble_eq_true rfl) rfl fl_X5_10 rfl rfl ?_
  refine g_callVi (As := []) (gr := [gObj x an am aq ap al au re pq]) C (c_X3_houses l D cI cQ an n  _) dX5_twins_9 ⟨ml_X5_103, kV_X3_houses⟩ ⟨Nat.le_of_ble_eq_true rfl, Nat.le_of_ble_eq_true rfl⟩ ⟨Nat.le_refl _, Nat.le_refl _⟩ rfl rfl 0 0 rfl rfl [1, 0] 2 rfl pmb_1_0 rfl rfl rfl (Nat.le_of_ble_eq_true rfl) rfl (fun (u : Unit) => [gObj x an am aq ap al au re pq, gPar cI an n]) [1, 0] 2 (fun _ => rfl) pmb_1_0 (fun _ => rfl) hw (fun r4 u4 hw => ?_)
  refine g_icmp_ge (tgt := 64) C dX5_twins_12 (by decide) rfl hw (fun _ hw => ?_) (fun _ hw => ?_)
  · refine g_iload_n C dX5_twins_64 1 rfl rfl ?_
    exact hret 65 x1 () _ dX5_twins_65 hw
  · refine g_iload_n C dX5_twins_15 2 rfl rfl ?_
    refine g_iconst (v := 1) C dX5_twins_16 rfl rfl ?_
    refine g_iadd C dX5_twins_17 rfl ?_
    refine nm_el hw (fun v5 ev5 hw => ?_)
    refine g_istore_n (v := v5) C dX5_twins_18 ev5.symm (Nat.le_of_ble_eq_true rfl) (lv' := [(3, .int v5), (0, .ref x), (1, .int x1), (2, .int x2)]) rfl rfl ?_
    refine g_lv [1, 2, 3, 0] rfl ?_
    refine lpN_ind (G := (fun (z8 : Int32 × Int32) => (fun (x6 : Int32) (x7 : Int32) => xG p l e (rmL 2 0 0 42) s mi args below meth co D A 4 Q 0 0 19 [] [gObj x an am aq ap al au re pq, gPar cI an n] [(0, .ref x), (1, .int x6), (2, .int x2), (3, .int x7)]) z8.1 z8.2)) ?_ 1000 (x1, v5) hw
    rintro K8 ⟨x6, x7⟩ ih8 hw
    show xG p l e (rmL 2 0 0 42) s mi args below meth co D A 4 Q 0 0 19 [] [gObj x an am aq ap al au re pq, gPar cI an n] [(0, .ref x), (1, .int x6), (2, .int x2), (3, .int x7)]
    refine g_iload_n C dX5_twins_19 3 rfl rfl ?_
    refine g_aload_n C dX5_twins_20 0 rfl rfl ?_
    refine g_get (v := .ref (an 0)) (ci := 4) C dX5_twins_21 inw_X5 rfl 0 0 0 rfl rfl (Nat.le_of_ble_eq_true rfl) rfl fl_X5_10 rfl rfl ?_
    refine g_callVi (As := []) (gr := [gObj x an am aq ap al au re pq]) C (c_X3_houses l D cI cQ an n  _) dX5_twins_24 ⟨ml_X5_103, kV_X3_houses⟩ ⟨Nat.le_of_ble_eq_true rfl, Nat.le_of_ble_eq_true rfl⟩ ⟨Nat.le_refl _, Nat.le_refl _⟩ rfl rfl 0 0 rfl rfl [1, 0] 2 rfl pmb_1_0 rfl rfl rfl (Nat.le_of_ble_eq_true rfl) rfl (fun (u : Unit) => [gObj x an am aq ap al au re pq, gPar cI an n]) [1, 0] 2 (fun _ => rfl) pmb_1_0 (fun _ => rfl) hw (fun r9 u9 hw => ?_)
    refine g_icmp_ge (tgt := 58) C dX5_twins_27 (by decide) rfl hw (fun _ hw => ?_) (fun _ hw => ?_)
    · refine g_iinc (v := (x2 + 1)) (j := 2) C dX5_twins_58 rfl rfl (Nat.le_of_ble_eq_true rfl) (lv' := [(2, .int (x2 + 1)), (0, .ref x), (1, .int x6), (3, .int x7)]) rfl rfl ?_
      refine g_goto (pc' := 4) C dX5_twins_61 (by decide) rfl ?_
      refine g_lv [1, 2, 0] rfl ?_
      exact ih3 (x6, (x2 + 1)) hw
    · refine g_aload_n C dX5_twins_30 0 rfl rfl ?_
      refine g_get (v := .ref (an 0)) (ci := 4) C dX5_twins_31 inw_X5 rfl 0 0 0 rfl rfl (Nat.le_of_ble_eq_true rfl) rfl fl_X5_10 rfl rfl ?_
      refine g_iload_n C dX5_twins_34 2 rfl rfl ?_
      refine g_callVi (As := [.int x2]) (gr := [gObj x an am aq ap al au re pq]) C (c_X3_holdsOf l D cI cQ an n x2 _) dX5_twins_35 ⟨ml_X5_81, kV_X3_holdsOf⟩ ⟨Nat.le_of_ble_eq_true rfl, Nat.le_of_ble_eq_true rfl⟩ ⟨Nat.le_refl _, Nat.le_refl _⟩ rfl rfl 0 0 rfl rfl [1, 0] 2 rfl pmb_1_0 rfl rfl rfl (Nat.le_of_ble_eq_true rfl) rfl (fun (u : Unit) => [gObj x an am aq ap al au re pq, gPar cI an n]) [1, 0] 2 (fun _ => rfl) pmb_1_0 (fun _ => rfl) hw (fun r10 u10 hw => ?_)
      refine g_aload_n C dX5_twins_38 0 rfl rfl ?_
      refine g_get (v := .ref (an 0)) (ci := 4) C dX5_twins_39 inw_X5 rfl 0 0 0 rfl rfl (Nat.le_of_ble_eq_true rfl) rfl fl_X5_10 rfl rfl ?_
      refine g_iload_n C dX5_twins_42 3 rfl rfl ?_
      refine g_callVi (As := [.int x7]) (gr := [gObj x an am aq ap al au re pq]) C (c_X3_holdsOf l D cI cQ an n x7 _) dX5_twins_43 ⟨ml_X5_81, kV_X3_holdsOf⟩ ⟨Nat.le_of_ble_eq_true rfl, Nat.le_of_ble_eq_true rfl⟩ ⟨Nat.le_refl _, Nat.le_refl _⟩ rfl rfl 0 0 rfl rfl [1, 0] 2 rfl pmb_1_0 rfl rfl rfl (Nat.le_of_ble_eq_true rfl) rfl (fun (u : Unit) => [gObj x an am aq ap al au re pq, gPar cI an n]) [1, 0] 2 (fun _ => rfl) pmb_1_0 (fun _ => rfl) hw (fun r11 u11 hw => ?_)
      refine g_icmp_ne (tgt := 52) C dX5_twins_46 (by decide) rfl hw (fun _ hw => ?_) (fun _ hw => ?_)
      · refine g_iinc (v := (x7 + 1)) (j := 3) C dX5_twins_52 rfl rfl (Nat.le_of_ble_eq_true rfl) (lv' := [(3, .int (x7 + 1)), (0, .ref x), (1, .int x6), (2, .int x2)]) rfl rfl ?_
        refine g_goto (pc' := 19) C dX5_twins_55 (by decide) rfl ?_
        refine g_lv [1, 2, 3, 0] rfl ?_
        exact ih8 (x6, (x7 + 1)) hw
      · refine g_iinc (v := (x6 + 1)) (j := 1) C dX5_twins_49 rfl rfl (Nat.le_of_ble_eq_true rfl) (lv' := [(1, .int (x6 + 1)), (0, .ref x), (2, .int x2), (3, .int x7)]) rfl rfl ?_
        refine g_iinc (v := (x7 + 1)) (j := 3) C dX5_twins_52 rfl rfl (Nat.le_of_ble_eq_true rfl) (lv' := [(3, .int (x7 + 1)), (1, .int (x6 + 1)), (0, .ref x), (2, .int x2)]) rfl rfl ?_
        refine g_goto (pc' := 19) C dX5_twins_55 (by decide) rfl ?_
        refine g_lv [2, 1, 3, 0] rfl ?_
        exact ih8 ((x6 + 1), (x7 + 1)) hw
set_option maxRecDepth 100000 in
theorem c_X5_twins (l : Launch) (D : va_G) (cI cQ : ClassId) (x : Nat) (an : Nat → Nat) (am : Nat → Nat) (aq : Nat → Nat) (ap : Nat → Nat) (b : Nat → Nat → Nat) (al : Nat → Nat) (au : Nat → Nat) (re : Nat) (pq : Int32) (n : PT) (post : Int32 → Prop) (sz : Nat) : Met l yX5_twins (wsY yX5_twins cX5_twins 4 (some .int)) (rmL 2 0 0 42) (xP D (tyL cI cQ) [.ref x] [gObj x an am aq ap al au re pq, gPar cI an n] sz (p_X5_twins n post)) (xQi D (tyL cI cQ) (fun (r : Int32) (_ : Unit) => post r) (fun (u : Unit) => [gObj x an am aq ap al au re pq, gPar cI an n]) (va_A [gObj x an am aq ap al au re pq, gPar cI an n].flatten sz)) 0 0 (va_A [gObj x an am aq ap al au re pq, gPar cI an n].flatten sz) :=
  Met_i pn_X5 (Nat.le_of_ble_eq_true rfl) (fun p e s mi below meth co A Q _ C hret hw => w_X5_twins x an am aq ap b al au re pq n C hret hw)
theorem kV_X5_twins : Cond.instanceMethod yX5_twins ∈ gTbl ∧ Cond.selects yX5_twins.cls yX5_twins yX5_twins ∈ gTbl ∧ Cond.initialized yX5_twins.cls ∈ gTbl ∧ Cond.code yX5_twins cX5_twins 4 (some .int) ∈ gTbl ∧ (yX5_twins.cls ≠ "java/lang/invoke/MethodHandle" ∧ yX5_twins.cls ≠ "java/lang/invoke/VarHandle" ∧ (parseMethodDescriptor yX5_twins.desc).map (fun d => d.parameters.length) = some 0) := ⟨im_X5_twins, sl_X5_twins, in_X5, cd_X5_twins, (by decide +kernel)⟩
set_option maxRecDepth 100000 in
def p_X5_longestStill (n : PT) (m : PT) (post : Int32 → PT → Prop) : Prop := p_X5_think n m (fun (u1 : PT) => (fun (mv2 : PT) => lpN (fun (K7 : (Int32 × Int32 × Int32 × PT) → Prop) (z7 : Int32 × Int32 × Int32 × PT) => (fun (x3 : Int32) (x4 : Int32) (x5 : Int32) (mv6 : PT) => (((60 : Int32) ≤ x5 → post x3 mv6) ∧ (¬ (60 : Int32) ≤ x5 → p_X3_flow mv6 (fun (r8 : Int32) (u8 : PT) => (fun (mv9 : PT) => p_X3_hasDripped mv9 (fun (r10 : Int32) => jn (fun (z12 : Int32) => (fun (x11 : Int32) => nm ((if x3 < x11 then x11 else x3) : Int32) (fun (v13 : Int32) => K7 (v13, x11, (x5 + 1), mv9))) z12) (fun J12 => ((r10 = 0 → J12 (x4 + (1 : Int32))) ∧ (¬ r10 = 0 → J12 (0 : Int32)))))) u8)))) z7.1 z7.2.1 z7.2.2.1 z7.2.2.2) 1000 ((0 : Int32), (0 : Int32), (0 : Int32), mv2)) u1)
set_option maxHeartbeats 4000000 in
set_option maxRecDepth 100000 in
theorem w_X5_longestStill {p : Program} {l : Launch} {e : Env} {s : State} {mi : MethodId} {args : Array Value} {below : List Frame} {meth : Method} {co : Code} {D : va_G} {cI cQ : ClassId} {A : Nat → Prop} {Q : State → Prop} (x : Nat) (an : Nat → Nat) (am : Nat → Nat) (aq : Nat → Nat) (ap : Nat → Nat) (b : Nat → Nat → Nat) (al : Nat → Nat) (au : Nat → Nat) (re : Nat) (pq : Int32) (n : PT) (m : PT) {post : Int32 → PT → Prop} (C : xC p s mi args co cX5_longestStill RX5 4 D (tyL cI cQ) A) (hret : ∀ (pc : Nat) (r : Int32) (u : PT) (lv : List (Nat × Value)), decode cX5_longestStill pc = .ok (.ireturn, 1) → post r u → xG p l e (rmL 3 0 0 81) s mi args below meth co D A 4 Q 0 0 pc [.int r] [gObj x an am aq ap al au re pq, gPar cI an n, gPar cI am u] lv) (hw : p_X5_longestStill n m post) : xG p l e (rmL 3 0 0 81) s mi args below meth co D A 4 Q 0 0 0 [] [gObj x an am aq ap al au re pq, gPar cI an n, gPar cI am m] [(0, .ref x)] := by
  unfold p_X5_longestStill at hw
  try dsimp only at hw
  show xG p l e (rmL 3 0 0 81) s mi args below meth co D A 4 Q 0 0 0 [] [gObj x an am aq ap al au re pq, gPar cI an n, gPar cI am m] [(0, .ref x)]
  refine g_aload_n C dX5_longestStill_0 0 rfl rfl ?_
  refine g_callVv (As := []) (gr := []) C (c_X5_think l D cI cQ x an am aq ap b al au re pq n m  _) dX5_longestStill_1 ⟨ml_X5_137, kV_X5_think⟩ ⟨Nat.le_of_ble_eq_true rfl, Nat.le_of_ble_eq_true rfl⟩ ⟨Nat.le_refl _, Nat.le_refl _⟩ rfl rfl 0 0 rfl rfl [0, 1, 2] 3 rfl pmb_0_1_2 rfl rfl rfl (Nat.le_of_ble_eq_true rfl) rfl (fun (u : PT) => [gObj x an am aq ap al au re pq, gPar cI an n, gPar cI am u]) [0, 1, 2] 3 (fun _ => rfl) pmb_0_1_2 (fun _ => rfl) hw (fun u1 hw => ?_)
  obtain ⟨mv2, rfl⟩ : ∃ z, z = u1 := ⟨_, rfl⟩
  refine g_iconst (v := 0) C dX5_longestStill_4 rfl rfl ?_
  refine g_istore_n (v := (0 : Int32)) C dX5_longestStill_5 rfl (Nat.le_of_ble_eq_true rfl) (lv' := [(1, .int (0 : Int32)), (0, .ref x)]) rfl rfl ?_
  refine g_iconst (v := 0) C dX5_longestStill_6 rfl rfl ?_
  refine g_istore_n (v := (0 : Int32)) C dX5_longestStill_7 rfl (Nat.le_of_ble_eq_true rfl) (lv' := [(2, .int (0 : Int32)), (1, .int (0 : Int32)), (0, .ref x)]) rfl rfl ?_
  refine g_iconst (v := 0) C dX5_longestStill_8 rfl rfl ?_
  refine g_istore_n (v := (0 : Int32)) C dX5_longestStill_9 rfl (Nat.le_of_ble_eq_true rfl) (lv' := [(3, .int (0 : Int32)), (2, .int (0 : Int32)), (1, .int (0 : Int32)), (0, .ref x)]) rfl rfl ?_
  refine g_lv [3, 2, 1, 0] rfl ?_
  refine lpN_ind (G := (fun (z7 : Int32 × Int32 × Int32 × PT) => (fun (x3 : Int32) (x4 : Int32) (x5 : Int32) (mv6 : PT) => xG p l e (rmL 3 0 0 81) s mi args below meth co D A 4 Q 0 0 10 [] [gObj x an am aq ap al au re pq, gPar cI an n, gPar cI am mv6] [(0, .ref x), (1, .int x3), (2, .int x4), (3, .int x5)]) z7.1 z7.2.1 z7.2.2.1 z7.2.2.2)) ?_ 1000 ((0 : Int32), (0 : Int32), (0 : Int32), mv2) hw
  rintro K7 ⟨x3, x4, x5, mv6⟩ ih7 hw
  show xG p l e (rmL 3 0 0 81) s mi args below meth co D A 4 Q 0 0 10 [] [gObj x an am aq ap al au re pq, gPar cI an n, gPar cI am mv6] [(0, .ref x), (1, .int x3), (2, .int x4), (3, .int x5)]
  refine g_iload_n C dX5_longestStill_10 3 rfl rfl ?_
  refine g_bipush (v := 60) C dX5_longestStill_11 (by decide) rfl ?_
  refine g_icmp_ge (tgt := 54) C dX5_longestStill_13 (by decide) rfl hw (fun _ hw => ?_) (fun _ hw => ?_)
  · refine g_iload_n C dX5_longestStill_54 1 rfl rfl ?_
    exact hret 55 x3 mv6 _ dX5_longestStill_55 hw
  · refine g_aload_n C dX5_longestStill_16 0 rfl rfl ?_
    refine g_get (v := .ref (am 0)) (ci := 4) C dX5_longestStill_17 inw_X5 rfl 0 0 1 rfl rfl (Nat.le_of_ble_eq_true rfl) rfl fl_X5_16 rfl rfl ?_
    refine g_callVi (As := []) (gr := [gObj x an am aq ap al au re pq, gPar cI an n]) C (c_X3_flow l D cI cQ am mv6  _) dX5_longestStill_20 ⟨ml_X5_152, kV_X3_flow⟩ ⟨Nat.le_of_ble_eq_true rfl, Nat.le_of_ble_eq_true rfl⟩ ⟨Nat.le_refl _, Nat.le_refl _⟩ rfl rfl 0 0 rfl rfl [2, 0, 1] 3 rfl pmb_2_0_1 rfl rfl rfl (Nat.le_of_ble_eq_true rfl) rfl (fun (u : PT) => [gObj x an am aq ap al au re pq, gPar cI an n, gPar cI am u]) [1, 2, 0] 3 (fun _ => rfl) pmb_1_2_0 (fun _ => rfl) hw (fun r8 u8 hw => ?_)
    obtain ⟨mv9, rfl⟩ : ∃ z, z = u8 := ⟨_, rfl⟩
    refine g_pop C dX5_longestStill_23 rfl rfl ?_
    refine g_aload_n C dX5_longestStill_24 0 rfl rfl ?_
    refine g_get (v := .ref (am 0)) (ci := 4) C dX5_longestStill_25 inw_X5 rfl 0 0 1 rfl rfl (Nat.le_of_ble_eq_true rfl) rfl fl_X5_16 rfl rfl ?_
    refine g_callVi (As := []) (gr := [gObj x an am aq ap al au re pq, gPar cI an n]) C (c_X3_hasDripped l D cI cQ am mv9  _) dX5_longestStill_28 ⟨ml_X5_267, kV_X3_hasDripped⟩ ⟨Nat.le_of_ble_eq_true rfl, Nat.le_of_ble_eq_true rfl⟩ ⟨Nat.le_refl _, Nat.le_refl _⟩ rfl rfl 0 0 rfl rfl [2, 0, 1] 3 rfl pmb_2_0_1 rfl rfl rfl (Nat.le_of_ble_eq_true rfl) rfl (fun (u : Unit) => [gObj x an am aq ap al au re pq, gPar cI an n, gPar cI am mv9]) [1, 2, 0] 3 (fun _ => rfl) pmb_1_2_0 (fun _ => rfl) hw (fun r10 u10 hw => ?_)
    refine jn_el hw (fun (z12 : Int32) => (fun (x11 : Int32) => xG p l e (rmL 3 0 0 81) s mi args below meth co D A 4 Q 0 0 41 [.int x11] [gObj x an am aq ap al au re pq, gPar cI an n, gPar cI am mv9] [(0, .ref x), (1, .int x3), (3, .int x5)]) z12) ?_ ?_
    · rintro x11 hw
      show xG p l e (rmL 3 0 0 81) s mi args below meth co D A 4 Q 0 0 41 [.int x11] [gObj x an am aq ap al au re pq, gPar cI an n, gPar cI am mv9] [(0, .ref x), (1, .int x3), (3, .int x5)]
      refine g_istore_n (v := x11) C dX5_longestStill_41 rfl (Nat.le_of_ble_eq_true rfl) (lv' := [(2, .int x11), (0, .ref x), (1, .int x3), (3, .int x5)]) rfl rfl ?_
      refine g_iload_n C dX5_longestStill_42 2 rfl rfl ?_
      refine g_iload_n C dX5_longestStill_43 0 rfl rfl ?_
      refine g_mmax C dX5_longestStill_44 ml_X5_261 sm_J9_max_7cf53 in_J9 cd_max ⟨Nat.le_of_ble_eq_true rfl, Nat.le_of_ble_eq_true rfl⟩ ⟨Nat.le_of_ble_eq_true rfl, Nat.le_of_ble_eq_true rfl⟩ rfl ?_
      refine nm_el hw (fun v13 ev13 hw => ?_)
      refine g_istore_n (v := v13) C dX5_longestStill_47 ev13.symm (Nat.le_of_ble_eq_true rfl) (lv' := [(1, .int v13), (2, .int x11), (0, .ref x), (3, .int x5)]) rfl rfl ?_
      refine g_iinc (v := (x5 + 1)) (j := 3) C dX5_longestStill_48 rfl rfl (Nat.le_of_ble_eq_true rfl) (lv' := [(3, .int (x5 + 1)), (1, .int v13), (2, .int x11), (0, .ref x)]) rfl rfl ?_
      refine g_goto (pc' := 10) C dX5_longestStill_51 (by decide) rfl ?_
      refine g_lv [3, 1, 2, 0] rfl ?_
      exact ih7 (v13, x11, (x5 + 1), mv9) hw
    · intro J12 hJ12 hw
      refine g_if_eq (tgt := 38) C dX5_longestStill_31 (by decide) rfl hw (fun _ hw => ?_) (fun _ hw => ?_)
      · refine g_iload_n C dX5_longestStill_38 2 rfl rfl ?_
        refine g_iconst (v := 1) C dX5_longestStill_39 rfl rfl ?_
        refine g_iadd C dX5_longestStill_40 rfl ?_
        refine g_lv [0, 1, 3] rfl ?_
        exact hJ12 (x4 + (1 : Int32)) hw
      · refine g_iconst (v := 0) C dX5_longestStill_34 rfl rfl ?_
        refine g_goto (pc' := 41) C dX5_longestStill_35 (by decide) rfl ?_
        refine g_lv [0, 1, 3] rfl ?_
        exact hJ12 (0 : Int32) hw
set_option maxRecDepth 100000 in
theorem c_X5_longestStill (l : Launch) (D : va_G) (cI cQ : ClassId) (x : Nat) (an : Nat → Nat) (am : Nat → Nat) (aq : Nat → Nat) (ap : Nat → Nat) (b : Nat → Nat → Nat) (al : Nat → Nat) (au : Nat → Nat) (re : Nat) (pq : Int32) (n : PT) (m : PT) (post : Int32 → PT → Prop) (sz : Nat) : Met l yX5_longestStill (wsY yX5_longestStill cX5_longestStill 4 (some .int)) (rmL 3 0 0 81) (xP D (tyL cI cQ) [.ref x] [gObj x an am aq ap al au re pq, gPar cI an n, gPar cI am m] sz (p_X5_longestStill n m post)) (xQi D (tyL cI cQ) post (fun (u : PT) => [gObj x an am aq ap al au re pq, gPar cI an n, gPar cI am u]) (va_A [gObj x an am aq ap al au re pq, gPar cI an n, gPar cI am m].flatten sz)) 0 0 (va_A [gObj x an am aq ap al au re pq, gPar cI an n, gPar cI am m].flatten sz) :=
  Met_i pn_X5 (Nat.le_of_ble_eq_true rfl) (fun p e s mi below meth co A Q _ C hret hw => w_X5_longestStill x an am aq ap b al au re pq n m C hret hw)
theorem kV_X5_longestStill : Cond.instanceMethod yX5_longestStill ∈ gTbl ∧ Cond.selects yX5_longestStill.cls yX5_longestStill yX5_longestStill ∈ gTbl ∧ Cond.initialized yX5_longestStill.cls ∈ gTbl ∧ Cond.code yX5_longestStill cX5_longestStill 4 (some .int) ∈ gTbl ∧ (yX5_longestStill.cls ≠ "java/lang/invoke/MethodHandle" ∧ yX5_longestStill.cls ≠ "java/lang/invoke/VarHandle" ∧ (parseMethodDescriptor yX5_longestStill.desc).map (fun d => d.parameters.length) = some 0) := ⟨im_X5_longestStill, sl_X5_longestStill, in_X5, cd_X5_longestStill, (by decide +kernel)⟩
set_option maxRecDepth 100000 in
def p_X5_longestWay (n : PT) (post : Int32 → Prop) : Prop := lpN (fun (K3 : (Int32 × Int32) → Prop) (z3 : Int32 × Int32) => (fun (x1 : Int32) (x2 : Int32) => p_X3_houses n (fun (r4 : Int32) => ((r4 ≤ x2 → post x1) ∧ (¬ r4 ≤ x2 → p_X3_wayBits n x2 (fun (r5 : Int32) => p_J6_bitCount_0f7a4 r5 (fun (r6 : Int32) => nm ((if x1 < r6 then r6 else x1) : Int32) (fun (v7 : Int32) => K3 (v7, (x2 + 1))))))))) z3.1 z3.2) 1000 ((0 : Int32), (0 : Int32))
set_option maxHeartbeats 4000000 in
set_option maxRecDepth 100000 in
theorem w_X5_longestWay {p : Program} {l : Launch} {e : Env} {s : State} {mi : MethodId} {args : Array Value} {below : List Frame} {meth : Method} {co : Code} {D : va_G} {cI cQ : ClassId} {A : Nat → Prop} {Q : State → Prop} (x : Nat) (an : Nat → Nat) (am : Nat → Nat) (aq : Nat → Nat) (ap : Nat → Nat) (b : Nat → Nat → Nat) (al : Nat → Nat) (au : Nat → Nat) (re : Nat) (pq : Int32) (n : PT) {post : Int32 → Prop} (C : xC p s mi args co cX5_longestWay RX5 3 D (tyL cI cQ) A) (hret : ∀ (pc : Nat) (r : Int32) (u : Unit) (lv : List (Nat × Value)), decode cX5_longestWay pc = .ok (.ireturn, 1) → post r → xG p l e (rmL 2 0 0 45) s mi args below meth co D A 3 Q 0 0 pc [.int r] [gObj x an am aq ap al au re pq, gPar cI an n] lv) (hw : p_X5_longestWay n post) : xG p l e (rmL 2 0 0 45) s mi args below meth co D A 3 Q 0 0 0 [] [gObj x an am aq ap al au re pq, gPar cI an n] [(0, .ref x)] := by
  unfold p_X5_longestWay at hw
  try dsimp only at hw
  show xG p l e (rmL 2 0 0 45) s mi args below meth co D A 3 Q 0 0 0 [] [gObj x an am aq ap al au re pq, gPar cI an n] [(0, .ref x)]
  refine g_iconst (v := 0) C dX5_longestWay_0 rfl rfl ?_
  refine g_istore_n (v := (0 : Int32)) C dX5_longestWay_1 rfl (Nat.le_of_ble_eq_true rfl) (lv' := [(1, .int (0 : Int32)), (0, .ref x)]) rfl rfl ?_
  refine g_iconst (v := 0) C dX5_longestWay_2 rfl rfl ?_
  refine g_istore_n (v := (0 : Int32)) C dX5_longestWay_3 rfl (Nat.le_of_ble_eq_true rfl) (lv' := [(2, .int (0 : Int32)), (1, .int (0 : Int32)), (0, .ref x)]) rfl rfl ?_
  refine g_lv [2, 1, 0] rfl ?_
  refine lpN_ind (G := (fun (z3 : Int32 × Int32) => (fun (x1 : Int32) (x2 : Int32) => xG p l e (rmL 2 0 0 45) s mi args below meth co D A 3 Q 0 0 4 [] [gObj x an am aq ap al au re pq, gPar cI an n] [(0, .ref x), (1, .int x1), (2, .int x2)]) z3.1 z3.2)) ?_ 1000 ((0 : Int32), (0 : Int32)) hw
  rintro K3 ⟨x1, x2⟩ ih3 hw
  show xG p l e (rmL 2 0 0 45) s mi args below meth co D A 3 Q 0 0 4 [] [gObj x an am aq ap al au re pq, gPar cI an n] [(0, .ref x), (1, .int x1), (2, .int x2)]
  refine g_iload_n C dX5_longestWay_4 2 rfl rfl ?_
  refine g_aload_n C dX5_longestWay_5 0 rfl rfl ?_
  refine g_get (v := .ref (an 0)) (ci := 4) C dX5_longestWay_6 inw_X5 rfl 0 0 0 rfl rfl (Nat.le_of_ble_eq_true rfl) rfl fl_X5_10 rfl rfl ?_
  refine g_callVi (As := []) (gr := [gObj x an am aq ap al au re pq]) C (c_X3_houses l D cI cQ an n  _) dX5_longestWay_9 ⟨ml_X5_103, kV_X3_houses⟩ ⟨Nat.le_of_ble_eq_true rfl, Nat.le_of_ble_eq_true rfl⟩ ⟨Nat.le_refl _, Nat.le_refl _⟩ rfl rfl 0 0 rfl rfl [1, 0] 2 rfl pmb_1_0 rfl rfl rfl (Nat.le_of_ble_eq_true rfl) rfl (fun (u : Unit) => [gObj x an am aq ap al au re pq, gPar cI an n]) [1, 0] 2 (fun _ => rfl) pmb_1_0 (fun _ => rfl) hw (fun r4 u4 hw => ?_)
  refine g_icmp_ge (tgt := 37) C dX5_longestWay_12 (by decide) rfl hw (fun _ hw => ?_) (fun _ hw => ?_)
  · refine g_iload_n C dX5_longestWay_37 1 rfl rfl ?_
    exact hret 38 x1 () _ dX5_longestWay_38 hw
  · refine g_iload_n C dX5_longestWay_15 1 rfl rfl ?_
    refine g_aload_n C dX5_longestWay_16 0 rfl rfl ?_
    refine g_get (v := .ref (an 0)) (ci := 4) C dX5_longestWay_17 inw_X5 rfl 0 0 0 rfl rfl (Nat.le_of_ble_eq_true rfl) rfl fl_X5_10 rfl rfl ?_
    refine g_iload_n C dX5_longestWay_20 2 rfl rfl ?_
    refine g_callVi (As := [.int x2]) (gr := [gObj x an am aq ap al au re pq]) C (c_X3_wayBits l D cI cQ an n x2 _) dX5_longestWay_21 ⟨ml_X5_173, kV_X3_wayBits⟩ ⟨Nat.le_of_ble_eq_true rfl, Nat.le_of_ble_eq_true rfl⟩ ⟨Nat.le_refl _, Nat.le_refl _⟩ rfl rfl 0 0 rfl rfl [1, 0] 2 rfl pmb_1_0 rfl rfl rfl (Nat.le_of_ble_eq_true rfl) rfl (fun (u : Unit) => [gObj x an am aq ap al au re pq, gPar cI an n]) [1, 0] 2 (fun _ => rfl) pmb_1_0 (fun _ => rfl) hw (fun r5 u5 hw => ?_)
    refine g_callSi (As := [.int r5]) (gr := [gObj x an am aq ap al au re pq, gPar cI an n]) C (c_J6_bitCount_0f7a4 l D cI cQ   r5 _) dX5_longestWay_24 ⟨ml_X5_165, kS_J6_bitCount_0f7a4⟩ ⟨Nat.le_of_ble_eq_true rfl, Nat.le_of_ble_eq_true rfl⟩ ⟨Nat.le_refl _, Nat.le_refl _⟩ [0, 1] 2 rfl pmb_0_1 rfl rfl rfl (Nat.le_of_ble_eq_true rfl) rfl (fun (u : Unit) => [gObj x an am aq ap al au re pq, gPar cI an n]) [0, 1] 2 (fun _ => rfl) pmb_0_1 (fun _ => rfl) hw (fun r6 u6 hw => ?_)
    refine g_mmax C dX5_longestWay_27 ml_X5_261 sm_J9_max_7cf53 in_J9 cd_max ⟨Nat.le_of_ble_eq_true rfl, Nat.le_of_ble_eq_true rfl⟩ ⟨Nat.le_of_ble_eq_true rfl, Nat.le_of_ble_eq_true rfl⟩ rfl ?_
    refine nm_el hw (fun v7 ev7 hw => ?_)
    refine g_istore_n (v := v7) C dX5_longestWay_30 ev7.symm (Nat.le_of_ble_eq_true rfl) (lv' := [(1, .int v7), (0, .ref x), (2, .int x2)]) rfl rfl ?_
    refine g_iinc (v := (x2 + 1)) (j := 2) C dX5_longestWay_31 rfl rfl (Nat.le_of_ble_eq_true rfl) (lv' := [(2, .int (x2 + 1)), (1, .int v7), (0, .ref x)]) rfl rfl ?_
    refine g_goto (pc' := 4) C dX5_longestWay_34 (by decide) rfl ?_
    refine g_lv [2, 1, 0] rfl ?_
    exact ih3 (v7, (x2 + 1)) hw
set_option maxRecDepth 100000 in
theorem c_X5_longestWay (l : Launch) (D : va_G) (cI cQ : ClassId) (x : Nat) (an : Nat → Nat) (am : Nat → Nat) (aq : Nat → Nat) (ap : Nat → Nat) (b : Nat → Nat → Nat) (al : Nat → Nat) (au : Nat → Nat) (re : Nat) (pq : Int32) (n : PT) (post : Int32 → Prop) (sz : Nat) : Met l yX5_longestWay (wsY yX5_longestWay cX5_longestWay 3 (some .int)) (rmL 2 0 0 45) (xP D (tyL cI cQ) [.ref x] [gObj x an am aq ap al au re pq, gPar cI an n] sz (p_X5_longestWay n post)) (xQi D (tyL cI cQ) (fun (r : Int32) (_ : Unit) => post r) (fun (u : Unit) => [gObj x an am aq ap al au re pq, gPar cI an n]) (va_A [gObj x an am aq ap al au re pq, gPar cI an n].flatten sz)) 0 0 (va_A [gObj x an am aq ap al au re pq, gPar cI an n].flatten sz) :=
  Met_i pn_X5 (Nat.le_of_ble_eq_true rfl) (fun p e s mi below meth co A Q _ C hret hw => w_X5_longestWay x an am aq ap b al au re pq n C hret hw)
theorem kV_X5_longestWay : Cond.instanceMethod yX5_longestWay ∈ gTbl ∧ Cond.selects yX5_longestWay.cls yX5_longestWay yX5_longestWay ∈ gTbl ∧ Cond.initialized yX5_longestWay.cls ∈ gTbl ∧ Cond.code yX5_longestWay cX5_longestWay 3 (some .int) ∈ gTbl ∧ (yX5_longestWay.cls ≠ "java/lang/invoke/MethodHandle" ∧ yX5_longestWay.cls ≠ "java/lang/invoke/VarHandle" ∧ (parseMethodDescriptor yX5_longestWay.desc).map (fun d => d.parameters.length) = some 0) := ⟨im_X5_longestWay, sl_X5_longestWay, in_X5, cd_X5_longestWay, (by decide +kernel)⟩
set_option maxRecDepth 100000 in
def p_X5_housesAtCup (n : PT) (post : Int32 → Prop) : Prop := lpN (fun (K3 : (Int32 × Int32) → Prop) (z3 : Int32 × Int32) => (fun (x1 : Int32) (x2 : Int32) => p_X3_houses n (fun (r4 : Int32) => ((r4 ≤ x2 → post x1) ∧ (¬ r4 ≤ x2 → p_X3_nextOf n x2 (fun (r5 : Int32) => p_X3_there n r5 (fun (r6 : Int32) => ((r6 = 0 → nm ((x1 ||| ((1 : Int32) <<< (x2 &&& 31))) : Int32) (fun (v7 : Int32) => K3 (v7, (x2 + 1)))) ∧ (¬ r6 = 0 → K3 (x1, (x2 + 1)))))))))) z3.1 z3.2) 1000 ((0 : Int32), (0 : Int32))
set_option maxHeartbeats 4000000 in
set_option maxRecDepth 100000 in
theorem w_X5_housesAtCup {p : Program} {l : Launch} {e : Env} {s : State} {mi : MethodId} {args : Array Value} {below : List Frame} {meth : Method} {co : Code} {D : va_G} {cI cQ : ClassId} {A : Nat → Prop} {Q : State → Prop} (x : Nat) (an : Nat → Nat) (am : Nat → Nat) (aq : Nat → Nat) (ap : Nat → Nat) (b : Nat → Nat → Nat) (al : Nat → Nat) (au : Nat → Nat) (re : Nat) (pq : Int32) (n : PT) {post : Int32 → Prop} (C : xC p s mi args co cX5_housesAtCup RX5 3 D (tyL cI cQ) A) (hret : ∀ (pc : Nat) (r : Int32) (u : Unit) (lv : List (Nat × Value)), decode cX5_housesAtCup pc = .ok (.ireturn, 1) → post r → xG p l e (rmL 2 0 0 42) s mi args below meth co D A 3 Q 0 0 pc [.int r] [gObj x an am aq ap al au re pq, gPar cI an n] lv) (hw : p_X5_housesAtCup n post) : xG p l e (rmL 2 0 0 42) s mi args below meth co D A 3 Q 0 0 0 [] [gObj x an am aq ap al au re pq, gPar cI an n] [(0, .ref x)] := by
  unfold p_X5_housesAtCup at hw
  try dsimp only at hw
  show xG p l e (rmL 2 0 0 42) s mi args below meth co D A 3 Q 0 0 0 [] [gObj x an am aq ap al au re pq, gPar cI an n] [(0, .ref x)]
  refine g_iconst (v := 0) C dX5_housesAtCup_0 rfl rfl ?_
  refine g_istore_n (v := (0 : Int32)) C dX5_housesAtCup_1 rfl (Nat.le_of_ble_eq_true rfl) (lv' := [(1, .int (0 : Int32)), (0, .ref x)]) rfl rfl ?_
  refine g_iconst (v := 0) C dX5_housesAtCup_2 rfl rfl ?_
  refine g_istore_n (v := (0 : Int32)) C dX5_housesAtCup_3 rfl (Nat.le_of_ble_eq_true rfl) (lv' := [(2, .int (0 : Int32)), (1, .int (0 : Int32)), (0, .ref x)]) rfl rfl ?_
  refine g_lv [2, 1, 0] rfl ?_
  refine lpN_ind (G := (fun (z3 : Int32 × Int32) => (fun (x1 : Int32) (x2 : Int32) => xG p l e (rmL 2 0 0 42) s mi args below meth co D A 3 Q 0 0 4 [] [gObj x an am aq ap al au re pq, gPar cI an n] [(0, .ref x), (1, .int x1), (2, .int x2)]) z3.1 z3.2)) ?_ 1000 ((0 : Int32), (0 : Int32)) hw
  rintro K3 ⟨x1, x2⟩ ih3 hw
  show xG p l e (rmL 2 0 0 42) s mi args below meth co D A 3 Q 0 0 4 [] [gObj x an am aq ap al au re pq, gPar cI an n] [(0, .ref x), (1, .int x1), (2, .int x2)]
  refine g_iload_n C dX5_housesAtCup_4 2 rfl rfl ?_
  refine g_aload_n C dX5_housesAtCup_5 0 rfl rfl ?_
  refine g_get (v := .ref (an 0)) (ci := 4) C dX5_housesAtCup_6 inw_X5 rfl 0 0 0 rfl rfl (Nat.le_of_ble_eq_true rfl) rfl fl_X5_10 rfl rfl ?_
  refine g_callVi (As := []) (gr := [gObj x an am aq ap al au re pq]) C (c_X3_houses l D cI cQ an n  _) dX5_housesAtCup_9 ⟨ml_X5_103, kV_X3_houses⟩ ⟨Nat.le_of_ble_eq_true rfl, Nat.le_of_ble_eq_true rfl⟩ ⟨Nat.le_refl _, Nat.le_refl _⟩ rfl rfl 0 0 rfl rfl [1, 0] 2 rfl pmb_1_0 rfl rfl rfl (Nat.le_of_ble_eq_true rfl) rfl (fun (u : Unit) => [gObj x an am aq ap al au re pq, gPar cI an n]) [1, 0] 2 (fun _ => rfl) pmb_1_0 (fun _ => rfl) hw (fun r4 u4 hw => ?_)
  refine g_icmp_ge (tgt := 45) C dX5_housesAtCup_12 (by decide) rfl hw (fun _ hw => ?_) (fun _ hw => ?_)
  · refine g_iload_n C dX5_housesAtCup_45 1 rfl rfl ?_
    exact hret 46 x1 () _ dX5_housesAtCup_46 hw
  · refine g_aload_n C dX5_housesAtCup_15 0 rfl rfl ?_
    refine g_get (v := .ref (an 0)) (ci := 4) C dX5_housesAtCup_16 inw_X5 rfl 0 0 0 rfl rfl (Nat.le_of_ble_eq_true rfl) rfl fl_X5_10 rfl rfl ?_
    refine g_aload_n C dX5_housesAtCup_19 0 rfl rfl ?_
    refine g_get (v := .ref (an 0)) (ci := 4) C dX5_housesAtCup_20 inw_X5 rfl 0 0 0 rfl rfl (Nat.le_of_ble_eq_true rfl) rfl fl_X5_10 rfl rfl ?_
    refine g_iload_n C dX5_housesAtCup_23 2 rfl rfl ?_
    refine g_callVi (As := [.int x2]) (gr := [gObj x an am aq ap al au re pq]) C (c_X3_nextOf l D cI cQ an n x2 _) dX5_housesAtCup_24 ⟨ml_X5_84, kV_X3_nextOf⟩ ⟨Nat.le_of_ble_eq_true rfl, Nat.le_of_ble_eq_true rfl⟩ ⟨Nat.le_refl _, Nat.le_refl _⟩ rfl rfl 0 0 rfl rfl [1, 0] 2 rfl pmb_1_0 rfl rfl rfl (Nat.le_of_ble_eq_true rfl) rfl (fun (u : Unit) => [gObj x an am aq ap al au re pq, gPar cI an n]) [1, 0] 2 (fun _ => rfl) pmb_1_0 (fun _ => rfl) hw (fun r5 u5 hw => ?_)
    refine g_callVi (As := [.int r5]) (gr := [gObj x an am aq ap al au re pq]) C (c_X3_there l D cI cQ an n r5 _) dX5_housesAtCup_27 ⟨ml_X5_72, kV_X3_there⟩ ⟨Nat.le_of_ble_eq_true rfl, Nat.le_of_ble_eq_true rfl⟩ ⟨Nat.le_refl _, Nat.le_refl _⟩ rfl rfl 0 0 rfl rfl [1, 0] 2 rfl pmb_1_0 rfl rfl rfl (Nat.le_of_ble_eq_true rfl) rfl (fun (u : Unit) => [gObj x an am aq ap al au re pq, gPar cI an n]) [1, 0] 2 (fun _ => rfl) pmb_1_0 (fun _ => rfl) hw (fun r6 u6 hw => ?_)
    refine g_if_ne (tgt := 39) C dX5_housesAtCup_30 (by decide) rfl hw (fun _ hw => ?_) (fun _ hw => ?_)
    · refine g_iinc (v := (x2 + 1)) (j := 2) C dX5_housesAtCup_39 rfl rfl (Nat.le_of_ble_eq_true rfl) (lv' := [(2, .int (x2 + 1)), (0, .ref x), (1, .int x1)]) rfl rfl ?_
      refine g_goto (pc' := 4) C dX5_housesAtCup_42 (by decide) rfl ?_
      refine g_lv [1, 2, 0] rfl ?_
      exact ih3 (x1, (x2 + 1)) hw
    · refine g_iload_n C dX5_housesAtCup_33 1 rfl rfl ?_
      refine g_iconst (v := 1) C dX5_housesAtCup_34 rfl rfl ?_
      refine g_iload_n C dX5_housesAtCup_35 2 rfl rfl ?_
      refine g_ishl C dX5_housesAtCup_36 rfl ?_
      refine g_ior C dX5_housesAtCup_37 rfl ?_
      refine nm_el hw (fun v7 ev7 hw => ?_)
      refine g_istore_n (v := v7) C dX5_housesAtCup_38 ev7.symm (Nat.le_of_ble_eq_true rfl) (lv' := [(1, .int v7), (0, .ref x), (2, .int x2)]) rfl rfl ?_
      refine g_iinc (v := (x2 + 1)) (j := 2) C dX5_housesAtCup_39 rfl rfl (Nat.le_of_ble_eq_true rfl) (lv' := [(2, .int (x2 + 1)), (1, .int v7), (0, .ref x)]) rfl rfl ?_
      refine g_goto (pc' := 4) C dX5_housesAtCup_42 (by decide) rfl ?_
      refine g_lv [2, 1, 0] rfl ?_
      exact ih3 (v7, (x2 + 1)) hw
set_option maxRecDepth 100000 in
theorem c_X5_housesAtCup (l : Launch) (D : va_G) (cI cQ : ClassId) (x : Nat) (an : Nat → Nat) (am : Nat → Nat) (aq : Nat → Nat) (ap : Nat → Nat) (b : Nat → Nat → Nat) (al : Nat → Nat) (au : Nat → Nat) (re : Nat) (pq : Int32) (n : PT) (post : Int32 → Prop) (sz : Nat) : Met l yX5_housesAtCup (wsY yX5_housesAtCup cX5_housesAtCup 3 (some .int)) (rmL 2 0 0 42) (xP D (tyL cI cQ) [.ref x] [gObj x an am aq ap al au re pq, gPar cI an n] sz (p_X5_housesAtCup n post)) (xQi D (tyL cI cQ) (fun (r : Int32) (_ : Unit) => post r) (fun (u : Unit) => [gObj x an am aq ap al au re pq, gPar cI an n]) (va_A [gObj x an am aq ap al au re pq, gPar cI an n].flatten sz)) 0 0 (va_A [gObj x an am aq ap al au re pq, gPar cI an n].flatten sz) :=
  Met_i pn_X5 (Nat.le_of_ble_eq_true rfl) (fun p e s mi below meth co A Q _ C hret hw => w_X5_housesAtCup x an am aq ap b al au re pq n C hret hw)
theorem kV_X5_housesAtCup : Cond.instanceMethod yX5_housesAtCup ∈ gTbl ∧ Cond.selects yX5_housesAtCup.cls yX5_housesAtCup yX5_housesAtCup ∈ gTbl ∧ Cond.initialized yX5_housesAtCup.cls ∈ gTbl ∧ Cond.code yX5_housesAtCup cX5_housesAtCup 3 (some .int) ∈ gTbl ∧ (yX5_housesAtCup.cls ≠ "java/lang/invoke/MethodHandle" ∧ yX5_housesAtCup.cls ≠ "java/lang/invoke/VarHandle" ∧ (parseMethodDescriptor yX5_housesAtCup.desc).map (fun d => d.parameters.length) = some 0) := ⟨im_X5_housesAtCup, sl_X5_housesAtCup, in_X5, cd_X5_housesAtCup, (by decide +kernel)⟩
set_option maxRecDepth 100000 in
def p_X5_houseHoldingMost (n : PT) (post : Int32 → Prop) : Prop := lpN (fun (K4 : (Int32 × Int32 × Int32) → Prop) (z4 : Int32 × Int32 × Int32) => (fun (x1 : Int32) (x2 : Int32) (x3 : Int32) => p_X3_houses n (fun (r5 : Int32) => ((r5 ≤ x3 → post x1) ∧ (¬ r5 ≤ x3 → p_X3_holdsOf n x3 (fun (r6 : Int32) => ((r6 ≤ x2 → K4 (x1, x2, (x3 + 1))) ∧ (¬ r6 ≤ x2 → p_X3_holdsOf n x3 (fun (r7 : Int32) => K4 (x3, r7, (x3 + 1)))))))))) z4.1 z4.2.1 z4.2.2) 1000 ((-9 : Int32), (-1 : Int32), (0 : Int32))
set_option maxHeartbeats 4000000 in
set_option maxRecDepth 100000 in
theorem w_X5_houseHoldingMost {p : Program} {l : Launch} {e : Env} {s : State} {mi : MethodId} {args : Array Value} {below : List Frame} {meth : Method} {co : Code} {D : va_G} {cI cQ : ClassId} {A : Nat → Prop} {Q : State → Prop} (x : Nat) (an : Nat → Nat) (am : Nat → Nat) (aq : Nat → Nat) (ap : Nat → Nat) (b : Nat → Nat → Nat) (al : Nat → Nat) (au : Nat → Nat) (re : Nat) (pq : Int32) (n : PT) {post : Int32 → Prop} (C : xC p s mi args co cX5_houseHoldingMost RX5 4 D (tyL cI cQ) A) (hret : ∀ (pc : Nat) (r : Int32) (u : Unit) (lv : List (Nat × Value)), decode cX5_houseHoldingMost pc = .ok (.ireturn, 1) → post r → xG p l e (rmL 2 0 0 42) s mi args below meth co D A 4 Q 0 0 pc [.int r] [gObj x an am aq ap al au re pq, gPar cI an n] lv) (hw : p_X5_houseHoldingMost n post) : xG p l e (rmL 2 0 0 42) s mi args below meth co D A 4 Q 0 0 0 [] [gObj x an am aq ap al au re pq, gPar cI an n] [(0, .ref x)] := by
  unfold p_X5_houseHoldingMost at hw
  try dsimp only at hw
  show xG p l e (rmL 2 0 0 42) s mi args below meth co D A 4 Q 0 0 0 [] [gObj x an am aq ap al au re pq, gPar cI an n] [(0, .ref x)]
  refine g_bipush (v := -9) C dX5_houseHoldingMost_0 (by decide) rfl ?_
  refine g_istore_n (v := (-9 : Int32)) C dX5_houseHoldingMost_2 rfl (Nat.le_of_ble_eq_true rfl) (lv' := [(1, .int (-9 : Int32)), (0, .ref x)]) rfl rfl ?_
  refine g_iconst (v := -1) C dX5_houseHoldingMost_3 (by decide) rfl ?_
  refine g_istore_n (v := (-1 : Int32)) C dX5_houseHoldingMost_4 rfl (Nat.le_of_ble_eq_true rfl) (lv' := [(2, .int (-1 : Int32)), (1, .int (-9 : Int32)), (0, .ref x)]) rfl rfl ?_
  refine g_iconst (v := 0) C dX5_houseHoldingMost_5 rfl rfl ?_
  refine g_istore_n (v := (0 : Int32)) C dX5_houseHoldingMost_6 rfl (Nat.le_of_ble_eq_true rfl) (lv' := [(3, .int (0 : Int32)), (2, .int (-1 : Int32)), (1, .int (-9 : Int32)), (0, .ref x)]) rfl rfl ?_
  refine g_lv [3, 2, 1, 0] rfl ?_
  refine lpN_ind (G := (fun (z4 : Int32 × Int32 × Int32) => (fun (x1 : Int32) (x2 : Int32) (x3 : Int32) => xG p l e (rmL 2 0 0 42) s mi args below meth co D A 4 Q 0 0 7 [] [gObj x an am aq ap al au re pq, gPar cI an n] [(0, .ref x), (1, .int x1), (2, .int x2), (3, .int x3)]) z4.1 z4.2.1 z4.2.2)) ?_ 1000 ((-9 : Int32), (-1 : Int32), (0 : Int32)) hw
  rintro K4 ⟨x1, x2, x3⟩ ih4 hw
  show xG p l e (rmL 2 0 0 42) s mi args below meth co D A 4 Q 0 0 7 [] [gObj x an am aq ap al au re pq, gPar cI an n] [(0, .ref x), (1, .int x1), (2, .int x2), (3, .int x3)]
  refine g_iload_n C dX5_houseHoldingMost_7 3 rfl rfl ?_
  refine g_aload_n C dX5_houseHoldingMost_8 0 rfl rfl ?_
  refine g_get (v := .ref (an 0)) (ci := 4) C dX5_houseHoldingMost_9 inw_X5 rfl 0 0 0 rfl rfl (Nat.le_of_ble_eq_true rfl) rfl fl_X5_10 rfl rfl ?_
  refine g_callVi (As := []) (gr := [gObj x an am aq ap al au re pq]) C (c_X3_houses l D cI cQ an n  _) dX5_houseHoldingMost_12 ⟨ml_X5_103, kV_X3_houses⟩ ⟨Nat.le_of_ble_eq_true rfl, Nat.le_of_ble_eq_true rfl⟩ ⟨Nat.le_refl _, Nat.le_refl _⟩ rfl rfl 0 0 rfl rfl [1, 0] 2 rfl pmb_1_0 rfl rfl rfl (Nat.le_of_ble_eq_true rfl) rfl (fun (u : Unit) => [gObj x an am aq ap al au re pq, gPar cI an n]) [1, 0] 2 (fun _ => rfl) pmb_1_0 (fun _ => rfl) hw (fun r5 u5 hw => ?_)
  refine g_icmp_ge (tgt := 47) C dX5_houseHoldingMost_15 (by decide) rfl hw (fun _ hw => ?_) (fun _ hw => ?_)
  · refine g_iload_n C dX5_houseHoldingMost_47 1 rfl rfl ?_
    exact hret 48 x1 () _ dX5_houseHoldingMost_48 hw
  · refine g_aload_n C dX5_houseHoldingMost_18 0 rfl rfl ?_
    refine g_get (v := .ref (an 0)) (ci := 4) C dX5_houseHoldingMost_19 inw_X5 rfl 0 0 0 rfl rfl (Nat.le_of_ble_eq_true rfl) rfl fl_X5_10 rfl rfl ?_
    refine g_iload_n C dX5_houseHoldingMost_22 3 rfl rfl ?_
    refine g_callVi (As := [.int x3]) (gr := [gObj x an am aq ap al au re pq]) C (c_X3_holdsOf l D cI cQ an n x3 _) dX5_houseHoldingMost_23 ⟨ml_X5_81, kV_X3_holdsOf⟩ ⟨Nat.le_of_ble_eq_true rfl, Nat.le_of_ble_eq_true rfl⟩ ⟨Nat.le_refl _, Nat.le_refl _⟩ rfl rfl 0 0 rfl rfl [1, 0] 2 rfl pmb_1_0 rfl rfl rfl (Nat.le_of_ble_eq_true rfl) rfl (fun (u : Unit) => [gObj x an am aq ap al au re pq, gPar cI an n]) [1, 0] 2 (fun _ => rfl) pmb_1_0 (fun _ => rfl) hw (fun r6 u6 hw => ?_)
    refine g_iload_n C dX5_houseHoldingMost_26 2 rfl rfl ?_
    refine g_icmp_le (tgt := 41) C dX5_houseHoldingMost_27 (by decide) rfl hw (fun _ hw => ?_) (fun _ hw => ?_)
    · refine g_iinc (v := (x3 + 1)) (j := 3) C dX5_houseHoldingMost_41 rfl rfl (Nat.le_of_ble_eq_true rfl) (lv' := [(3, .int (x3 + 1)), (0, .ref x), (1, .int x1), (2, .int x2)]) rfl rfl ?_
      refine g_goto (pc' := 7) C dX5_houseHoldingMost_44 (by decide) rfl ?_
      refine g_lv [1, 2, 3, 0] rfl ?_
      exact ih4 (x1, x2, (x3 + 1)) hw
    · refine g_aload_n C dX5_houseHoldingMost_30 0 rfl rfl ?_
      refine g_get (v := .ref (an 0)) (ci := 4) C dX5_houseHoldingMost_31 inw_X5 rfl 0 0 0 rfl rfl (Nat.le_of_ble_eq_true rfl) rfl fl_X5_10 rfl rfl ?_
      refine g_iload_n C dX5_houseHoldingMost_34 3 rfl rfl ?_
      refine g_callVi (As := [.int x3]) (gr := [gObj x an am aq ap al au re pq]) C (c_X3_holdsOf l D cI cQ an n x3 _) dX5_houseHoldingMost_35 ⟨ml_X5_81, kV_X3_holdsOf⟩ ⟨Nat.le_of_ble_eq_true rfl, Nat.le_of_ble_eq_true rfl⟩ ⟨Nat.le_refl _, Nat.le_refl _⟩ rfl rfl 0 0 rfl rfl [1, 0] 2 rfl pmb_1_0 rfl rfl rfl (Nat.le_of_ble_eq_true rfl) rfl (fun (u : Unit) => [gObj x an am aq ap al au re pq, gPar cI an n]) [1, 0] 2 (fun _ => rfl) pmb_1_0 (fun _ => rfl) hw (fun r7 u7 hw => ?_)
      refine g_istore_n (v := r7) C dX5_houseHoldingMost_38 rfl (Nat.le_of_ble_eq_true rfl) (lv' := [(2, .int r7), (0, .ref x), (1, .int x1), (3, .int x3)]) rfl rfl ?_
      refine g_iload_n C dX5_houseHoldingMost_39 3 rfl rfl ?_
      refine g_istore_n (v := x3) C dX5_houseHoldingMost_40 rfl (Nat.le_of_ble_eq_true rfl) (lv' := [(1, .int x3), (2, .int r7), (0, .ref x), (3, .int x3)]) rfl rfl ?_
      refine g_iinc (v := (x3 + 1)) (j := 3) C dX5_houseHoldingMost_41 rfl rfl (Nat.le_of_ble_eq_true rfl) (lv' := [(3, .int (x3 + 1)), (1, .int x3), (2, .int r7), (0, .ref x)]) rfl rfl ?_
      refine g_goto (pc' := 7) C dX5_houseHoldingMost_44 (by decide) rfl ?_
      refine g_lv [3, 1, 2, 0] rfl ?_
      exact ih4 (x3, r7, (x3 + 1)) hw
set_option maxRecDepth 100000 in
theorem c_X5_houseHoldingMost (l : Launch) (D : va_G) (cI cQ : ClassId) (x : Nat) (an : Nat → Nat) (am : Nat → Nat) (aq : Nat → Nat) (ap : Nat → Nat) (b : Nat → Nat → Nat) (al : Nat → Nat) (au : Nat → Nat) (re : Nat) (pq : Int32) (n : PT) (post : Int32 → Prop) (sz : Nat) : Met l yX5_houseHoldingMost (wsY yX5_houseHoldingMost cX5_houseHoldingMost 4 (some .int)) (rmL 2 0 0 42) (xP D (tyL cI cQ) [.ref x] [gObj x an am aq ap al au re pq, gPar cI an n] sz (p_X5_houseHoldingMost n post)) (xQi D (tyL cI cQ) (fun (r : Int32) (_ : Unit) => post r) (fun (u : Unit) => [gObj x an am aq ap al au re pq, gPar cI an n]) (va_A [gObj x an am aq ap al au re pq, gPar cI an n].flatten sz)) 0 0 (va_A [gObj x an am aq ap al au re pq, gPar cI an n].flatten sz) :=
  Met_i pn_X5 (Nat.le_of_ble_eq_true rfl) (fun p e s mi below meth co A Q _ C hret hw => w_X5_houseHoldingMost x an am aq ap b al au re pq n C hret hw)
theorem kV_X5_houseHoldingMost : Cond.instanceMethod yX5_houseHoldingMost ∈ gTbl ∧ Cond.selects yX5_houseHoldingMost.cls yX5_houseHoldingMost yX5_houseHoldingMost ∈ gTbl ∧ Cond.initialized yX5_houseHoldingMost.cls ∈ gTbl ∧ Cond.code yX5_houseHoldingMost cX5_houseHoldingMost 4 (some .int) ∈ gTbl ∧ (yX5_houseHoldingMost.cls ≠ "java/lang/invoke/MethodHandle" ∧ yX5_houseHoldingMost.cls ≠ "java/lang/invoke/VarHandle" ∧ (parseMethodDescriptor yX5_houseHoldingMost.desc).map (fun d => d.parameters.length) = some 0) := ⟨im_X5_houseHoldingMost, sl_X5_houseHoldingMost, in_X5, cd_X5_houseHoldingMost, (by decide +kernel)⟩
set_option maxRecDepth 100000 in
def p_X5_fullest (n : PT) (m : PT) (rf : F1) (p1 : Int32) (post : Int32 → PT × F1 → Prop) : Prop := ((p1 = 0 → p_X5_houseHoldingMost n (fun (r1 : Int32) => post r1 (m, rf))) ∧ (¬ p1 = 0 → ((p1 = 1 → p_X5_housesAtCup n (fun (r2 : Int32) => post r2 (m, rf))) ∧ (¬ p1 = 1 → ((p1 = 2 → p_X3_allBits n (fun (r3 : Int32) => p_X3_wetBits n (fun (r4 : Int32) => post (r3 &&& (r4 ^^^ (-1 : Int32))) (m, rf)))) ∧ (¬ p1 = 2 → ((p1 = 3 → p_X5_longestWay n (fun (r5 : Int32) => post r5 (m, rf))) ∧ (¬ p1 = 3 → ((p1 = 4 → p_X5_longestStill n m (fun (r6 : Int32) (u6 : PT) => (fun (mv7 : PT) => post r6 (mv7, rf)) u6)) ∧ (¬ p1 = 4 → ((p1 = 5 → p_X5_twins n (fun (r8 : Int32) => post r8 (m, rf))) ∧ (¬ p1 = 5 → p_X5_refuse rf (-2 : Int32) (fun (r9 : Int32) (u9 : F1) => (fun (rfv10 : F1) => post r9 (m, rfv10)) u9)))))))))))))
set_option maxHeartbeats 4000000 in
set_option maxRecDepth 100000 in
theorem w_X5_fullest {p : Program} {l : Launch} {e : Env} {s : State} {mi : MethodId} {args : Array Value} {below : List Frame} {meth : Method} {co : Code} {D : va_G} {cI cQ : ClassId} {A : Nat → Prop} {Q : State → Prop} (x : Nat) (an : Nat → Nat) (am : Nat → Nat) (aq : Nat → Nat) (ap : Nat → Nat) (b : Nat → Nat → Nat) (al : Nat → Nat) (au : Nat → Nat) (re : Nat) (pq : Int32) (n : PT) (m : PT) (rf : F1) (p1 : Int32) {post : Int32 → PT × F1 → Prop} (C : xC p s mi args co cX5_fullest RX5 2 D (tyL cI cQ) A) (hret : ∀ (pc : Nat) (r : Int32) (u : PT × F1) (lv : List (Nat × Value)), decode cX5_fullest pc = .ok (.ireturn, 1) → post r u → xG p l e (rmL 4 0 0 104) s mi args below meth co D A 2 Q 0 0 pc [.int r] [gObj x an am aq ap al au re pq, gPar cI an n, gPar cI am u.1, gA cI re 7 u.2] lv) (hw : p_X5_fullest n m rf p1 post) : xG p l e (rmL 4 0 0 104) s mi args below meth co D A 2 Q 0 0 0 [] [gObj x an am aq ap al au re pq, gPar cI an n, gPar cI am m, gA cI re 7 rf] [(0, .ref x), (1, .int p1)] := by
  unfold p_X5_fullest at hw
  try dsimp only at hw
  show xG p l e (rmL 4 0 0 104) s mi args below meth co D A 2 Q 0 0 0 [] [gObj x an am aq ap al au re pq, gPar cI an n, gPar cI am m, gA cI re 7 rf] [(0, .ref x), (1, .int p1)]
  refine g_iload_n C dX5_fullest_0 1 rfl rfl ?_
  rcases Classical.em (p1 = 0) with hs1_0 | hs1_0
  · replace hw := hw.1 hs1_0
    refine g_tswIn (pc' := 40) C dX5_fullest_1 0 hs1_0 (by decide) (by decide) rfl (by decide) ?_
    refine g_aload_n C dX5_fullest_40 0 rfl rfl ?_
    refine g_callVi (As := []) (gr := [gPar cI am m, gA cI re 7 rf]) C (c_X5_houseHoldingMost l D cI cQ x an am aq ap b al au re pq n  _) dX5_fullest_41 ⟨ml_X5_197, kV_X5_houseHoldingMost⟩ ⟨Nat.le_of_ble_eq_true rfl, Nat.le_of_ble_eq_true rfl⟩ ⟨Nat.le_refl _, Nat.le_refl _⟩ rfl rfl 0 0 rfl rfl [0, 1, 2, 3] 4 rfl pmb_0_1_2_3 rfl rfl rfl (Nat.le_of_ble_eq_true rfl) rfl (fun (u : Unit) => [gObj x an am aq ap al au re pq, gPar cI an n, gPar cI am m, gA cI re 7 rf]) [0, 1, 2, 3] 4 (fun _ => rfl) pmb_0_1_2_3 (fun _ => rfl) hw (fun r1 u1 hw => ?_)
    exact hret 44 r1 (m, rf) _ dX5_fullest_44 hw
  · replace hw := hw.2 hs1_0
    rcases Classical.em (p1 = 1) with hs1_1 | hs1_1
    · replace hw := hw.1 hs1_1
      refine g_tswIn (pc' := 45) C dX5_fullest_1 1 hs1_1 (by decide) (by decide) rfl (by decide) ?_
      refine g_aload_n C dX5_fullest_45 0 rfl rfl ?_
      refine g_callVi (As := []) (gr := [gPar cI am m, gA cI re 7 rf]) C (c_X5_housesAtCup l D cI cQ x an am aq ap b al au re pq n  _) dX5_fullest_46 ⟨ml_X5_200, kV_X5_housesAtCup⟩ ⟨Nat.le_of_ble_eq_true rfl, Nat.le_of_ble_eq_true rfl⟩ ⟨Nat.le_refl _, Nat.le_refl _⟩ rfl rfl 0 0 rfl rfl [0, 1, 2, 3] 4 rfl pmb_0_1_2_3 rfl rfl rfl (Nat.le_of_ble_eq_true rfl) rfl (fun (u : Unit) => [gObj x an am aq ap al au re pq, gPar cI an n, gPar cI am m, gA cI re 7 rf]) [0, 1, 2, 3] 4 (fun _ => rfl) pmb_0_1_2_3 (fun _ => rfl) hw (fun r2 u2 hw => ?_)
      exact hret 49 r2 (m, rf) _ dX5_fullest_49 hw
    · replace hw := hw.2 hs1_1
      rcases Classical.em (p1 = 2) with hs1_2 | hs1_2
      · replace hw := hw.1 hs1_2
        refine g_tswIn (pc' := 50) C dX5_fullest_1 2 hs1_2 (by decide) (by decide) rfl (by decide) ?_
        refine g_aload_n C dX5_fullest_50 0 rfl rfl ?_
        refine g_get (v := .ref (an 0)) (ci := 4) C dX5_fullest_51 inw_X5 rfl 0 0 0 rfl rfl (Nat.le_of_ble_eq_true rfl) rfl fl_X5_10 rfl rfl ?_
        refine g_callVi (As := []) (gr := [gObj x an am aq ap al au re pq, gPar cI am m, gA cI re 7 rf]) C (c_X3_allBits l D cI cQ an n  _) dX5_fullest_54 ⟨ml_X5_203, kV_X3_allBits⟩ ⟨Nat.le_of_ble_eq_true rfl, Nat.le_of_ble_eq_true rfl⟩ ⟨Nat.le_refl _, Nat.le_refl _⟩ rfl rfl 0 0 rfl rfl [1, 0, 2, 3] 4 rfl pmb_1_0_2_3 rfl rfl rfl (Nat.le_of_ble_eq_true rfl) rfl (fun (u : Unit) => [gObj x an am aq ap al au re pq, gPar cI an n, gPar cI am m, gA cI re 7 rf]) [1, 0, 2, 3] 4 (fun _ => rfl) pmb_1_0_2_3 (fun _ => rfl) hw (fun r3 u3 hw => ?_)
        refine g_aload_n C dX5_fullest_57 0 rfl rfl ?_
        refine g_get (v := .ref (an 0)) (ci := 4) C dX5_fullest_58 inw_X5 rfl 0 0 0 rfl rfl (Nat.le_of_ble_eq_true rfl) rfl fl_X5_10 rfl rfl ?_
        refine g_callVi (As := []) (gr := [gObj x an am aq ap al au re pq, gPar cI am m, gA cI re 7 rf]) C (c_X3_wetBits l D cI cQ an n  _) dX5_fullest_61 ⟨ml_X5_206, kV_X3_wetBits⟩ ⟨Nat.le_of_ble_eq_true rfl, Nat.le_of_ble_eq_true rfl⟩ ⟨Nat.le_refl _, Nat.le_refl _⟩ rfl rfl 0 0 rfl rfl [1, 0, 2, 3] 4 rfl pmb_1_0_2_3 rfl rfl rfl (Nat.le_of_ble_eq_true rfl) rfl (fun (u : Unit) => [gObj x an am aq ap al au re pq, gPar cI an n, gPar cI am m, gA cI re 7 rf]) [1, 0, 2, 3] 4 (fun _ => rfl) pmb_1_0_2_3 (fun _ => rfl) hw (fun r4 u4 hw => ?_)
        refine g_iconst (v := -1) C dX5_fullest_64 (by decide) rfl ?_
        refine g_ixor C dX5_fullest_65 rfl ?_
        refine g_iand C dX5_fullest_66 rfl ?_
        exact hret 67 (r3 &&& (r4 ^^^ (-1 : Int32))) (m, rf) _ dX5_fullest_67 hw
      · replace hw := hw.2 hs1_2
        rcases Classical.em (p1 = 3) with hs1_3 | hs1_3
        · replace hw := hw.1 hs1_3
          refine g_tswIn (pc' := 68) C dX5_fullest_1 3 hs1_3 (by decide) (by decide) rfl (by decide) ?_
          refine g_aload_n C dX5_fullest_68 0 rfl rfl ?_
          refine g_callVi (As := []) (gr := [gPar cI am m, gA cI re 7 rf]) C (c_X5_longestWay l D cI cQ x an am aq ap b al au re pq n  _) dX5_fullest_69 ⟨ml_X5_209, kV_X5_longestWay⟩ ⟨Nat.le_of_ble_eq_true rfl, Nat.le_of_ble_eq_true rfl⟩ ⟨Nat.le_refl _, Nat.le_refl _⟩ rfl rfl 0 0 rfl rfl [0, 1, 2, 3] 4 rfl pmb_0_1_2_3 rfl rfl rfl (Nat.le_of_ble_eq_true rfl) rfl (fun (u : Unit) => [gObj x an am aq ap al au re pq, gPar cI an n, gPar cI am m, gA cI re 7 rf]) [0, 1, 2, 3] 4 (fun _ => rfl) pmb_0_1_2_3 (fun _ => rfl) hw (fun r5 u5 hw => ?_)
          exact hret 72 r5 (m, rf) _ dX5_fullest_72 hw
        · replace hw := hw.2 hs1_3
          rcases Classical.em (p1 = 4) with hs1_4 | hs1_4
          · replace hw := hw.1 hs1_4
            refine g_tswIn (pc' := 73) C dX5_fullest_1 4 hs1_4 (by decide) (by decide) rfl (by decide) ?_
            refine g_aload_n C dX5_fullest_73 0 rfl rfl ?_
            refine g_callVi (As := []) (gr := [gA cI re 7 rf]) C (c_X5_longestStill l D cI cQ x an am aq ap b al au re pq n m  _) dX5_fullest_74 ⟨ml_X5_212, kV_X5_longestStill⟩ ⟨Nat.le_of_ble_eq_true rfl, Nat.le_of_ble_eq_true rfl⟩ ⟨Nat.le_refl _, Nat.le_refl _⟩ rfl rfl 0 0 rfl rfl [0, 1, 2, 3] 4 rfl pmb_0_1_2_3 rfl rfl rfl (Nat.le_of_ble_eq_true rfl) rfl (fun (u : PT) => [gObj x an am aq ap al au re pq, gPar cI an n, gPar cI am u, gA cI re 7 rf]) [0, 1, 2, 3] 4 (fun _ => rfl) pmb_0_1_2_3 (fun _ => rfl) hw (fun r6 u6 hw => ?_)
            obtain ⟨mv7, rfl⟩ : ∃ z, z = u6 := ⟨_, rfl⟩
            exact hret 77 r6 (mv7, rf) _ dX5_fullest_77 hw
          · replace hw := hw.2 hs1_4
            rcases Classical.em (p1 = 5) with hs1_5 | hs1_5
            · replace hw := hw.1 hs1_5
              refine g_tswIn (pc' := 78) C dX5_fullest_1 5 hs1_5 (by decide) (by decide) rfl (by decide) ?_
              refine g_aload_n C dX5_fullest_78 0 rfl rfl ?_
              refine g_callVi (As := []) (gr := [gPar cI am m, gA cI re 7 rf]) C (c_X5_twins l D cI cQ x an am aq ap b al au re pq n  _) dX5_fullest_79 ⟨ml_X5_215, kV_X5_twins⟩ ⟨Nat.le_of_ble_eq_true rfl, Nat.le_of_ble_eq_true rfl⟩ ⟨Nat.le_refl _, Nat.le_refl _⟩ rfl rfl 0 0 rfl rfl [0, 1, 2, 3] 4 rfl pmb_0_1_2_3 rfl rfl rfl (Nat.le_of_ble_eq_true rfl) rfl (fun (u : Unit) => [gObj x an am aq ap al au re pq, gPar cI an n, gPar cI am m, gA cI re 7 rf]) [0, 1, 2, 3] 4 (fun _ => rfl) pmb_0_1_2_3 (fun _ => rfl) hw (fun r8 u8 hw => ?_)
              exact hret 82 r8 (m, rf) _ dX5_fullest_82 hw
            · replace hw := hw.2 hs1_5
              have ht1 : (p1).toInt < 0 ∨ 5 < (p1).toInt := by
                have q0 := lv_neT (a := 0) hs1_0 (by decide)
                have q1 := lv_neT (a := 1) hs1_1 (by decide)
                have q2 := lv_neT (a := 2) hs1_2 (by decide)
                have q3 := lv_neT (a := 3) hs1_3 (by decide)
                have q4 := lv_neT (a := 4) hs1_4 (by decide)
                have q5 := lv_neT (a := 5) hs1_5 (by decide)
                omega
              refine g_tswOut (pc' := 83) C dX5_fullest_1 ht1 (by decide) ?_
              refine g_aload_n C dX5_fullest_83 0 rfl rfl ?_
              refine g_bipush (v := -2) C dX5_fullest_84 (by decide) rfl ?_
              refine g_callVi (As := [.int (-2 : Int32)]) (gr := [gPar cI an n, gPar cI am m]) C (c_X5_refuse l D cI cQ x an am aq ap b al au re pq rf (-2 : Int32) _) dX5_fullest_86 ⟨ml_X5_51, kV_X5_refuse⟩ ⟨Nat.le_of_ble_eq_true rfl, Nat.le_of_ble_eq_true rfl⟩ ⟨Nat.le_refl _, Nat.le_refl _⟩ rfl rfl 0 0 rfl rfl [0, 3, 1, 2] 4 rfl pmb_0_3_1_2 rfl rfl rfl (Nat.le_of_ble_eq_true rfl) rfl (fun (u : F1) => [gObj x an am aq ap al au re pq, gPar cI an n, gPar cI am m, gA cI re 7 u]) [0, 2, 3, 1] 4 (fun _ => rfl) pmb_0_2_3_1 (fun _ => rfl) hw (fun r9 u9 hw => ?_)
              obtain ⟨rfv10, rfl⟩ : ∃ z, z = u9 := ⟨_, rfl⟩
              exact hret 89 r9 (m, rfv10) _ dX5_fullest_89 hw
set_option maxRecDepth 100000 in
theorem c_X5_fullest (l : Launch) (D : va_G) (cI cQ : ClassId) (x : Nat) (an : Nat → Nat) (am : Nat → Nat) (aq : Nat → Nat) (ap : Nat → Nat) (b : Nat → Nat → Nat) (al : Nat → Nat) (au : Nat → Nat) (re : Nat) (pq : Int32) (n : PT) (m : PT) (rf : F1) (p1 : Int32) (post : Int32 → PT × F1 → Prop) (sz : Nat) : Met l yX5_fullest (wsY yX5_fullest cX5_fullest 2 (some .int)) (rmL 4 0 0 104) (xP D (tyL cI cQ) [.ref x, .int p1] [gObj x an am aq ap al au re pq, gPar cI an n, gPar cI am m, gA cI re 7 rf] sz (p_X5_fullest n m rf p1 post)) (xQi D (tyL cI cQ) post (fun (u : PT × F1) => [gObj x an am aq ap al au re pq, gPar cI an n, gPar cI am u.1, gA cI re 7 u.2]) (va_A [gObj x an am aq ap al au re pq, gPar cI an n, gPar cI am m, gA cI re 7 rf].flatten sz)) 0 0 (va_A [gObj x an am aq ap al au re pq, gPar cI an n, gPar cI am m, gA cI re 7 rf].flatten sz) :=
  Met_i pn_X5 (Nat.le_of_ble_eq_true rfl) (fun p e s mi below meth co A Q _ C hret hw => w_X5_fullest x an am aq ap b al au re pq n m rf p1 C hret hw)
theorem kV_X5_fullest : Cond.instanceMethod yX5_fullest ∈ gTbl ∧ Cond.selects yX5_fullest.cls yX5_fullest yX5_fullest ∈ gTbl ∧ Cond.initialized yX5_fullest.cls ∈ gTbl ∧ Cond.code yX5_fullest cX5_fullest 2 (some .int) ∈ gTbl ∧ (yX5_fullest.cls ≠ "java/lang/invoke/MethodHandle" ∧ yX5_fullest.cls ≠ "java/lang/invoke/VarHandle" ∧ (parseMethodDescriptor yX5_fullest.desc).map (fun d => d.parameters.length) = some 1) := ⟨im_X5_fullest, sl_X5_fullest, in_X5, cd_X5_fullest, (by decide +kernel)⟩
set_option maxRecDepth 100000 in
def p_X5_into (n : PT) (rf : F1) (p1 : Int32) (post : Int32 → F1 → Prop) : Prop := p_X3_there n p1 (fun (r1 : Int32) => ((r1 = 0 → p_X5_refuse rf (-1 : Int32) (fun (r7 : Int32) (u7 : F1) => (fun (rfv8 : F1) => post r7 rfv8) u7)) ∧ (¬ r1 = 0 → lpN (fun (K4 : (Int32 × Int32) → Prop) (z4 : Int32 × Int32) => (fun (x2 : Int32) (x3 : Int32) => p_X3_houses n (fun (r5 : Int32) => ((r5 ≤ x3 → post x2 rf) ∧ (¬ r5 ≤ x3 → p_X3_nextOf n x3 (fun (r6 : Int32) => ((r6 = p1 → K4 ((x2 + 1), (x3 + 1))) ∧ (¬ r6 = p1 → K4 (x2, (x3 + 1))))))))) z4.1 z4.2) 1000 ((0 : Int32), (0 : Int32)))))
set_option maxHeartbeats 4000000 in
set_option maxRecDepth 100000 in
theorem w_X5_into {p : Program} {l : Launch} {e : Env} {s : State} {mi : MethodId} {args : Array Value} {below : List Frame} {meth : Method} {co : Code} {D : va_G} {cI cQ : ClassId} {A : Nat → Prop} {Q : State → Prop} (x : Nat) (an : Nat → Nat) (am : Nat → Nat) (aq : Nat → Nat) (ap : Nat → Nat) (b : Nat → Nat → Nat) (al : Nat → Nat) (au : Nat → Nat) (re : Nat) (pq : Int32) (n : PT) (rf : F1) (p1 : Int32) {post : Int32 → F1 → Prop} (C : xC p s mi args co cX5_into RX5 4 D (tyL cI cQ) A) (hret : ∀ (pc : Nat) (r : Int32) (u : F1) (lv : List (Nat × Value)), decode cX5_into pc = .ok (.ireturn, 1) → post r u → xG p l e (rmL 2 0 0 42) s mi args below meth co D A 4 Q 0 0 pc [.int r] [gObj x an am aq ap al au re pq, gPar cI an n, gA cI re 7 u] lv) (hw : p_X5_into n rf p1 post) : xG p l e (rmL 2 0 0 42) s mi args below meth co D A 4 Q 0 0 0 [] [gObj x an am aq ap al au re pq, gPar cI an n, gA cI re 7 rf] [(0, .ref x), (1, .int p1)] := by
  unfold p_X5_into at hw
  try dsimp only at hw
  show xG p l e (rmL 2 0 0 42) s mi args below meth co D A 4 Q 0 0 0 [] [gObj x an am aq ap al au re pq, gPar cI an n, gA cI re 7 rf] [(0, .ref x), (1, .int p1)]
  refine g_aload_n C dX5_into_0 0 rfl rfl ?_
  refine g_get (v := .ref (an 0)) (ci := 4) C dX5_into_1 inw_X5 rfl 0 0 0 rfl rfl (Nat.le_of_ble_eq_true rfl) rfl fl_X5_10 rfl rfl ?_
  refine g_iload_n C dX5_into_4 1 rfl rfl ?_
  refine g_callVi (As := [.int p1]) (gr := [gObj x an am aq ap al au re pq, gA cI re 7 rf]) C (c_X3_there l D cI cQ an n p1 _) dX5_into_5 ⟨ml_X5_72, kV_X3_there⟩ ⟨Nat.le_of_ble_eq_true rfl, Nat.le_of_ble_eq_true rfl⟩ ⟨Nat.le_refl _, Nat.le_refl _⟩ rfl rfl 0 0 rfl rfl [1, 0, 2] 3 rfl pmb_1_0_2 rfl rfl rfl (Nat.le_of_ble_eq_true rfl) rfl (fun (u : Unit) => [gObj x an am aq ap al au re pq, gPar cI an n, gA cI re 7 rf]) [1, 0, 2] 3 (fun _ => rfl) pmb_1_0_2 (fun _ => rfl) hw (fun r1 u1 hw => ?_)
  refine g_if_ne (tgt := 17) C dX5_into_8 (by decide) rfl hw (fun _ hw => ?_) (fun _ hw => ?_)
  · refine g_iconst (v := 0) C dX5_into_17 rfl rfl ?_
    refine g_istore_n (v := (0 : Int32)) C dX5_into_18 rfl (Nat.le_of_ble_eq_true rfl) (lv' := [(2, .int (0 : Int32)), (0, .ref x), (1, .int p1)]) rfl rfl ?_
    refine g_iconst (v := 0) C dX5_into_19 rfl rfl ?_
    refine g_istore_n (v := (0 : Int32)) C dX5_into_20 rfl (Nat.le_of_ble_eq_true rfl) (lv' := [(3, .int (0 : Int32)), (2, .int (0 : Int32)), (0, .ref x), (1, .int p1)]) rfl rfl ?_
    refine g_lv [2, 3, 1, 0] rfl ?_
    refine lpN_ind (G := (fun (z4 : Int32 × Int32) => (fun (x2 : Int32) (x3 : Int32) => xG p l e (rmL 2 0 0 42) s mi args below meth co D A 4 Q 0 0 21 [] [gObj x an am aq ap al au re pq, gPar cI an n, gA cI re 7 rf] [(0, .ref x), (1, .int p1), (2, .int x2), (3, .int x3)]) z4.1 z4.2)) ?_ 1000 ((0 : Int32), (0 : Int32)) hw
    rintro K4 ⟨x2, x3⟩ ih4 hw
    show xG p l e (rmL 2 0 0 42) s mi args below meth co D A 4 Q 0 0 21 [] [gObj x an am aq ap al au re pq, gPar cI an n, gA cI re 7 rf] [(0, .ref x), (1, .int p1), (2, .int x2), (3, .int x3)]
    refine g_iload_n C dX5_into_21 3 rfl rfl ?_
    refine g_aload_n C dX5_into_22 0 rfl rfl ?_
    refine g_get (v := .ref (an 0)) (ci := 4) C dX5_into_23 inw_X5 rfl 0 0 0 rfl rfl (Nat.le_of_ble_eq_true rfl) rfl fl_X5_10 rfl rfl ?_
    refine g_callVi (As := []) (gr := [gObj x an am aq ap al au re pq, gA cI re 7 rf]) C (c_X3_houses l D cI cQ an n  _) dX5_into_26 ⟨ml_X5_103, kV_X3_houses⟩ ⟨Nat.le_of_ble_eq_true rfl, Nat.le_of_ble_eq_true rfl⟩ ⟨Nat.le_refl _, Nat.le_refl _⟩ rfl rfl 0 0 rfl rfl [1, 0, 2] 3 rfl pmb_1_0_2 rfl rfl rfl (Nat.le_of_ble_eq_true rfl) rfl (fun (u : Unit) => [gObj x an am aq ap al au re pq, gPar cI an n, gA cI re 7 rf]) [1, 0, 2] 3 (fun _ => rfl) pmb_1_0_2 (fun _ => rfl) hw (fun r5 u5 hw => ?_)
    refine g_icmp_ge (tgt := 53) C dX5_into_29 (by decide) rfl hw (fun _ hw => ?_) (fun _ hw => ?_)
    · refine g_iload_n C dX5_into_53 2 rfl rfl ?_
      exact hret 54 x2 rf _ dX5_into_54 hw
    · refine g_aload_n C dX5_into_32 0 rfl rfl ?_
      refine g_get (v := .ref (an 0)) (ci := 4) C dX5_into_33 inw_X5 rfl 0 0 0 rfl rfl (Nat.le_of_ble_eq_true rfl) rfl fl_X5_10 rfl rfl ?_
      refine g_iload_n C dX5_into_36 3 rfl rfl ?_
      refine g_callVi (As := [.int x3]) (gr := [gObj x an am aq ap al au re pq, gA cI re 7 rf]) C (c_X3_nextOf l D cI cQ an n x3 _) dX5_into_37 ⟨ml_X5_84, kV_X3_nextOf⟩ ⟨Nat.le_of_ble_eq_true rfl, Nat.le_of_ble_eq_true rfl⟩ ⟨Nat.le_refl _, Nat.le_refl _⟩ rfl rfl 0 0 rfl rfl [1, 0, 2] 3 rfl pmb_1_0_2 rfl rfl rfl (Nat.le_of_ble_eq_true rfl) rfl (fun (u : Unit) => [gObj x an am aq ap al au re pq, gPar cI an n, gA cI re 7 rf]) [1, 0, 2] 3 (fun _ => rfl) pmb_1_0_2 (fun _ => rfl) hw (fun r6 u6 hw => ?_)
      refine g_iload_n C dX5_into_40 1 rfl rfl ?_
      refine g_icmp_ne (tgt := 47) C dX5_into_41 (by decide) rfl hw (fun _ hw => ?_) (fun _ hw => ?_)
      · refine g_iinc (v := (x3 + 1)) (j := 3) C dX5_into_47 rfl rfl (Nat.le_of_ble_eq_true rfl) (lv' := [(3, .int (x3 + 1)), (0, .ref x), (1, .int p1), (2, .int x2)]) rfl rfl ?_
        refine g_goto (pc' := 21) C dX5_into_50 (by decide) rfl ?_
        refine g_lv [1, 2, 3, 0] rfl ?_
        exact ih4 (x2, (x3 + 1)) hw
      · refine g_iinc (v := (x2 + 1)) (j := 2) C dX5_into_44 rfl rfl (Nat.le_of_ble_eq_true rfl) (lv' := [(2, .int (x2 + 1)), (0, .ref x), (1, .int p1), (3, .int x3)]) rfl rfl ?_
        refine g_iinc (v := (x3 + 1)) (j := 3) C dX5_into_47 rfl rfl (Nat.le_of_ble_eq_true rfl) (lv' := [(3, .int (x3 + 1)), (2, .int (x2 + 1)), (0, .ref x), (1, .int p1)]) rfl rfl ?_
        refine g_goto (pc' := 21) C dX5_into_50 (by decide) rfl ?_
        refine g_lv [2, 3, 1, 0] rfl ?_
        exact ih4 ((x2 + 1), (x3 + 1)) hw
  · refine g_aload_n C dX5_into_11 0 rfl rfl ?_
    refine g_iconst (v := -1) C dX5_into_12 (by decide) rfl ?_
    refine g_callVi (As := [.int (-1 : Int32)]) (gr := [gPar cI an n]) C (c_X5_refuse l D cI cQ x an am aq ap b al au re pq rf (-1 : Int32) _) dX5_into_13 ⟨ml_X5_51, kV_X5_refuse⟩ ⟨Nat.le_of_ble_eq_true rfl, Nat.le_of_ble_eq_true rfl⟩ ⟨Nat.le_refl _, Nat.le_refl _⟩ rfl rfl 0 0 rfl rfl [0, 2, 1] 3 rfl pmb_0_2_1 rfl rfl rfl (Nat.le_of_ble_eq_true rfl) rfl (fun (u : F1) => [gObj x an am aq ap al au re pq, gPar cI an n, gA cI re 7 u]) [0, 2, 1] 3 (fun _ => rfl) pmb_0_2_1 (fun _ => rfl) hw (fun r7 u7 hw => ?_)
    obtain ⟨rfv8, rfl⟩ : ∃ z, z = u7 := ⟨_, rfl⟩
    exact hret 16 r7 rfv8 _ dX5_into_16 hw
set_option maxRecDepth 100000 in
theorem c_X5_into (l : Launch) (D : va_G) (cI cQ : ClassId) (x : Nat) (an : Nat → Nat) (am : Nat → Nat) (aq : Nat → Nat) (ap : Nat → Nat) (b : Nat → Nat → Nat) (al : Nat → Nat) (au : Nat → Nat) (re : Nat) (pq : Int32) (n : PT) (rf : F1) (p1 : Int32) (post : Int32 → F1 → Prop) (sz : Nat) : Met l yX5_into (wsY yX5_into cX5_into 4 (some .int)) (rmL 2 0 0 42) (xP D (tyL cI cQ) [.ref x, .int p1] [gObj x an am aq ap al au re pq, gPar cI an n, gA cI re 7 rf] sz (p_X5_into n rf p1 post)) (xQi D (tyL cI cQ) post (fun (u : F1) => [gObj x an am aq ap al au re pq, gPar cI an n, gA cI re 7 u]) (va_A [gObj x an am aq ap al au re pq, gPar cI an n, gA cI re 7 rf].flatten sz)) 0 0 (va_A [gObj x an am aq ap al au re pq, gPar cI an n, gA cI re 7 rf].flatten sz) :=
  Met_i pn_X5 (Nat.le_of_ble_eq_true rfl) (fun p e s mi below meth co A Q _ C hret hw => w_X5_into x an am aq ap b al au re pq n rf p1 C hret hw)
theorem kV_X5_into : Cond.instanceMethod yX5_into ∈ gTbl ∧ Cond.selects yX5_into.cls yX5_into yX5_into ∈ gTbl ∧ Cond.initialized yX5_into.cls ∈ gTbl ∧ Cond.code yX5_into cX5_into 4 (some .int) ∈ gTbl ∧ (yX5_into.cls ≠ "java/lang/invoke/MethodHandle" ∧ yX5_into.cls ≠ "java/lang/invoke/VarHandle" ∧ (parseMethodDescriptor yX5_into.desc).map (fun d => d.parameters.length) = some 1) := ⟨im_X5_into, sl_X5_into, in_X5, cd_X5_into, (by decide +kernel)⟩
set_option maxRecDepth 100000 in
def p_X5_mean (n : PT) (rf : F1) (p1 : Int32) (post : Int64 → F1 → Prop) : Prop := jn (fun (z1 : Unit) => p_X3_holdsInAll n (fun (r2 : Int32) => p_X3_houses n (fun (r3 : Int32) => p_X5_partOf (r2).toInt64 (r3).toInt64 p1 (fun (r4 : Int64) => post r4 rf)))) (fun J1 => ((p1 = 0 → J1 ()) ∧ (¬ p1 = 0 → ((p1 = (1 : Int32) → J1 ()) ∧ (¬ p1 = (1 : Int32) → p_X5_refuseLong rf (-2 : Int32) (fun (r5 : Int64) (u5 : F1) => (fun (rfv6 : F1) => post r5 rfv6) u5))))))
set_option maxHeartbeats 4000000 in
set_option maxRecDepth 100000 in
theorem w_X5_mean {p : Program} {l : Launch} {e : Env} {s : State} {mi : MethodId} {args : Array Value} {below : List Frame} {meth : Method} {co : Code} {D : va_G} {cI cQ : ClassId} {A : Nat → Prop} {Q : State → Prop} (x : Nat) (an : Nat → Nat) (am : Nat → Nat) (aq : Nat → Nat) (ap : Nat → Nat) (b : Nat → Nat → Nat) (al : Nat → Nat) (au : Nat → Nat) (re : Nat) (pq : Int32) (n : PT) (rf : F1) (p1 : Int32) {post : Int64 → F1 → Prop} (C : xC p s mi args co cX5_mean RX5 2 D (tyL cI cQ) A) (hret : ∀ (pc : Nat) (r : Int64) (u : F1) (lv : List (Nat × Value)), decode cX5_mean pc = .ok (.lreturn, 1) → post r u → xG p l e (rmL 2 0 0 58) s mi args below meth co D A 2 Q 0 0 pc [.long r] [gObj x an am aq ap al au re pq, gPar cI an n, gA cI re 7 u] lv) (hw : p_X5_mean n rf p1 post) : xG p l e (rmL 2 0 0 58) s mi args below meth co D A 2 Q 0 0 0 [] [gObj x an am aq ap al au re pq, gPar cI an n, gA cI re 7 rf] [(0, .ref x), (1, .int p1)] := by
  unfold p_X5_mean at hw
  try dsimp only at hw
  show xG p l e (rmL 2 0 0 58) s mi args below meth co D A 2 Q 0 0 0 [] [gObj x an am aq ap al au re pq, gPar cI an n, gA cI re 7 rf] [(0, .ref x), (1, .int p1)]
  refine g_iload_n C dX5_mean_0 1 rfl rfl ?_
  refine jn_el hw (fun (z1 : Unit) => xG p l e (rmL 2 0 0 58) s mi args below meth co D A 2 Q 0 0 16 [] [gObj x an am aq ap al au re pq, gPar cI an n, gA cI re 7 rf] [(0, .ref x), (1, .int p1)]) ?_ ?_
  · rintro _ hw
    show xG p l e (rmL 2 0 0 58) s mi args below meth co D A 2 Q 0 0 16 [] [gObj x an am aq ap al au re pq, gPar cI an n, gA cI re 7 rf] [(0, .ref x), (1, .int p1)]
    refine g_aload_n C dX5_mean_16 0 rfl rfl ?_
    refine g_get (v := .ref (an 0)) (ci := 4) C dX5_mean_17 inw_X5 rfl 0 0 0 rfl rfl (Nat.le_of_ble_eq_true rfl) rfl fl_X5_10 rfl rfl ?_
    refine g_callVi (As := []) (gr := [gObj x an am aq ap al au re pq, gA cI re 7 rf]) C (c_X3_holdsInAll l D cI cQ an n  _) dX5_mean_20 ⟨ml_X5_140, kV_X3_holdsInAll⟩ ⟨Nat.le_of_ble_eq_true rfl, Nat.le_of_ble_eq_true rfl⟩ ⟨Nat.le_refl _, Nat.le_refl _⟩ rfl rfl 0 0 rfl rfl [1, 0, 2] 3 rfl pmb_1_0_2 rfl rfl rfl (Nat.le_of_ble_eq_true rfl) rfl (fun (u : Unit) => [gObj x an am aq ap al au re pq, gPar cI an n, gA cI re 7 rf]) [1, 0, 2] 3 (fun _ => rfl) pmb_1_0_2 (fun _ => rfl) hw (fun r2 u2 hw => ?_)
    refine g_i2l C dX5_mean_23 rfl ?_
    refine g_aload_n C dX5_mean_24 0 rfl rfl ?_
    refine g_get (v := .ref (an 0)) (ci := 4) C dX5_mean_25 inw_X5 rfl 0 0 0 rfl rfl (Nat.le_of_ble_eq_true rfl) rfl fl_X5_10 rfl rfl ?_
    refine g_callVi (As := []) (gr := [gObj x an am aq ap al au re pq, gA cI re 7 rf]) C (c_X3_houses l D cI cQ an n  _) dX5_mean_28 ⟨ml_X5_103, kV_X3_houses⟩ ⟨Nat.le_of_ble_eq_true rfl, Nat.le_of_ble_eq_true rfl⟩ ⟨Nat.le_refl _, Nat.le_refl _⟩ rfl rfl 0 0 rfl rfl [1, 0, 2] 3 rfl pmb_1_0_2 rfl rfl rfl (Nat.le_of_ble_eq_true rfl) rfl (fun (u : Unit) => [gObj x an am aq ap al au re pq, gPar cI an n, gA cI re 7 rf]) [1, 0, 2] 3 (fun _ => rfl) pmb_1_0_2 (fun _ => rfl) hw (fun r3 u3 hw => ?_)
    refine g_i2l C dX5_mean_31 rfl ?_
    refine g_iload_n C dX5_mean_32 1 rfl rfl ?_
    refine g_callSl (As := [.long (r2).toInt64, .long (r3).toInt64, .int p1]) (gr := [gObj x an am aq ap al au re pq, gPar cI an n, gA cI re 7 rf]) C (c_X5_partOf l D cI cQ   (r2).toInt64 (r3).toInt64 p1 _) dX5_mean_33 ⟨ml_X5_193, kS_X5_partOf⟩ ⟨Nat.le_of_ble_eq_true rfl, Nat.le_of_ble_eq_true rfl⟩ ⟨Nat.le_refl _, Nat.le_refl _⟩ [0, 1, 2] 3 rfl pmb_0_1_2 rfl rfl rfl (Nat.le_of_ble_eq_true rfl) rfl (fun (u : Unit) => [gObj x an am aq ap al au re pq, gPar cI an n, gA cI re 7 rf]) [0, 1, 2] 3 (fun _ => rfl) pmb_0_1_2 (fun _ => rfl) hw (fun r4 u4 hw => ?_)
    exact hret 36 r4 rf _ dX5_mean_36 hw
  · intro J1 hJ1 hw
    refine g_if_eq (tgt := 16) C dX5_mean_1 (by decide) rfl hw (fun _ hw => ?_) (fun _ hw => ?_)
    · exact hJ1 () hw
    · refine g_iload_n C dX5_mean_4 1 rfl rfl ?_
      refine g_iconst (v := 1) C dX5_mean_5 rfl rfl ?_
      refine g_icmp_eq (tgt := 16) C dX5_mean_6 (by decide) rfl hw (fun _ hw => ?_) (fun _ hw => ?_)
      · exact hJ1 () hw
      · refine g_aload_n C dX5_mean_9 0 rfl rfl ?_
        refine g_bipush (v := -2) C dX5_mean_10 (by decide) rfl ?_
        refine g_callVl (As := [.int (-2 : Int32)]) (gr := [gPar cI an n]) C (c_X5_refuseLong l D cI cQ x an am aq ap b al au re pq rf (-2 : Int32) _) dX5_mean_12 ⟨ml_X5_189, kV_X5_refuseLong⟩ ⟨Nat.le_of_ble_eq_true rfl, Nat.le_of_ble_eq_true rfl⟩ ⟨Nat.le_refl _, Nat.le_refl _⟩ rfl rfl 0 0 rfl rfl [0, 2, 1] 3 rfl pmb_0_2_1 rfl rfl rfl (Nat.le_of_ble_eq_true rfl) rfl (fun (u : F1) => [gObj x an am aq ap al au re pq, gPar cI an n, gA cI re 7 u]) [0, 2, 1] 3 (fun _ => rfl) pmb_0_2_1 (fun _ => rfl) hw (fun r5 u5 hw => ?_)
        obtain ⟨rfv6, rfl⟩ : ∃ z, z = u5 := ⟨_, rfl⟩
        exact hret 15 r5 rfv6 _ dX5_mean_15 hw
set_option maxRecDepth 100000 in
theorem c_X5_mean (l : Launch) (D : va_G) (cI cQ : ClassId) (x : Nat) (an : Nat → Nat) (am : Nat → Nat) (aq : Nat → Nat) (ap : Nat → Nat) (b : Nat → Nat → Nat) (al : Nat → Nat) (au : Nat → Nat) (re : Nat) (pq : Int32) (n : PT) (rf : F1) (p1 : Int32) (post : Int64 → F1 → Prop) (sz : Nat) : Met l yX5_mean (wsY yX5_mean cX5_mean 2 (some .long)) (rmL 2 0 0 58) (xP D (tyL cI cQ) [.ref x, .int p1] [gObj x an am aq ap al au re pq, gPar cI an n, gA cI re 7 rf] sz (p_X5_mean n rf p1 post)) (xQl D (tyL cI cQ) post (fun (u : F1) => [gObj x an am aq ap al au re pq, gPar cI an n, gA cI re 7 u]) (va_A [gObj x an am aq ap al au re pq, gPar cI an n, gA cI re 7 rf].flatten sz)) 0 0 (va_A [gObj x an am aq ap al au re pq, gPar cI an n, gA cI re 7 rf].flatten sz) :=
  Met_l pn_X5 (Nat.le_of_ble_eq_true rfl) (fun p e s mi below meth co A Q _ C hret hw => w_X5_mean x an am aq ap b al au re pq n rf p1 C hret hw)
theorem kV_X5_mean : Cond.instanceMethod yX5_mean ∈ gTbl ∧ Cond.selects yX5_mean.cls yX5_mean yX5_mean ∈ gTbl ∧ Cond.initialized yX5_mean.cls ∈ gTbl ∧ Cond.code yX5_mean cX5_mean 2 (some .long) ∈ gTbl ∧ (yX5_mean.cls ≠ "java/lang/invoke/MethodHandle" ∧ yX5_mean.cls ≠ "java/lang/invoke/VarHandle" ∧ (parseMethodDescriptor yX5_mean.desc).map (fun d => d.parameters.length) = some 1) := ⟨im_X5_mean, sl_X5_mean, in_X5, cd_X5_mean, (by decide +kernel)⟩
set_option maxRecDepth 100000 in
def p_X5_strong (n : PT) (m : PT) (rf : F1) (p1 : Int32) (post : Int32 → PT × F1 → Prop) : Prop := p_X5_outside p1 (0 : Int32) (60 : Int32) (fun (r1 : Int32) => ((r1 = 0 → p_X5_think n m (fun (u2 : PT) => (fun (mv3 : PT) => p_X5_cupBehind mv3 p1 (fun (r4 : Int32) (u4 : PT) => (fun (mv5 : PT) => p_X5_think n mv5 (fun (u6 : PT) => (fun (mv7 : PT) => p_X3_blockedBits n (fun (r8 : Int32) => p_X3_free mv7 r8 (fun (u9 : PT) => (fun (mv10 : PT) => p_X5_cupBehind mv10 p1 (fun (r11 : Int32) (u11 : PT) => (fun (mv12 : PT) => post (r11 - r4) (mv12, rf)) u11)) u9))) u6)) u4)) u2)) ∧ (¬ r1 = 0 → p_X5_refuse rf r1 (fun (r13 : Int32) (u13 : F1) => (fun (rfv14 : F1) => post ((1000000000 : Int32) - r13) (m, rfv14)) u13))))
set_option maxHeartbeats 4000000 in
set_option maxRecDepth 100000 in
theorem w_X5_strong {p : Program} {l : Launch} {e : Env} {s : State} {mi : MethodId} {args : Array Value} {below : List Frame} {meth : Method} {co : Code} {D : va_G} {cI cQ : ClassId} {A : Nat → Prop} {Q : State → Prop} (x : Nat) (an : Nat → Nat) (am : Nat → Nat) (aq : Nat → Nat) (ap : Nat → Nat) (b : Nat → Nat → Nat) (al : Nat → Nat) (au : Nat → Nat) (re : Nat) (pq : Int32) (n : PT) (m : PT) (rf : F1) (p1 : Int32) {post : Int32 → PT × F1 → Prop} (C : xC p s mi args co cX5_strong RX5 4 D (tyL cI cQ) A) (hret : ∀ (pc : Nat) (r : Int32) (u : PT × F1) (lv : List (Nat × Value)), decode cX5_strong pc = .ok (.ireturn, 1) → post r u → xG p l e (rmL 5 0 0 113) s mi args below meth co D A 4 Q 0 0 pc [.int r] [gObj x an am aq ap al au re pq, gPar cI an n, gPar cI am u.1, gA cI re 7 u.2] lv) (hw : p_X5_strong n m rf p1 post) : xG p l e (rmL 5 0 0 113) s mi args below meth co D A 4 Q 0 0 0 [] [gObj x an am aq ap al au re pq, gPar cI an n, gPar cI am m, gA cI re 7 rf] [(0, .ref x), (1, .int p1)] := by
  unfold p_X5_strong at hw
  try dsimp only at hw
  show xG p l e (rmL 5 0 0 113) s mi args below meth co D A 4 Q 0 0 0 [] [gObj x an am aq ap al au re pq, gPar cI an n, gPar cI am m, gA cI re 7 rf] [(0, .ref x), (1, .int p1)]
  refine g_iload_n C dX5_strong_0 1 rfl rfl ?_
  refine g_iconst (v := 0) C dX5_strong_1 rfl rfl ?_
  refine g_bipush (v := 60) C dX5_strong_2 (by decide) rfl ?_
  refine g_callSi (As := [.int p1, .int (0 : Int32), .int (60 : Int32)]) (gr := [gObj x an am aq ap al au re pq, gPar cI an n, gPar cI am m, gA cI re 7 rf]) C (c_X5_outside l D cI cQ   p1 (0 : Int32) (60 : Int32) _) dX5_strong_4 ⟨ml_X5_47, kS_X5_outside⟩ ⟨Nat.le_of_ble_eq_true rfl, Nat.le_of_ble_eq_true rfl⟩ ⟨Nat.le_refl _, Nat.le_refl _⟩ [0, 1, 2, 3] 4 rfl pmb_0_1_2_3 rfl rfl rfl (Nat.le_of_ble_eq_true rfl) rfl (fun (u : Unit) => [gObj x an am aq ap al au re pq, gPar cI an n, gPar cI am m, gA cI re 7 rf]) [0, 1, 2, 3] 4 (fun _ => rfl) pmb_0_1_2_3 (fun _ => rfl) hw (fun r1 u1 hw => ?_)
  refine g_istore_n (v := r1) C dX5_strong_7 rfl (Nat.le_of_ble_eq_true rfl) (lv' := [(2, .int r1), (0, .ref x), (1, .int p1)]) rfl rfl ?_
  refine g_iload_n C dX5_strong_8 0 rfl rfl ?_
  refine g_if_eq (tgt := 21) C dX5_strong_9 (by decide) rfl hw (fun _ hw => ?_) (fun _ hw => ?_)
  · refine g_aload_n C dX5_strong_21 1 rfl rfl ?_
    refine g_callVv (As := []) (gr := [gA cI re 7 rf]) C (c_X5_think l D cI cQ x an am aq ap b al au re pq n m  _) dX5_strong_22 ⟨ml_X5_137, kV_X5_think⟩ ⟨Nat.le_of_ble_eq_true rfl, Nat.le_of_ble_eq_true rfl⟩ ⟨Nat.le_refl _, Nat.le_refl _⟩ rfl rfl 0 0 rfl rfl [0, 1, 2, 3] 4 rfl pmb_0_1_2_3 rfl rfl rfl (Nat.le_of_ble_eq_true rfl) rfl (fun (u : PT) => [gObj x an am aq ap al au re pq, gPar cI an n, gPar cI am u, gA cI re 7 rf]) [0, 1, 2, 3] 4 (fun _ => rfl) pmb_0_1_2_3 (fun _ => rfl) hw (fun u2 hw => ?_)
    obtain ⟨mv3, rfl⟩ : ∃ z, z = u2 := ⟨_, rfl⟩
    refine g_aload_n C dX5_strong_25 1 rfl rfl ?_
    refine g_iload_n C dX5_strong_26 2 rfl rfl ?_
    refine g_callVi (As := [.int p1]) (gr := [gPar cI an n, gA cI re 7 rf]) C (c_X5_cupBehind l D cI cQ x an am aq ap b al au re pq mv3 p1 _) dX5_strong_27 ⟨ml_X5_156, kV_X5_cupBehind⟩ ⟨Nat.le_of_ble_eq_true rfl, Nat.le_of_ble_eq_true rfl⟩ ⟨Nat.le_refl _, Nat.le_refl _⟩ rfl rfl 0 0 rfl rfl [0, 2, 1, 3] 4 rfl pmb_0_2_1_3 rfl rfl rfl (Nat.le_of_ble_eq_true rfl) rfl (fun (u : PT) => [gObj x an am aq ap al au re pq, gPar cI an n, gPar cI am u, gA cI re 7 rf]) [0, 2, 1, 3] 4 (fun _ => rfl) pmb_0_2_1_3 (fun _ => rfl) hw (fun r4 u4 hw => ?_)
    obtain ⟨mv5, rfl⟩ : ∃ z, z = u4 := ⟨_, rfl⟩
    refine g_istore_n (v := r4) C dX5_strong_30 rfl (Nat.le_of_ble_eq_true rfl) (lv' := [(3, .int r4), (2, .int r1), (0, .ref x), (1, .int p1)]) rfl rfl ?_
    refine g_aload_n C dX5_strong_31 2 rfl rfl ?_
    refine g_callVv (As := []) (gr := [gA cI re 7 rf]) C (c_X5_think l D cI cQ x an am aq ap b al au re pq n mv5  _) dX5_strong_32 ⟨ml_X5_137, kV_X5_think⟩ ⟨Nat.le_of_ble_eq_true rfl, Nat.le_of_ble_eq_true rfl⟩ ⟨Nat.le_refl _, Nat.le_refl _⟩ rfl rfl 0 0 rfl rfl [0, 1, 2, 3] 4 rfl pmb_0_1_2_3 rfl rfl rfl (Nat.le_of_ble_eq_true rfl) rfl (fun (u : PT) => [gObj x an am aq ap al au re pq, gPar cI an n, gPar cI am u, gA cI re 7 rf]) [0, 1, 2, 3] 4 (fun _ => rfl) pmb_0_1_2_3 (fun _ => rfl) hw (fun u6 hw => ?_)
    obtain ⟨mv7, rfl⟩ : ∃ z, z = u6 := ⟨_, rfl⟩
    refine g_aload_n C dX5_strong_35 2 rfl rfl ?_
    refine g_get (v := .ref (am 0)) (ci := 4) C dX5_strong_36 inw_X5 rfl 0 0 1 rfl rfl (Nat.le_of_ble_eq_true rfl) rfl fl_X5_16 rfl rfl ?_
    refine g_aload_n C dX5_strong_39 2 rfl rfl ?_
    refine g_get (v := .ref (an 0)) (ci := 4) C dX5_strong_40 inw_X5 rfl 0 0 0 rfl rfl (Nat.le_of_ble_eq_true rfl) rfl fl_X5_10 rfl rfl ?_
    refine g_callVi (As := []) (gr := [gObj x an am aq ap al au re pq, gPar cI am mv7, gA cI re 7 rf]) C (c_X3_blockedBits l D cI cQ an n  _) dX5_strong_43 ⟨ml_X5_159, kV_X3_blockedBits⟩ ⟨Nat.le_of_ble_eq_true rfl, Nat.le_of_ble_eq_true rfl⟩ ⟨Nat.le_refl _, Nat.le_refl _⟩ rfl rfl 0 0 rfl rfl [1, 0, 2, 3] 4 rfl pmb_1_0_2_3 rfl rfl rfl (Nat.le_of_ble_eq_true rfl) rfl (fun (u : Unit) => [gObj x an am aq ap al au re pq, gPar cI an n, gPar cI am mv7, gA cI re 7 rf]) [1, 0, 2, 3] 4 (fun _ => rfl) pmb_1_0_2_3 (fun _ => rfl) hw (fun r8 u8 hw => ?_)
    refine g_callVv (As := [.int r8]) (gr := [gObj x an am aq ap al au re pq, gPar cI an n, gA cI re 7 rf]) C (c_X3_free l D cI cQ am mv7 r8 _) dX5_strong_46 ⟨ml_X5_162, kV_X3_free⟩ ⟨Nat.le_of_ble_eq_true rfl, Nat.le_of_ble_eq_true rfl⟩ ⟨Nat.le_refl _, Nat.le_refl _⟩ rfl rfl 0 0 rfl rfl [2, 0, 1, 3] 4 rfl pmb_2_0_1_3 rfl rfl rfl (Nat.le_of_ble_eq_true rfl) rfl (fun (u : PT) => [gObj x an am aq ap al au re pq, gPar cI an n, gPar cI am u, gA cI re 7 rf]) [1, 2, 0, 3] 4 (fun _ => rfl) pmb_1_2_0_3 (fun _ => rfl) hw (fun u9 hw => ?_)
    obtain ⟨mv10, rfl⟩ : ∃ z, z = u9 := ⟨_, rfl⟩
    refine g_aload_n C dX5_strong_49 2 rfl rfl ?_
    refine g_iload_n C dX5_strong_50 3 rfl rfl ?_
    refine g_callVi (As := [.int p1]) (gr := [gPar cI an n, gA cI re 7 rf]) C (c_X5_cupBehind l D cI cQ x an am aq ap b al au re pq mv10 p1 _) dX5_strong_51 ⟨ml_X5_156, kV_X5_cupBehind⟩ ⟨Nat.le_of_ble_eq_true rfl, Nat.le_of_ble_eq_true rfl⟩ ⟨Nat.le_refl _, Nat.le_refl _⟩ rfl rfl 0 0 rfl rfl [0, 2, 1, 3] 4 rfl pmb_0_2_1_3 rfl rfl rfl (Nat.le_of_ble_eq_true rfl) rfl (fun (u : PT) => [gObj x an am aq ap al au re pq, gPar cI an n, gPar cI am u, gA cI re 7 rf]) [0, 2, 1, 3] 4 (fun _ => rfl) pmb_0_2_1_3 (fun _ => rfl) hw (fun r11 u11 hw => ?_)
    obtain ⟨mv12, rfl⟩ : ∃ z, z = u11 := ⟨_, rfl⟩
    refine g_iload_n C dX5_strong_54 0 rfl rfl ?_
    refine g_isub C dX5_strong_55 rfl ?_
    exact hret 56 (r11 - r4) (mv12, rf) _ dX5_strong_56 hw
  · refine g_ldc C dX5_strong_12 ct_X5_218 rfl ?_
    refine g_aload_n C dX5_strong_14 1 rfl rfl ?_
    refine g_iload_n C dX5_strong_15 0 rfl rfl ?_
    refine g_callVi (As := [.int r1]) (gr := [gPar cI an n, gPar cI am m]) C (c_X5_refuse l D cI cQ x an am aq ap b al au re pq rf r1 _) dX5_strong_16 ⟨ml_X5_51, kV_X5_refuse⟩ ⟨Nat.le_of_ble_eq_true rfl, Nat.le_of_ble_eq_true rfl⟩ ⟨Nat.le_refl _, Nat.le_refl _⟩ rfl rfl 0 0 rfl rfl [0, 3, 1, 2] 4 rfl pmb_0_3_1_2 rfl rfl rfl (Nat.le_of_ble_eq_true rfl) rfl (fun (u : F1) => [gObj x an am aq ap al au re pq, gPar cI an n, gPar cI am m, gA cI re 7 u]) [0, 2, 3, 1] 4 (fun _ => rfl) pmb_0_2_3_1 (fun _ => rfl) hw (fun r13 u13 hw => ?_)
    obtain ⟨rfv14, rfl⟩ : ∃ z, z = u13 := ⟨_, rfl⟩
    refine g_isub C dX5_strong_19 rfl ?_
    exact hret 20 ((1000000000 : Int32) - r13) (m, rfv14) _ dX5_strong_20 hw
set_option maxRecDepth 100000 in
theorem c_X5_strong (l : Launch) (D : va_G) (cI cQ : ClassId) (x : Nat) (an : Nat → Nat) (am : Nat → Nat) (aq : Nat → Nat) (ap : Nat → Nat) (b : Nat → Nat → Nat) (al : Nat → Nat) (au : Nat → Nat) (re : Nat) (pq : Int32) (n : PT) (m : PT) (rf : F1) (p1 : Int32) (post : Int32 → PT × F1 → Prop) (sz : Nat) : Met l yX5_strong (wsY yX5_strong cX5_strong 4 (some .int)) (rmL 5 0 0 113) (xP D (tyL cI cQ) [.ref x, .int p1] [gObj x an am aq ap al au re pq, gPar cI an n, gPar cI am m, gA cI re 7 rf] sz (p_X5_strong n m rf p1 post)) (xQi D (tyL cI cQ) post (fun (u : PT × F1) => [gObj x an am aq ap al au re pq, gPar cI an n, gPar cI am u.1, gA cI re 7 u.2]) (va_A [gObj x an am aq ap al au re pq, gPar cI an n, gPar cI am m, gA cI re 7 rf].flatten sz)) 0 0 (va_A [gObj x an am aq ap al au re pq, gPar cI an n, gPar cI am m, gA cI re 7 rf].flatten sz) :=
  Met_i pn_X5 (Nat.le_of_ble_eq_true rfl) (fun p e s mi below meth co A Q _ C hret hw => w_X5_strong x an am aq ap b al au re pq n m rf p1 C hret hw)
theorem kV_X5_strong : Cond.instanceMethod yX5_strong ∈ gTbl ∧ Cond.selects yX5_strong.cls yX5_strong yX5_strong ∈ gTbl ∧ Cond.initialized yX5_strong.cls ∈ gTbl ∧ Cond.code yX5_strong cX5_strong 4 (some .int) ∈ gTbl ∧ (yX5_strong.cls ≠ "java/lang/invoke/MethodHandle" ∧ yX5_strong.cls ≠ "java/lang/invoke/VarHandle" ∧ (parseMethodDescriptor yX5_strong.desc).map (fun d => d.parameters.length) = some 1) := ⟨im_X5_strong, sl_X5_strong, in_X5, cd_X5_strong, (by decide +kernel)⟩
set_option maxRecDepth 100000 in
def p_X5_kinds (n : PT) (rf : F1) (p1 : Int32) (post : Int32 → F1 → Prop) : Prop := jn (fun (z1 : Unit) => p_X5_refuse rf (-2 : Int32) (fun (r2 : Int32) (u2 : F1) => (fun (rfv3 : F1) => post r2 rfv3) u2)) (fun J1 => ((p1 < 0 → J1 ()) ∧ (¬ p1 < 0 → ((p1 ≤ (5 : Int32) → lpN (fun (K6 : (Int32 × Int32) → Prop) (z6 : Int32 × Int32) => (fun (x4 : Int32) (x5 : Int32) => p_X3_houses n (fun (r7 : Int32) => ((r7 ≤ x5 → post x4 rf) ∧ (¬ r7 ≤ x5 → p_X3_kindOf n x5 (fun (r8 : Int32) => ((r8 = p1 → K6 ((x4 + 1), (x5 + 1))) ∧ (¬ r8 = p1 → K6 (x4, (x5 + 1))))))))) z6.1 z6.2) 1000 ((0 : Int32), (0 : Int32))) ∧ (¬ p1 ≤ (5 : Int32) → J1 ())))))
set_option maxHeartbeats 4000000 in
set_option maxRecDepth 100000 in
theorem w_X5_kinds {p : Program} {l : Launch} {e : Env} {s : State} {mi : MethodId} {args : Array Value} {below : List Frame} {meth : Method} {co : Code} {D : va_G} {cI cQ : ClassId} {A : Nat → Prop} {Q : State → Prop} (x : Nat) (an : Nat → Nat) (am : Nat → Nat) (aq : Nat → Nat) (ap : Nat → Nat) (b : Nat → Nat → Nat) (al : Nat → Nat) (au : Nat → Nat) (re : Nat) (pq : Int32) (n : PT) (rf : F1) (p1 : Int32) {post : Int32 → F1 → Prop} (C : xC p s mi args co cX5_kinds RX5 4 D (tyL cI cQ) A) (hret : ∀ (pc : Nat) (r : Int32) (u : F1) (lv : List (Nat × Value)), decode cX5_kinds pc = .ok (.ireturn, 1) → post r u → xG p l e (rmL 2 0 0 42) s mi args below meth co D A 4 Q 0 0 pc [.int r] [gObj x an am aq ap al au re pq, gPar cI an n, gA cI re 7 u] lv) (hw : p_X5_kinds n rf p1 post) : xG p l e (rmL 2 0 0 42) s mi args below meth co D A 4 Q 0 0 0 [] [gObj x an am aq ap al au re pq, gPar cI an n, gA cI re 7 rf] [(0, .ref x), (1, .int p1)] := by
  unfold p_X5_kinds at hw
  try dsimp only at hw
  show xG p l e (rmL 2 0 0 42) s mi args below meth co D A 4 Q 0 0 0 [] [gObj x an am aq ap al au re pq, gPar cI an n, gA cI re 7 rf] [(0, .ref x), (1, .int p1)]
  refine g_iload_n C dX5_kinds_0 1 rfl rfl ?_
  refine jn_el hw (fun (z1 : Unit) => xG p l e (rmL 2 0 0 42) s mi args below meth co D A 4 Q 0 0 9 [] [gObj x an am aq ap al au re pq, gPar cI an n, gA cI re 7 rf] [(0, .ref x)]) ?_ ?_
  · rintro _ hw
    show xG p l e (rmL 2 0 0 42) s mi args below meth co D A 4 Q 0 0 9 [] [gObj x an am aq ap al au re pq, gPar cI an n, gA cI re 7 rf] [(0, .ref x)]
    refine g_aload_n C dX5_kinds_9 0 rfl rfl ?_
    refine g_bipush (v := -2) C dX5_kinds_10 (by decide) rfl ?_
    refine g_callVi (As := [.int (-2 : Int32)]) (gr := [gPar cI an n]) C (c_X5_refuse l D cI cQ x an am aq ap b al au re pq rf (-2 : Int32) _) dX5_kinds_12 ⟨ml_X5_51, kV_X5_refuse⟩ ⟨Nat.le_of_ble_eq_true rfl, Nat.le_of_ble_eq_true rfl⟩ ⟨Nat.le_refl _, Nat.le_refl _⟩ rfl rfl 0 0 rfl rfl [0, 2, 1] 3 rfl pmb_0_2_1 rfl rfl rfl (Nat.le_of_ble_eq_true rfl) rfl (fun (u : F1) => [gObj x an am aq ap al au re pq, gPar cI an n, gA cI re 7 u]) [0, 2, 1] 3 (fun _ => rfl) pmb_0_2_1 (fun _ => rfl) hw (fun r2 u2 hw => ?_)
    obtain ⟨rfv3, rfl⟩ : ∃ z, z = u2 := ⟨_, rfl⟩
    exact hret 15 r2 rfv3 _ dX5_kinds_15 hw
  · intro J1 hJ1 hw
    refine g_if_lt (tgt := 9) C dX5_kinds_1 (by decide) rfl hw (fun _ hw => ?_) (fun _ hw => ?_)
    · refine g_lv [0] rfl ?_
      exact hJ1 () hw
    · refine g_iload_n C dX5_kinds_4 1 rfl rfl ?_
      refine g_iconst (v := 5) C dX5_kinds_5 rfl rfl ?_
      refine g_icmp_le (tgt := 16) C dX5_kinds_6 (by decide) rfl hw (fun _ hw => ?_) (fun _ hw => ?_)
      · refine g_iconst (v := 0) C dX5_kinds_16 rfl rfl ?_
        refine g_istore_n (v := (0 : Int32)) C dX5_kinds_17 rfl (Nat.le_of_ble_eq_true rfl) (lv' := [(2, .int (0 : Int32)), (0, .ref x), (1, .int p1)]) rfl rfl ?_
        refine g_iconst (v := 0) C dX5_kinds_18 rfl rfl ?_
        refine g_istore_n (v := (0 : Int32)) C dX5_kinds_19 rfl (Nat.le_of_ble_eq_true rfl) (lv' := [(3, .int (0 : Int32)), (2, .int (0 : Int32)), (0, .ref x), (1, .int p1)]) rfl rfl ?_
        refine g_lv [2, 3, 1, 0] rfl ?_
        refine lpN_ind (G := (fun (z6 : Int32 × Int32) => (fun (x4 : Int32) (x5 : Int32) => xG p l e (rmL 2 0 0 42) s mi args below meth co D A 4 Q 0 0 20 [] [gObj x an am aq ap al au re pq, gPar cI an n, gA cI re 7 rf] [(0, .ref x), (1, .int p1), (2, .int x4), (3, .int x5)]) z6.1 z6.2)) ?_ 1000 ((0 : Int32), (0 : Int32)) hw
        rintro K6 ⟨x4, x5⟩ ih6 hw
        show xG p l e (rmL 2 0 0 42) s mi args below meth co D A 4 Q 0 0 20 [] [gObj x an am aq ap al au re pq, gPar cI an n, gA cI re 7 rf] [(0, .ref x), (1, .int p1), (2, .int x4), (3, .int x5)]
        refine g_iload_n C dX5_kinds_20 3 rfl rfl ?_
        refine g_aload_n C dX5_kinds_21 0 rfl rfl ?_
        refine g_get (v := .ref (an 0)) (ci := 4) C dX5_kinds_22 inw_X5 rfl 0 0 0 rfl rfl (Nat.le_of_ble_eq_true rfl) rfl fl_X5_10 rfl rfl ?_
        refine g_callVi (As := []) (gr := [gObj x an am aq ap al au re pq, gA cI re 7 rf]) C (c_X3_houses l D cI cQ an n  _) dX5_kinds_25 ⟨ml_X5_103, kV_X3_houses⟩ ⟨Nat.le_of_ble_eq_true rfl, Nat.le_of_ble_eq_true rfl⟩ ⟨Nat.le_refl _, Nat.le_refl _⟩ rfl rfl 0 0 rfl rfl [1, 0, 2] 3 rfl pmb_1_0_2 rfl rfl rfl (Nat.le_of_ble_eq_true rfl) rfl (fun (u : Unit) => [gObj x an am aq ap al au re pq, gPar cI an n, gA cI re 7 rf]) [1, 0, 2] 3 (fun _ => rfl) pmb_1_0_2 (fun _ => rfl) hw (fun r7 u7 hw => ?_)
        refine g_icmp_ge (tgt := 52) C dX5_kinds_28 (by decide) rfl hw (fun _ hw => ?_) (fun _ hw => ?_)
        · refine g_iload_n C dX5_kinds_52 2 rfl rfl ?_
          exact hret 53 x4 rf _ dX5_kinds_53 hw
        · refine g_aload_n C dX5_kinds_31 0 rfl rfl ?_
          refine g_get (v := .ref (an 0)) (ci := 4) C dX5_kinds_32 inw_X5 rfl 0 0 0 rfl rfl (Nat.le_of_ble_eq_true rfl) rfl fl_X5_10 rfl rfl ?_
          refine g_iload_n C dX5_kinds_35 3 rfl rfl ?_
          refine g_callVi (As := [.int x5]) (gr := [gObj x an am aq ap al au re pq, gA cI re 7 rf]) C (c_X3_kindOf l D cI cQ an n x5 _) dX5_kinds_36 ⟨ml_X5_75, kV_X3_kindOf⟩ ⟨Nat.le_of_ble_eq_true rfl, Nat.le_of_ble_eq_true rfl⟩ ⟨Nat.le_refl _, Nat.le_refl _⟩ rfl rfl 0 0 rfl rfl [1, 0, 2] 3 rfl pmb_1_0_2 rfl rfl rfl (Nat.le_of_ble_eq_true rfl) rfl (fun (u : Unit) => [gObj x an am aq ap al au re pq, gPar cI an n, gA cI re 7 rf]) [1, 0, 2] 3 (fun _ => rfl) pmb_1_0_2 (fun _ => rfl) hw (fun r8 u8 hw => ?_)
          refine g_iload_n C dX5_kinds_39 1 rfl rfl ?_
          refine g_icmp_ne (tgt := 46) C dX5_kinds_40 (by decide) rfl hw (fun _ hw => ?_) (fun _ hw => ?_)
          · refine g_iinc (v := (x5 + 1)) (j := 3) C dX5_kinds_46 rfl rfl (Nat.le_of_ble_eq_true rfl) (lv' := [(3, .int (x5 + 1)), (0, .ref x), (1, .int p1), (2, .int x4)]) rfl rfl ?_
            refine g_goto (pc' := 20) C dX5_kinds_49 (by decide) rfl ?_
            refine g_lv [1, 2, 3, 0] rfl ?_
            exact ih6 (x4, (x5 + 1)) hw
          · refine g_iinc (v := (x4 + 1)) (j := 2) C dX5_kinds_43 rfl rfl (Nat.le_of_ble_eq_true rfl) (lv' := [(2, .int (x4 + 1)), (0, .ref x), (1, .int p1), (3, .int x5)]) rfl rfl ?_
            refine g_iinc (v := (x5 + 1)) (j := 3) C dX5_kinds_46 rfl rfl (Nat.le_of_ble_eq_true rfl) (lv' := [(3, .int (x5 + 1)), (2, .int (x4 + 1)), (0, .ref x), (1, .int p1)]) rfl rfl ?_
            refine g_goto (pc' := 20) C dX5_kinds_49 (by decide) rfl ?_
            refine g_lv [2, 3, 1, 0] rfl ?_
            exact ih6 ((x4 + 1), (x5 + 1)) hw
      · refine g_lv [0] rfl ?_
        exact hJ1 () hw
set_option maxRecDepth 100000 in
theorem c_X5_kinds (l : Launch) (D : va_G) (cI cQ : ClassId) (x : Nat) (an : Nat → Nat) (am : Nat → Nat) (aq : Nat → Nat) (ap : Nat → Nat) (b : Nat → Nat → Nat) (al : Nat → Nat) (au : Nat → Nat) (re : Nat) (pq : Int32) (n : PT) (rf : F1) (p1 : Int32) (post : Int32 → F1 → Prop) (sz : Nat) : Met l yX5_kinds (wsY yX5_kinds cX5_kinds 4 (some .int)) (rmL 2 0 0 42) (xP D (tyL cI cQ) [.ref x, .int p1] [gObj x an am aq ap al au re pq, gPar cI an n, gA cI re 7 rf] sz (p_X5_kinds n rf p1 post)) (xQi D (tyL cI cQ) post (fun (u : F1) => [gObj x an am aq ap al au re pq, gPar cI an n, gA cI re 7 u]) (va_A [gObj x an am aq ap al au re pq, gPar cI an n, gA cI re 7 rf].flatten sz)) 0 0 (va_A [gObj x an am aq ap al au re pq, gPar cI an n, gA cI re 7 rf].flatten sz) :=
  Met_i pn_X5 (Nat.le_of_ble_eq_true rfl) (fun p e s mi below meth co A Q _ C hret hw => w_X5_kinds x an am aq ap b al au re pq n rf p1 C hret hw)
theorem kV_X5_kinds : Cond.instanceMethod yX5_kinds ∈ gTbl ∧ Cond.selects yX5_kinds.cls yX5_kinds yX5_kinds ∈ gTbl ∧ Cond.initialized yX5_kinds.cls ∈ gTbl ∧ Cond.code yX5_kinds cX5_kinds 4 (some .int) ∈ gTbl ∧ (yX5_kinds.cls ≠ "java/lang/invoke/MethodHandle" ∧ yX5_kinds.cls ≠ "java/lang/invoke/VarHandle" ∧ (parseMethodDescriptor yX5_kinds.desc).map (fun d => d.parameters.length) = some 1) := ⟨im_X5_kinds, sl_X5_kinds, in_X5, cd_X5_kinds, (by decide +kernel)⟩
set_option maxRecDepth 100000 in
def p_X5_turn (n : PT) (m : PT) (rf : F1) (p1 : Int32) (p2 : Int32) (post : Int32 → PT × F1 → Prop) : Prop := p_X3_there n p1 (fun (r1 : Int32) => ((r1 = 0 → p_X5_refuse rf (-1 : Int32) (fun (r17 : Int32) (u17 : F1) => (fun (rfv18 : F1) => post r17 (m, rfv18)) u17)) ∧ (¬ r1 = 0 → p_X5_outside p2 (0 : Int32) (60 : Int32) (fun (r2 : Int32) => ((r2 = 0 → lpN (fun (K7 : (Int32 × Int32 × Int32 × PT) → Prop) (z7 : Int32 × Int32 × Int32 × PT) => (fun (x3 : Int32) (x4 : Int32) (x5 : Int32) (mv6 : PT) => (((5 : Int32) < x5 → post x4 (mv6, rf)) ∧ (¬ (5 : Int32) < x5 → p_X5_think n mv6 (fun (u8 : PT) => (fun (mv9 : PT) => p_X3_figureOf n p1 (fun (r10 : Int32) => p_X3_remake mv9 p1 x5 r10 (fun (u11 : PT) => (fun (mv12 : PT) => p_X5_cupBehind mv12 p2 (fun (r13 : Int32) (u13 : PT) => (fun (mv14 : PT) => ((r13 ≤ x3 → K7 (x3, x4, (x5 + 1), mv14)) ∧ (¬ r13 ≤ x3 → K7 (r13, x5, (x5 + 1), mv14)))) u13)) u11))) u8)))) z7.1 z7.2.1 z7.2.2.1 z7.2.2.2) 1000 ((-9 : Int32), (-9 : Int32), (0 : Int32), m)) ∧ (¬ r2 = 0 → p_X5_refuse rf r2 (fun (r15 : Int32) (u15 : F1) => (fun (rfv16 : F1) => post r15 (m, rfv16)) u15)))))))
set_option maxHeartbeats 4000000 in
set_option maxRecDepth 100000 in
theorem w_X5_turn {p : Program} {l : Launch} {e : Env} {s : State} {mi : MethodId} {args : Array Value} {below : List Frame} {meth : Method} {co : Code} {D : va_G} {cI cQ : ClassId} {A : Nat → Prop} {Q : State → Prop} (x : Nat) (an : Nat → Nat) (am : Nat → Nat) (aq : Nat → Nat) (ap : Nat → Nat) (b : Nat → Nat → Nat) (al : Nat → Nat) (au : Nat → Nat) (re : Nat) (pq : Int32) (n : PT) (m : PT) (rf : F1) (p1 : Int32) (p2 : Int32) {post : Int32 → PT × F1 → Prop} (C : xC p s mi args co cX5_turn RX5 8 D (tyL cI cQ) A) (hret : ∀ (pc : Nat) (r : Int32) (u : PT × F1) (lv : List (Nat × Value)), decode cX5_turn pc = .ok (.ireturn, 1) → post r u → xG p l e (rmL 5 0 0 113) s mi args below meth co D A 8 Q 0 0 pc [.int r] [gObj x an am aq ap al au re pq, gPar cI an n, gPar cI am u.1, gA cI re 7 u.2] lv) (hw : p_X5_turn n m rf p1 p2 post) : xG p l e (rmL 5 0 0 113) s mi args below meth co D A 8 Q 0 0 0 [] [gObj x an am aq ap al au re pq, gPar cI an n, gPar cI am m, gA cI re 7 rf] [(0, .ref x), (1, .int p1), (2, .int p2)] := by
  unfold p_X5_turn at hw
  try dsimp only at hw
  show xG p l e (rmL 5 0 0 113) s mi args below meth co D A 8 Q 0 0 0 [] [gObj x an am aq ap al au re pq, gPar cI an n, gPar cI am m, gA cI re 7 rf] [(0, .ref x), (1, .int p1), (2, .int p2)]
  refine g_aload_n C dX5_turn_0 0 rfl rfl ?_
  refine g_get (v := .ref (an 0)) (ci := 4) C dX5_turn_1 inw_X5 rfl 0 0 0 rfl rfl (Nat.le_of_ble_eq_true rfl) rfl fl_X5_10 rfl rfl ?_
  refine g_iload_n C dX5_turn_4 1 rfl rfl ?_
  refine g_callVi (As := [.int p1]) (gr := [gObj x an am aq ap al au re pq, gPar cI am m, gA cI re 7 rf]) C (c_X3_there l D cI cQ an n p1 _) dX5_turn_5 ⟨ml_X5_72, kV_X3_there⟩ ⟨Nat.le_of_ble_eq_true rfl, Nat.le_of_ble_eq_true rfl⟩ ⟨Nat.le_refl _, Nat.le_refl _⟩ rfl rfl 0 0 rfl rfl [1, 0, 2, 3] 4 rfl pmb_1_0_2_3 rfl rfl rfl (Nat.le_of_ble_eq_true rfl) rfl (fun (u : Unit) => [gObj x an am aq ap al au re pq, gPar cI an n, gPar cI am m, gA cI re 7 rf]) [1, 0, 2, 3] 4 (fun _ => rfl) pmb_1_0_2_3 (fun _ => rfl) hw (fun r1 u1 hw => ?_)
  refine g_if_ne (tgt := 17) C dX5_turn_8 (by decide) rfl hw (fun _ hw => ?_) (fun _ hw => ?_)
  · refine g_iload_n C dX5_turn_17 2 rfl rfl ?_
    refine g_iconst (v := 0) C dX5_turn_18 rfl rfl ?_
    refine g_bipush (v := 60) C dX5_turn_19 (by decide) rfl ?_
    refine g_callSi (As := [.int p2, .int (0 : Int32), .int (60 : Int32)]) (gr := [gObj x an am aq ap al au re pq, gPar cI an n, gPar cI am m, gA cI re 7 rf]) C (c_X5_outside l D cI cQ   p2 (0 : Int32) (60 : Int32) _) dX5_turn_21 ⟨ml_X5_47, kS_X5_outside⟩ ⟨Nat.le_of_ble_eq_true rfl, Nat.le_of_ble_eq_true rfl⟩ ⟨Nat.le_refl _, Nat.le_refl _⟩ [0, 1, 2, 3] 4 rfl pmb_0_1_2_3 rfl rfl rfl (Nat.le_of_ble_eq_true rfl) rfl (fun (u : Unit) => [gObj x an am aq ap al au re pq, gPar cI an n, gPar cI am m, gA cI re 7 rf]) [0, 1, 2, 3] 4 (fun _ => rfl) pmb_0_1_2_3 (fun _ => rfl) hw (fun r2 u2 hw => ?_)
    refine g_istore_n (v := r2) C dX5_turn_24 rfl (Nat.le_of_ble_eq_true rfl) (lv' := [(3, .int r2), (0, .ref x), (1, .int p1), (2, .int p2)]) rfl rfl ?_
    refine g_iload_n C dX5_turn_25 0 rfl rfl ?_
    refine g_if_eq (tgt := 35) C dX5_turn_26 (by decide) rfl hw (fun _ hw => ?_) (fun _ hw => ?_)
    · refine g_bipush (v := -9) C dX5_turn_35 (by decide) rfl ?_
      refine g_istore (v := (-9 : Int32)) C dX5_turn_37 rfl (Nat.le_of_ble_eq_true rfl) (lv' := [(4, .int (-9 : Int32)), (3, .int r2), (0, .ref x), (1, .int p1), (2, .int p2)]) rfl rfl ?_
      refine g_bipush (v := -9) C dX5_turn_39 (by decide) rfl ?_
      refine g_istore (v := (-9 : Int32)) C dX5_turn_41 rfl (Nat.le_of_ble_eq_true rfl) (lv' := [(5, .int (-9 : Int32)), (4, .int (-9 : Int32)), (3, .int r2), (0, .ref x), (1, .int p1), (2, .int p2)]) rfl rfl ?_
      refine g_iconst (v := 0) C dX5_turn_43 rfl rfl ?_
      refine g_istore (v := (0 : Int32)) C dX5_turn_44 rfl (Nat.le_of_ble_eq_true rfl) (lv' := [(6, .int (0 : Int32)), (5, .int (-9 : Int32)), (4, .int (-9 : Int32)), (3, .int r2), (0, .ref x), (1, .int p1), (2, .int p2)]) rfl rfl ?_
      refine g_lv [4, 5, 6, 2, 1, 0] rfl ?_
      refine lpN_ind (G := (fun (z7 : Int32 × Int32 × Int32 × PT) => (fun (x3 : Int32) (x4 : Int32) (x5 : Int32) (mv6 : PT) => xG p l e (rmL 5 0 0 113) s mi args below meth co D A 8 Q 0 0 46 [] [gObj x an am aq ap al au re pq, gPar cI an n, gPar cI am mv6, gA cI re 7 rf] [(0, .ref x), (1, .int p1), (2, .int p2), (4, .int x3), (5, .int x4), (6, .int x5)]) z7.1 z7.2.1 z7.2.2.1 z7.2.2.2)) ?_ 1000 ((-9 : Int32), (-9 : Int32), (0 : Int32), m) hw
      rintro K7 ⟨x3, x4, x5, mv6⟩ ih7 hw
      show xG p l e (rmL 5 0 0 113) s mi args below meth co D A 8 Q 0 0 46 [] [gObj x an am aq ap al au re pq, gPar cI an n, gPar cI am mv6, gA cI re 7 rf] [(0, .ref x), (1, .int p1), (2, .int p2), (4, .int x3), (5, .int x4), (6, .int x5)]
      refine g_iload C dX5_turn_46 5 rfl rfl ?_
      refine g_iconst (v := 5) C dX5_turn_48 rfl rfl ?_
      refine g_icmp_gt (tgt := 102) C dX5_turn_49 (by decide) rfl hw (fun _ hw => ?_) (fun _ hw => ?_)
      · refine g_iload C dX5_turn_102 4 rfl rfl ?_
        exact hret 104 x4 (mv6, rf) _ dX5_turn_104 hw
      · refine g_aload_n C dX5_turn_52 0 rfl rfl ?_
        refine g_callVv (As := []) (gr := [gA cI re 7 rf]) C (c_X5_think l D cI cQ x an am aq ap b al au re pq n mv6  _) dX5_turn_53 ⟨ml_X5_137, kV_X5_think⟩ ⟨Nat.le_of_ble_eq_true rfl, Nat.le_of_ble_eq_true rfl⟩ ⟨Nat.le_refl _, Nat.le_refl _⟩ rfl rfl 0 0 rfl rfl [0, 1, 2, 3] 4 rfl pmb_0_1_2_3 rfl rfl rfl (Nat.le_of_ble_eq_true rfl) rfl (fun (u : PT) => [gObj x an am aq ap al au re pq, gPar cI an n, gPar cI am u, gA cI re 7 rf]) [0, 1, 2, 3] 4 (fun _ => rfl) pmb_0_1_2_3 (fun _ => rfl) hw (fun u8 hw => ?_)
        obtain ⟨mv9, rfl⟩ : ∃ z, z = u8 := ⟨_, rfl⟩
        refine g_aload_n C dX5_turn_56 0 rfl rfl ?_
        refine g_get (v := .ref (am 0)) (ci := 4) C dX5_turn_57 inw_X5 rfl 0 0 1 rfl rfl (Nat.le_of_ble_eq_true rfl) rfl fl_X5_16 rfl rfl ?_
        refine g_iload_n C dX5_turn_60 1 rfl rfl ?_
        refine g_iload C dX5_turn_61 5 rfl rfl ?_
        refine g_aload_n C dX5_turn_63 0 rfl rfl ?_
        refine g_get (v := .ref (an 0)) (ci := 4) C dX5_turn_64 inw_X5 rfl 0 0 0 rfl rfl (Nat.le_of_ble_eq_true rfl) rfl fl_X5_10 rfl rfl ?_
        refine g_iload_n C dX5_turn_67 1 rfl rfl ?_
        refine g_callVi (As := [.int p1]) (gr := [gObj x an am aq ap al au re pq, gPar cI am mv9, gA cI re 7 rf]) C (c_X3_figureOf l D cI cQ an n p1 _) dX5_turn_68 ⟨ml_X5_78, kV_X3_figureOf⟩ ⟨Nat.le_of_ble_eq_true rfl, Nat.le_of_ble_eq_true rfl⟩ ⟨Nat.le_refl _, Nat.le_refl _⟩ rfl rfl 0 0 rfl rfl [1, 0, 2, 3] 4 rfl pmb_1_0_2_3 rfl rfl rfl (Nat.le_of_ble_eq_true rfl) rfl (fun (u : Unit) => [gObj x an am aq ap al au re pq, gPar cI an n, gPar cI am mv9, gA cI re 7 rf]) [1, 0, 2, 3] 4 (fun _ => rfl) pmb_1_0_2_3 (fun _ => rfl) hw (fun r10 u10 hw => ?_)
        refine g_callVv (As := [.int p1, .int x5, .int r10]) (gr := [gObj x an am aq ap al au re pq, gPar cI an n, gA cI re 7 rf]) C (c_X3_remake l D cI cQ am mv9 p1 x5 r10 _) dX5_turn_71 ⟨ml_X5_219, kV_X3_remake⟩ ⟨Nat.le_of_ble_eq_true rfl, Nat.le_of_ble_eq_true rfl⟩ ⟨Nat.le_refl _, Nat.le_refl _⟩ rfl rfl 0 0 rfl rfl [2, 0, 1, 3] 4 rfl pmb_2_0_1_3 rfl rfl rfl (Nat.le_of_ble_eq_true rfl) rfl (fun (u : PT) => [gObj x an am aq ap al au re pq, gPar cI an n, gPar cI am u, gA cI re 7 rf]) [1, 2, 0, 3] 4 (fun _ => rfl) pmb_1_2_0_3 (fun _ => rfl) hw (fun u11 hw => ?_)
        obtain ⟨mv12, rfl⟩ : ∃ z, z = u11 := ⟨_, rfl⟩
        refine g_aload_n C dX5_turn_74 0 rfl rfl ?_
        refine g_iload_n C dX5_turn_75 2 rfl rfl ?_
        refine g_callVi (As := [.int p2]) (gr := [gPar cI an n, gA cI re 7 rf]) C (c_X5_cupBehind l D cI cQ x an am aq ap b al au re pq mv12 p2 _) dX5_turn_76 ⟨ml_X5_156, kV_X5_cupBehind⟩ ⟨Nat.le_of_ble_eq_true rfl, Nat.le_of_ble_eq_true rfl⟩ ⟨Nat.le_refl _, Nat.le_refl _⟩ rfl rfl 0 0 rfl rfl [0, 2, 1, 3] 4 rfl pmb_0_2_1_3 rfl rfl rfl (Nat.le_of_ble_eq_true rfl) rfl (fun (u : PT) => [gObj x an am aq ap al au re pq, gPar cI an n, gPar cI am u, gA cI re 7 rf]) [0, 2, 1, 3] 4 (fun _ => rfl) pmb_0_2_1_3 (fun _ => rfl) hw (fun r13 u13 hw => ?_)
        obtain ⟨mv14, rfl⟩ : ∃ z, z = u13 := ⟨_, rfl⟩
        refine g_istore (v := r13) C dX5_turn_79 rfl (Nat.le_of_ble_eq_true rfl) (lv' := [(7, .int r13), (0, .ref x), (1, .int p1), (2, .int p2), (4, .int x3), (5, .int x4), (6, .int x5)]) rfl rfl ?_
        refine g_iload C dX5_turn_81 0 rfl rfl ?_
        refine g_iload C dX5_turn_83 4 rfl rfl ?_
        refine g_icmp_le (tgt := 96) C dX5_turn_85 (by decide) rfl hw (fun _ hw => ?_) (fun _ hw => ?_)
        · refine g_iinc (v := (x5 + 1)) (j := 6) C dX5_turn_96 rfl rfl (Nat.le_of_ble_eq_true rfl) (lv' := [(6, .int (x5 + 1)), (7, .int r13), (0, .ref x), (1, .int p1), (2, .int p2), (4, .int x3), (5, .int x4)]) rfl rfl ?_
          refine g_goto (pc' := 46) C dX5_turn_99 (by decide) rfl ?_
          refine g_lv [2, 3, 4, 5, 6, 0] rfl ?_
          exact ih7 (x3, x4, (x5 + 1), mv14) hw
        · refine g_iload C dX5_turn_88 0 rfl rfl ?_
          refine g_istore (v := r13) C dX5_turn_90 rfl (Nat.le_of_ble_eq_true rfl) (lv' := [(4, .int r13), (7, .int r13), (0, .ref x), (1, .int p1), (2, .int p2), (5, .int x4), (6, .int x5)]) rfl rfl ?_
          refine g_iload C dX5_turn_92 6 rfl rfl ?_
          refine g_istore (v := x5) C dX5_turn_94 rfl (Nat.le_of_ble_eq_true rfl) (lv' := [(5, .int x5), (4, .int r13), (7, .int r13), (0, .ref x), (1, .int p1), (2, .int p2), (6, .int x5)]) rfl rfl ?_
          refine g_iinc (v := (x5 + 1)) (j := 6) C dX5_turn_96 rfl rfl (Nat.le_of_ble_eq_true rfl) (lv' := [(6, .int (x5 + 1)), (5, .int x5), (4, .int r13), (7, .int r13), (0, .ref x), (1, .int p1), (2, .int p2)]) rfl rfl ?_
          refine g_goto (pc' := 46) C dX5_turn_99 (by decide) rfl ?_
          refine g_lv [4, 5, 6, 2, 1, 0] rfl ?_
          exact ih7 (r13, x5, (x5 + 1), mv14) hw
    · refine g_aload_n C dX5_turn_29 1 rfl rfl ?_
      refine g_iload_n C dX5_turn_30 0 rfl rfl ?_
      refine g_callVi (As := [.int r2]) (gr := [gPar cI an n, gPar cI am m]) C (c_X5_refuse l D cI cQ x an am aq ap b al au re pq rf r2 _) dX5_turn_31 ⟨ml_X5_51, kV_X5_refuse⟩ ⟨Nat.le_of_ble_eq_true rfl, Nat.le_of_ble_eq_true rfl⟩ ⟨Nat.le_refl _, Nat.le_refl _⟩ rfl rfl 0 0 rfl rfl [0, 3, 1, 2] 4 rfl pmb_0_3_1_2 rfl rfl rfl (Nat.le_of_ble_eq_true rfl) rfl (fun (u : F1) => [gObj x an am aq ap al au re pq, gPar cI an n, gPar cI am m, gA cI re 7 u]) [0, 2, 3, 1] 4 (fun _ => rfl) pmb_0_2_3_1 (fun _ => rfl) hw (fun r15 u15 hw => ?_)
      obtain ⟨rfv16, rfl⟩ : ∃ z, z = u15 := ⟨_, rfl⟩
      exact hret 34 r15 (m, rfv16) _ dX5_turn_34 hw
  · refine g_aload_n C dX5_turn_11 0 rfl rfl ?_
    refine g_iconst (v := -1) C dX5_turn_12 (by decide) rfl ?_
    refine g_callVi (As := [.int (-1 : Int32)]) (gr := [gPar cI an n, gPar cI am m]) C (c_X5_refuse l D cI cQ x an am aq ap b al au re pq rf (-1 : Int32) _) dX5_turn_13 ⟨ml_X5_51, kV_X5_refuse⟩ ⟨Nat.le_of_ble_eq_true rfl, Nat.le_of_ble_eq_true rfl⟩ ⟨Nat.le_refl _, Nat.le_refl _⟩ rfl rfl 0 0 rfl rfl [0, 3, 1, 2] 4 rfl pmb_0_3_1_2 rfl rfl rfl (Nat.le_of_ble_eq_true rfl) rfl (fun (u : F1) => [gObj x an am aq ap al au re pq, gPar cI an n, gPar cI am m, gA cI re 7 u]) [0, 2, 3, 1] 4 (fun _ => rfl) pmb_0_2_3_1 (fun _ => rfl) hw (fun r17 u17 hw => ?_)
    obtain ⟨rfv18, rfl⟩ : ∃ z, z = u17 := ⟨_, rfl⟩
    exact hret 16 r17 (m, rfv18) _ dX5_turn_16 hw
set_option maxRecDepth 100000 in
theorem c_X5_turn (l : Launch) (D : va_G) (cI cQ : ClassId) (x : Nat) (an : Nat → Nat) (am : Nat → Nat) (aq : Nat → Nat) (ap : Nat → Nat) (b : Nat → Nat → Nat) (al : Nat → Nat) (au : Nat → Nat) (re : Nat) (pq : Int32) (n : PT) (m : PT) (rf : F1) (p1 : Int32) (p2 : Int32) (post : Int32 → PT × F1 → Prop) (sz : Nat) : Met l yX5_turn (wsY yX5_turn cX5_turn 8 (some .int)) (rmL 5 0 0 113) (xP D (tyL cI cQ) [.ref x, .int p1, .int p2] [gObj x an am aq ap al au re pq, gPar cI an n, gPar cI am m, gA cI re 7 rf] sz (p_X5_turn n m rf p1 p2 post)) (xQi D (tyL cI cQ) post (fun (u : PT × F1) => [gObj x an am aq ap al au re pq, gPar cI an n, gPar cI am u.1, gA cI re 7 u.2]) (va_A [gObj x an am aq ap al au re pq, gPar cI an n, gPar cI am m, gA cI re 7 rf].flatten sz)) 0 0 (va_A [gObj x an am aq ap al au re pq, gPar cI an n, gPar cI am m, gA cI re 7 rf].flatten sz) :=
  Met_i pn_X5 (Nat.le_of_ble_eq_true rfl) (fun p e s mi below meth co A Q _ C hret hw => w_X5_turn x an am aq ap b al au re pq n m rf p1 p2 C hret hw)
theorem kV_X5_turn : Cond.instanceMethod yX5_turn ∈ gTbl ∧ Cond.selects yX5_turn.cls yX5_turn yX5_turn ∈ gTbl ∧ Cond.initialized yX5_turn.cls ∈ gTbl ∧ Cond.code yX5_turn cX5_turn 8 (some .int) ∈ gTbl ∧ (yX5_turn.cls ≠ "java/lang/invoke/MethodHandle" ∧ yX5_turn.cls ≠ "java/lang/invoke/VarHandle" ∧ (parseMethodDescriptor yX5_turn.desc).map (fun d => d.parameters.length) = some 2) := ⟨im_X5_turn, sl_X5_turn, in_X5, cd_X5_turn, (by decide +kernel)⟩
set_option maxRecDepth 100000 in
def p_X5_row (nu : LT) (rf : F1) (p1 : Int32) (post : Int32 → LT × F1 → Prop) : Prop := p_X5_outside p1 (0 : Int32) (99 : Int32) (fun (r1 : Int32) => ((r1 = 0 → p_X2_add nu p1 (fun (r2 : Int32) (u2 : LT) => (fun (nuv3 : LT) => ((r2 = 0 → p_X5_refuse rf (-6 : Int32) (fun (r5 : Int32) (u5 : F1) => (fun (rfv6 : F1) => post r5 (nuv3, rfv6)) u5)) ∧ (¬ r2 = 0 → p_X2_size nuv3 (fun (r4 : Int32) => post r4 (nuv3, rf))))) u2)) ∧ (¬ r1 = 0 → p_X5_refuse rf r1 (fun (r7 : Int32) (u7 : F1) => (fun (rfv8 : F1) => post r7 (nu, rfv8)) u7))))
set_option maxHeartbeats 4000000 in
set_option maxRecDepth 100000 in
theorem w_X5_row {p : Program} {l : Launch} {e : Env} {s : State} {mi : MethodId} {args : Array Value} {below : List Frame} {meth : Method} {co : Code} {D : va_G} {cI cQ : ClassId} {A : Nat → Prop} {Q : State → Prop} (x : Nat) (an : Nat → Nat) (am : Nat → Nat) (aq : Nat → Nat) (ap : Nat → Nat) (b : Nat → Nat → Nat) (al : Nat → Nat) (au : Nat → Nat) (re : Nat) (pq : Int32) (nu : LT) (rf : F1) (p1 : Int32) {post : Int32 → LT × F1 → Prop} (C : xC p s mi args co cX5_row RX5 3 D (tyL cI cQ) A) (hret : ∀ (pc : Nat) (r : Int32) (u : LT × F1) (lv : List (Nat × Value)), decode cX5_row pc = .ok (.ireturn, 1) → post r u → xG p l e (rmL 1 0 0 22) s mi args below meth co D A 3 Q 0 0 pc [.int r] [gObj x an am aq ap al au re pq, gNum cI au u.1, gA cI re 7 u.2] lv) (hw : p_X5_row nu rf p1 post) : xG p l e (rmL 1 0 0 22) s mi args below meth co D A 3 Q 0 0 0 [] [gObj x an am aq ap al au re pq, gNum cI au nu, gA cI re 7 rf] [(0, .ref x), (1, .int p1)] := by
  unfold p_X5_row at hw
  try dsimp only at hw
  show xG p l e (rmL 1 0 0 22) s mi args below meth co D A 3 Q 0 0 0 [] [gObj x an am aq ap al au re pq, gNum cI au nu, gA cI re 7 rf] [(0, .ref x), (1, .int p1)]
  refine g_iload_n C dX5_row_0 1 rfl rfl ?_
  refine g_iconst (v := 0) C dX5_row_1 rfl rfl ?_
  refine g_bipush (v := 99) C dX5_row_2 (by decide) rfl ?_
  refine g_callSi (As := [.int p1, .int (0 : Int32), .int (99 : Int32)]) (gr := [gObj x an am aq ap al au re pq, gNum cI au nu, gA cI re 7 rf]) C (c_X5_outside l D cI cQ   p1 (0 : Int32) (99 : Int32) _) dX5_row_4 ⟨ml_X5_47, kS_X5_outside⟩ ⟨Nat.le_of_ble_eq_true rfl, Nat.le_of_ble_eq_true rfl⟩ ⟨Nat.le_refl _, Nat.le_refl _⟩ [0, 1, 2] 3 rfl pmb_0_1_2 rfl rfl rfl (Nat.le_of_ble_eq_true rfl) rfl (fun (u : Unit) => [gObj x an am aq ap al au re pq, gNum cI au nu, gA cI re 7 rf]) [0, 1, 2] 3 (fun _ => rfl) pmb_0_1_2 (fun _ => rfl) hw (fun r1 u1 hw => ?_)
  refine g_istore_n (v := r1) C dX5_row_7 rfl (Nat.le_of_ble_eq_true rfl) (lv' := [(2, .int r1), (0, .ref x), (1, .int p1)]) rfl rfl ?_
  refine g_iload_n C dX5_row_8 0 rfl rfl ?_
  refine g_if_eq (tgt := 18) C dX5_row_9 (by decide) rfl hw (fun _ hw => ?_) (fun _ hw => ?_)
  · refine g_aload_n C dX5_row_18 1 rfl rfl ?_
    refine g_get (v := .ref (au 0)) (ci := 4) C dX5_row_19 inw_X5 rfl 0 0 5 rfl rfl (Nat.le_of_ble_eq_true rfl) rfl fl_X5_39 rfl rfl ?_
    refine g_iload_n C dX5_row_22 2 rfl rfl ?_
    refine g_callVi (As := [.int p1]) (gr := [gObj x an am aq ap al au re pq, gA cI re 7 rf]) C (c_X2_add l D cI cQ au nu p1 _) dX5_row_23 ⟨ml_X5_223, kV_X2_add⟩ ⟨Nat.le_of_ble_eq_true rfl, Nat.le_of_ble_eq_true rfl⟩ ⟨Nat.le_refl _, Nat.le_refl _⟩ rfl rfl 0 0 rfl rfl [1, 0, 2] 3 rfl pmb_1_0_2 rfl rfl rfl (Nat.le_of_ble_eq_true rfl) rfl (fun (u : LT) => [gObj x an am aq ap al au re pq, gNum cI au u, gA cI re 7 rf]) [1, 0, 2] 3 (fun _ => rfl) pmb_1_0_2 (fun _ => rfl) hw (fun r2 u2 hw => ?_)
    obtain ⟨nuv3, rfl⟩ : ∃ z, z = u2 := ⟨_, rfl⟩
    refine g_if_ne (tgt := 36) C dX5_row_26 (by decide) rfl hw (fun _ hw => ?_) (fun _ hw => ?_)
    · refine g_aload_n C dX5_row_36 1 rfl rfl ?_
      refine g_get (v := .ref (au 0)) (ci := 4) C dX5_row_37 inw_X5 rfl 0 0 5 rfl rfl (Nat.le_of_ble_eq_true rfl) rfl fl_X5_39 rfl rfl ?_
      refine g_callVi (As := []) (gr := [gObj x an am aq ap al au re pq, gA cI re 7 rf]) C (c_X2_size l D cI cQ au nuv3  _) dX5_row_40 ⟨ml_X5_224, kV_X2_size⟩ ⟨Nat.le_of_ble_eq_true rfl, Nat.le_of_ble_eq_true rfl⟩ ⟨Nat.le_refl _, Nat.le_refl _⟩ rfl rfl 0 0 rfl rfl [1, 0, 2] 3 rfl pmb_1_0_2 rfl rfl rfl (Nat.le_of_ble_eq_true rfl) rfl (fun (u : Unit) => [gObj x an am aq ap al au re pq, gNum cI au nuv3, gA cI re 7 rf]) [1, 0, 2] 3 (fun _ => rfl) pmb_1_0_2 (fun _ => rfl) hw (fun r4 u4 hw => ?_)
      exact hret 43 r4 (nuv3, rf) _ dX5_row_43 hw
    · refine g_aload_n C dX5_row_29 1 rfl rfl ?_
      refine g_bipush (v := -6) C dX5_row_30 (by decide) rfl ?_
      refine g_callVi (As := [.int (-6 : Int32)]) (gr := [gNum cI au nuv3]) C (c_X5_refuse l D cI cQ x an am aq ap b al au re pq rf (-6 : Int32) _) dX5_row_32 ⟨ml_X5_51, kV_X5_refuse⟩ ⟨Nat.le_of_ble_eq_true rfl, Nat.le_of_ble_eq_true rfl⟩ ⟨Nat.le_refl _, Nat.le_refl _⟩ rfl rfl 0 0 rfl rfl [0, 2, 1] 3 rfl pmb_0_2_1 rfl rfl rfl (Nat.le_of_ble_eq_true rfl) rfl (fun (u : F1) => [gObj x an am aq ap al au re pq, gNum cI au nuv3, gA cI re 7 u]) [0, 2, 1] 3 (fun _ => rfl) pmb_0_2_1 (fun _ => rfl) hw (fun r5 u5 hw => ?_)
      obtain ⟨rfv6, rfl⟩ : ∃ z, z = u5 := ⟨_, rfl⟩
      exact hret 35 r5 (nuv3, rfv6) _ dX5_row_35 hw
  · refine g_aload_n C dX5_row_12 1 rfl rfl ?_
    refine g_iload_n C dX5_row_13 0 rfl rfl ?_
    refine g_callVi (As := [.int r1]) (gr := [gNum cI au nu]) C (c_X5_refuse l D cI cQ x an am aq ap b al au re pq rf r1 _) dX5_row_14 ⟨ml_X5_51, kV_X5_refuse⟩ ⟨Nat.le_of_ble_eq_true rfl, Nat.le_of_ble_eq_true rfl⟩ ⟨Nat.le_refl _, Nat.le_refl _⟩ rfl rfl 0 0 rfl rfl [0, 2, 1] 3 rfl pmb_0_2_1 rfl rfl rfl (Nat.le_of_ble_eq_true rfl) rfl (fun (u : F1) => [gObj x an am aq ap al au re pq, gNum cI au nu, gA cI re 7 u]) [0, 2, 1] 3 (fun _ => rfl) pmb_0_2_1 (fun _ => rfl) hw (fun r7 u7 hw => ?_)
    obtain ⟨rfv8, rfl⟩ : ∃ z, z = u7 := ⟨_, rfl⟩
    exact hret 17 r7 (nu, rfv8) _ dX5_row_17 hw
set_option maxRecDepth 100000 in
theorem c_X5_row (l : Launch) (D : va_G) (cI cQ : ClassId) (x : Nat) (an : Nat → Nat) (am : Nat → Nat) (aq : Nat → Nat) (ap : Nat → Nat) (b : Nat → Nat → Nat) (al : Nat → Nat) (au : Nat → Nat) (re : Nat) (pq : Int32) (nu : LT) (rf : F1) (p1 : Int32) (post : Int32 → LT × F1 → Prop) (sz : Nat) : Met l yX5_row (wsY yX5_row cX5_row 3 (some .int)) (rmL 1 0 0 22) (xP D (tyL cI cQ) [.ref x, .int p1] [gObj x an am aq ap al au re pq, gNum cI au nu, gA cI re 7 rf] sz (p_X5_row nu rf p1 post)) (xQi D (tyL cI cQ) post (fun (u : LT × F1) => [gObj x an am aq ap al au re pq, gNum cI au u.1, gA cI re 7 u.2]) (va_A [gObj x an am aq ap al au re pq, gNum cI au nu, gA cI re 7 rf].flatten sz)) 0 0 (va_A [gObj x an am aq ap al au re pq, gNum cI au nu, gA cI re 7 rf].flatten sz) :=
  Met_i pn_X5 (Nat.le_of_ble_eq_true rfl) (fun p e s mi below meth co A Q _ C hret hw => w_X5_row x an am aq ap b al au re pq nu rf p1 C hret hw)
theorem kV_X5_row : Cond.instanceMethod yX5_row ∈ gTbl ∧ Cond.selects yX5_row.cls yX5_row yX5_row ∈ gTbl ∧ Cond.initialized yX5_row.cls ∈ gTbl ∧ Cond.code yX5_row cX5_row 3 (some .int) ∈ gTbl ∧ (yX5_row.cls ≠ "java/lang/invoke/MethodHandle" ∧ yX5_row.cls ≠ "java/lang/invoke/VarHandle" ∧ (parseMethodDescriptor yX5_row.desc).map (fun d => d.parameters.length) = some 1) := ⟨im_X5_row, sl_X5_row, in_X5, cd_X5_row, (by decide +kernel)⟩
set_option maxRecDepth 100000 in
def p_X5_judge (n : PT) (nu : LT) (post : Int32 → LT → Prop) : Prop := lpN (fun (K3 : (Int32 × Int32) → Prop) (z3 : Int32 × Int32) => (fun (x1 : Int32) (x2 : Int32) => p_X2_size nu (fun (r4 : Int32) => jn (fun (z5 : Unit) => p_X2_drop nu (fun (u6 : LT) => (fun (nuv7 : LT) => post x1 nuv7) u6)) (fun J5 => ((r4 ≤ x2 → J5 ()) ∧ (¬ r4 ≤ x2 → ((x1 = (-9 : Int32) → p_X3_there n x2 (fun (r8 : Int32) => jn (fun (z9 : Unit) => K3 (x2, (x2 + 1))) (fun J9 => ((r8 = 0 → J9 ()) ∧ (¬ r8 = 0 → p_X3_holdsOf n x2 (fun (r10 : Int32) => p_X2_at nu x2 (fun (r11 : Int32) => ((r10 = r11 → K3 (x1, (x2 + 1))) ∧ (¬ r10 = r11 → J9 ()))))))))) ∧ (¬ x1 = (-9 : Int32) → J5 ()))))))) z3.1 z3.2) 1000 ((-9 : Int32), (0 : Int32))
set_option maxHeartbeats 4000000 in
set_option maxRecDepth 100000 in
theorem w_X5_judge {p : Program} {l : Launch} {e : Env} {s : State} {mi : MethodId} {args : Array Value} {below : List Frame} {meth : Method} {co : Code} {D : va_G} {cI cQ : ClassId} {A : Nat → Prop} {Q : State → Prop} (x : Nat) (an : Nat → Nat) (am : Nat → Nat) (aq : Nat → Nat) (ap : Nat → Nat) (b : Nat → Nat → Nat) (al : Nat → Nat) (au : Nat → Nat) (re : Nat) (pq : Int32) (n : PT) (nu : LT) {post : Int32 → LT → Prop} (C : xC p s mi args co cX5_judge RX5 3 D (tyL cI cQ) A) (hret : ∀ (pc : Nat) (r : Int32) (u : LT) (lv : List (Nat × Value)), decode cX5_judge pc = .ok (.ireturn, 1) → post r u → xG p l e (rmL 2 0 0 42) s mi args below meth co D A 3 Q 0 0 pc [.int r] [gObj x an am aq ap al au re pq, gPar cI an n, gNum cI au u] lv) (hw : p_X5_judge n nu post) : xG p l e (rmL 2 0 0 42) s mi args below meth co D A 3 Q 0 0 0 [] [gObj x an am aq ap al au re pq, gPar cI an n, gNum cI au nu] [(0, .ref x)] := by
  unfold p_X5_judge at hw
  try dsimp only at hw
  show xG p l e (rmL 2 0 0 42) s mi args below meth co D A 3 Q 0 0 0 [] [gObj x an am aq ap al au re pq, gPar cI an n, gNum cI au nu] [(0, .ref x)]
  refine g_bipush (v := -9) C dX5_judge_0 (by decide) rfl ?_
  refine g_istore_n (v := (-9 : Int32)) C dX5_judge_2 rfl (Nat.le_of_ble_eq_true rfl) (lv' := [(1, .int (-9 : Int32)), (0, .ref x)]) rfl rfl ?_
  refine g_iconst (v := 0) C dX5_judge_3 rfl rfl ?_
  refine g_istore_n (v := (0 : Int32)) C dX5_judge_4 rfl (Nat.le_of_ble_eq_true rfl) (lv' := [(2, .int (0 : Int32)), (1, .int (-9 : Int32)), (0, .ref x)]) rfl rfl ?_
  refine g_lv [2, 1, 0] rfl ?_
  refine lpN_ind (G := (fun (z3 : Int32 × Int32) => (fun (x1 : Int32) (x2 : Int32) => xG p l e (rmL 2 0 0 42) s mi args below meth co D A 3 Q 0 0 5 [] [gObj x an am aq ap al au re pq, gPar cI an n, gNum cI au nu] [(0, .ref x), (1, .int x1), (2, .int x2)]) z3.1 z3.2)) ?_ 1000 ((-9 : Int32), (0 : Int32)) hw
  rintro K3 ⟨x1, x2⟩ ih3 hw
  show xG p l e (rmL 2 0 0 42) s mi args below meth co D A 3 Q 0 0 5 [] [gObj x an am aq ap al au re pq, gPar cI an n, gNum cI au nu] [(0, .ref x), (1, .int x1), (2, .int x2)]
  refine g_iload_n C dX5_judge_5 2 rfl rfl ?_
  refine g_aload_n C dX5_judge_6 0 rfl rfl ?_
  refine g_get (v := .ref (au 0)) (ci := 4) C dX5_judge_7 inw_X5 rfl 0 0 5 rfl rfl (Nat.le_of_ble_eq_true rfl) rfl fl_X5_39 rfl rfl ?_
  refine g_callVi (As := []) (gr := [gObj x an am aq ap al au re pq, gPar cI an n]) C (c_X2_size l D cI cQ au nu  _) dX5_judge_10 ⟨ml_X5_224, kV_X2_size⟩ ⟨Nat.le_of_ble_eq_true rfl, Nat.le_of_ble_eq_true rfl⟩ ⟨Nat.le_refl _, Nat.le_refl _⟩ rfl rfl 0 0 rfl rfl [2, 0, 1] 3 rfl pmb_2_0_1 rfl rfl rfl (Nat.le_of_ble_eq_true rfl) rfl (fun (u : Unit) => [gObj x an am aq ap al au re pq, gPar cI an n, gNum cI au nu]) [1, 2, 0] 3 (fun _ => rfl) pmb_1_2_0 (fun _ => rfl) hw (fun r4 u4 hw => ?_)
  refine jn_el hw (fun (z5 : Unit) => xG p l e (rmL 2 0 0 42) s mi args below meth co D A 3 Q 0 0 60 [] [gObj x an am aq ap al au re pq, gPar cI an n, gNum cI au nu] [(0, .ref x), (1, .int x1)]) ?_ ?_
  · rintro _ hw
    show xG p l e (rmL 2 0 0 42) s mi args below meth co D A 3 Q 0 0 60 [] [gObj x an am aq ap al au re pq, gPar cI an n, gNum cI au nu] [(0, .ref x), (1, .int x1)]
    refine g_aload_n C dX5_judge_60 0 rfl rfl ?_
    refine g_get (v := .ref (au 0)) (ci := 4) C dX5_judge_61 inw_X5 rfl 0 0 5 rfl rfl (Nat.le_of_ble_eq_true rfl) rfl fl_X5_39 rfl rfl ?_
    refine g_callVv (As := []) (gr := [gObj x an am aq ap al au re pq, gPar cI an n]) C (c_X2_drop l D cI cQ au nu  _) dX5_judge_64 ⟨ml_X5_228, kV_X2_drop⟩ ⟨Nat.le_of_ble_eq_true rfl, Nat.le_of_ble_eq_true rfl⟩ ⟨Nat.le_refl _, Nat.le_refl _⟩ rfl rfl 0 0 rfl rfl [2, 0, 1] 3 rfl pmb_2_0_1 rfl rfl rfl (Nat.le_of_ble_eq_true rfl) rfl (fun (u : LT) => [gObj x an am aq ap al au re pq, gPar cI an n, gNum cI au u]) [1, 2, 0] 3 (fun _ => rfl) pmb_1_2_0 (fun _ => rfl) hw (fun u6 hw => ?_)
    obtain ⟨nuv7, rfl⟩ : ∃ z, z = u6 := ⟨_, rfl⟩
    refine g_iload_n C dX5_judge_67 1 rfl rfl ?_
    exact hret 68 x1 nuv7 _ dX5_judge_68 hw
  · intro J5 hJ5 hw
    refine g_icmp_ge (tgt := 60) C dX5_judge_13 (by decide) rfl hw (fun _ hw => ?_) (fun _ hw => ?_)
    · refine g_lv [0, 1] rfl ?_
      exact hJ5 () hw
    · refine g_iload_n C dX5_judge_16 1 rfl rfl ?_
      refine g_bipush (v := -9) C dX5_judge_17 (by decide) rfl ?_
      refine g_icmp_ne (tgt := 60) C dX5_judge_19 (by decide) rfl hw (fun _ hw => ?_) (fun _ hw => ?_)
      · refine g_lv [0, 1] rfl ?_
        exact hJ5 () hw
      · refine g_aload_n C dX5_judge_22 0 rfl rfl ?_
        refine g_get (v := .ref (an 0)) (ci := 4) C dX5_judge_23 inw_X5 rfl 0 0 0 rfl rfl (Nat.le_of_ble_eq_true rfl) rfl fl_X5_10 rfl rfl ?_
        refine g_iload_n C dX5_judge_26 2 rfl rfl ?_
        refine g_callVi (As := [.int x2]) (gr := [gObj x an am aq ap al au re pq, gNum cI au nu]) C (c_X3_there l D cI cQ an n x2 _) dX5_judge_27 ⟨ml_X5_72, kV_X3_there⟩ ⟨Nat.le_of_ble_eq_true rfl, Nat.le_of_ble_eq_true rfl⟩ ⟨Nat.le_refl _, Nat.le_refl _⟩ rfl rfl 0 0 rfl rfl [1, 0, 2] 3 rfl pmb_1_0_2 rfl rfl rfl (Nat.le_of_ble_eq_true rfl) rfl (fun (u : Unit) => [gObj x an am aq ap al au re pq, gPar cI an n, gNum cI au nu]) [1, 0, 2] 3 (fun _ => rfl) pmb_1_0_2 (fun _ => rfl) hw (fun r8 u8 hw => ?_)
        refine jn_el hw (fun (z9 : Unit) => xG p l e (rmL 2 0 0 42) s mi args below meth co D A 3 Q 0 0 52 [] [gObj x an am aq ap al au re pq, gPar cI an n, gNum cI au nu] [(0, .ref x), (2, .int x2)]) ?_ ?_
        · rintro _ hw
          show xG p l e (rmL 2 0 0 42) s mi args below meth co D A 3 Q 0 0 52 [] [gObj x an am aq ap al au re pq, gPar cI an n, gNum cI au nu] [(0, .ref x), (2, .int x2)]
          refine g_iload_n C dX5_judge_52 1 rfl rfl ?_
          refine g_istore_n (v := x2) C dX5_judge_53 rfl (Nat.le_of_ble_eq_true rfl) (lv' := [(1, .int x2), (0, .ref x), (2, .int x2)]) rfl rfl ?_
          refine g_iinc (v := (x2 + 1)) (j := 2) C dX5_judge_54 rfl rfl (Nat.le_of_ble_eq_true rfl) (lv' := [(2, .int (x2 + 1)), (1, .int x2), (0, .ref x)]) rfl rfl ?_
          refine g_goto (pc' := 5) C dX5_judge_57 (by decide) rfl ?_
          refine g_lv [2, 1, 0] rfl ?_
          exact ih3 (x2, (x2 + 1)) hw
        · intro J9 hJ9 hw
          refine g_if_eq (tgt := 52) C dX5_judge_30 (by decide) rfl hw (fun _ hw => ?_) (fun _ hw => ?_)
          · refine g_lv [0, 2] rfl ?_
            exact hJ9 () hw
          · refine g_aload_n C dX5_judge_33 0 rfl rfl ?_
            refine g_get (v := .ref (an 0)) (ci := 4) C dX5_judge_34 inw_X5 rfl 0 0 0 rfl rfl (Nat.le_of_ble_eq_true rfl) rfl fl_X5_10 rfl rfl ?_
            refine g_iload_n C dX5_judge_37 2 rfl rfl ?_
            refine g_callVi (As := [.int x2]) (gr := [gObj x an am aq ap al au re pq, gNum cI au nu]) C (c_X3_holdsOf l D cI cQ an n x2 _) dX5_judge_38 ⟨ml_X5_81, kV_X3_holdsOf⟩ ⟨Nat.le_of_ble_eq_true rfl, Nat.le_of_ble_eq_true rfl⟩ ⟨Nat.le_refl _, Nat.le_refl _⟩ rfl rfl 0 0 rfl rfl [1, 0, 2] 3 rfl pmb_1_0_2 rfl rfl rfl (Nat.le_of_ble_eq_true rfl) rfl (fun (u : Unit) => [gObj x an am aq ap al au re pq, gPar cI an n, gNum cI au nu]) [1, 0, 2] 3 (fun _ => rfl) pmb_1_0_2 (fun _ => rfl) hw (fun r10 u10 hw => ?_)
            refine g_aload_n C dX5_judge_41 0 rfl rfl ?_
            refine g_get (v := .ref (au 0)) (ci := 4) C dX5_judge_42 inw_X5 rfl 0 0 5 rfl rfl (Nat.le_of_ble_eq_true rfl) rfl fl_X5_39 rfl rfl ?_
            refine g_iload_n C dX5_judge_45 2 rfl rfl ?_
            refine g_callVi (As := [.int x2]) (gr := [gObj x an am aq ap al au re pq, gPar cI an n]) C (c_X2_at l D cI cQ au nu x2 _) dX5_judge_46 ⟨ml_X5_225, kV_X2_at⟩ ⟨Nat.le_of_ble_eq_true rfl, Nat.le_of_ble_eq_true rfl⟩ ⟨Nat.le_refl _, Nat.le_refl _⟩ rfl rfl 0 0 rfl rfl [2, 0, 1] 3 rfl pmb_2_0_1 rfl rfl rfl (Nat.le_of_ble_eq_true rfl) rfl (fun (u : Unit) => [gObj x an am aq ap al au re pq, gPar cI an n, gNum cI au nu]) [1, 2, 0] 3 (fun _ => rfl) pmb_1_2_0 (fun _ => rfl) hw (fun r11 u11 hw => ?_)
            refine g_icmp_eq (tgt := 54) C dX5_judge_49 (by decide) rfl hw (fun _ hw => ?_) (fun _ hw => ?_)
            · refine g_iinc (v := (x2 + 1)) (j := 2) C dX5_judge_54 rfl rfl (Nat.le_of_ble_eq_true rfl) (lv' := [(2, .int (x2 + 1)), (0, .ref x), (1, .int x1)]) rfl rfl ?_
              refine g_goto (pc' := 5) C dX5_judge_57 (by decide) rfl ?_
              refine g_lv [1, 2, 0] rfl ?_
              exact ih3 (x1, (x2 + 1)) hw
            · refine g_lv [0, 2] rfl ?_
              exact hJ9 () hw
set_option maxRecDepth 100000 in
theorem c_X5_judge (l : Launch) (D : va_G) (cI cQ : ClassId) (x : Nat) (an : Nat → Nat) (am : Nat → Nat) (aq : Nat → Nat) (ap : Nat → Nat) (b : Nat → Nat → Nat) (al : Nat → Nat) (au : Nat → Nat) (re : Nat) (pq : Int32) (n : PT) (nu : LT) (post : Int32 → LT → Prop) (sz : Nat) : Met l yX5_judge (wsY yX5_judge cX5_judge 3 (some .int)) (rmL 2 0 0 42) (xP D (tyL cI cQ) [.ref x] [gObj x an am aq ap al au re pq, gPar cI an n, gNum cI au nu] sz (p_X5_judge n nu post)) (xQi D (tyL cI cQ) post (fun (u : LT) => [gObj x an am aq ap al au re pq, gPar cI an n, gNum cI au u]) (va_A [gObj x an am aq ap al au re pq, gPar cI an n, gNum cI au nu].flatten sz)) 0 0 (va_A [gObj x an am aq ap al au re pq, gPar cI an n, gNum cI au nu].flatten sz) :=
  Met_i pn_X5 (Nat.le_of_ble_eq_true rfl) (fun p e s mi below meth co A Q _ C hret hw => w_X5_judge x an am aq ap b al au re pq n nu C hret hw)
theorem kV_X5_judge : Cond.instanceMethod yX5_judge ∈ gTbl ∧ Cond.selects yX5_judge.cls yX5_judge yX5_judge ∈ gTbl ∧ Cond.initialized yX5_judge.cls ∈ gTbl ∧ Cond.code yX5_judge cX5_judge 3 (some .int) ∈ gTbl ∧ (yX5_judge.cls ≠ "java/lang/invoke/MethodHandle" ∧ yX5_judge.cls ≠ "java/lang/invoke/VarHandle" ∧ (parseMethodDescriptor yX5_judge.desc).map (fun d => d.parameters.length) = some 0) := ⟨im_X5_judge, sl_X5_judge, in_X5, cd_X5_judge, (by decide +kernel)⟩
set_option maxRecDepth 100000 in
def p_X5_clear (nu : LT) (post : Int32 → LT → Prop) : Prop := p_X2_size nu (fun (r1 : Int32) => p_X2_drop nu (fun (u2 : LT) => (fun (nuv3 : LT) => post r1 nuv3) u2))
set_option maxHeartbeats 4000000 in
set_option maxRecDepth 100000 in
theorem w_X5_clear {p : Program} {l : Launch} {e : Env} {s : State} {mi : MethodId} {args : Array Value} {below : List Frame} {meth : Method} {co : Code} {D : va_G} {cI cQ : ClassId} {A : Nat → Prop} {Q : State → Prop} (x : Nat) (an : Nat → Nat) (am : Nat → Nat) (aq : Nat → Nat) (ap : Nat → Nat) (b : Nat → Nat → Nat) (al : Nat → Nat) (au : Nat → Nat) (re : Nat) (pq : Int32) (nu : LT) {post : Int32 → LT → Prop} (C : xC p s mi args co cX5_clear RX5 2 D (tyL cI cQ) A) (hret : ∀ (pc : Nat) (r : Int32) (u : LT) (lv : List (Nat × Value)), decode cX5_clear pc = .ok (.ireturn, 1) → post r u → xG p l e (rmL 1 0 0 20) s mi args below meth co D A 2 Q 0 0 pc [.int r] [gObj x an am aq ap al au re pq, gNum cI au u] lv) (hw : p_X5_clear nu post) : xG p l e (rmL 1 0 0 20) s mi args below meth co D A 2 Q 0 0 0 [] [gObj x an am aq ap al au re pq, gNum cI au nu] [(0, .ref x)] := by
  unfold p_X5_clear at hw
  try dsimp only at hw
  show xG p l e (rmL 1 0 0 20) s mi args below meth co D A 2 Q 0 0 0 [] [gObj x an am aq ap al au re pq, gNum cI au nu] [(0, .ref x)]
  refine g_aload_n C dX5_clear_0 0 rfl rfl ?_
  refine g_get (v := .ref (au 0)) (ci := 4) C dX5_clear_1 inw_X5 rfl 0 0 5 rfl rfl (Nat.le_of_ble_eq_true rfl) rfl fl_X5_39 rfl rfl ?_
  refine g_callVi (As := []) (gr := [gObj x an am aq ap al au re pq]) C (c_X2_size l D cI cQ au nu  _) dX5_clear_4 ⟨ml_X5_224, kV_X2_size⟩ ⟨Nat.le_of_ble_eq_true rfl, Nat.le_of_ble_eq_true rfl⟩ ⟨Nat.le_refl _, Nat.le_refl _⟩ rfl rfl 0 0 rfl rfl [1, 0] 2 rfl pmb_1_0 rfl rfl rfl (Nat.le_of_ble_eq_true rfl) rfl (fun (u : Unit) => [gObj x an am aq ap al au re pq, gNum cI au nu]) [1, 0] 2 (fun _ => rfl) pmb_1_0 (fun _ => rfl) hw (fun r1 u1 hw => ?_)
  refine g_istore_n (v := r1) C dX5_clear_7 rfl (Nat.le_of_ble_eq_true rfl) (lv' := [(1, .int r1), (0, .ref x)]) rfl rfl ?_
  refine g_aload_n C dX5_clear_8 1 rfl rfl ?_
  refine g_get (v := .ref (au 0)) (ci := 4) C dX5_clear_9 inw_X5 rfl 0 0 5 rfl rfl (Nat.le_of_ble_eq_true rfl) rfl fl_X5_39 rfl rfl ?_
  refine g_callVv (As := []) (gr := [gObj x an am aq ap al au re pq]) C (c_X2_drop l D cI cQ au nu  _) dX5_clear_12 ⟨ml_X5_228, kV_X2_drop⟩ ⟨Nat.le_of_ble_eq_true rfl, Nat.le_of_ble_eq_true rfl⟩ ⟨Nat.le_refl _, Nat.le_refl _⟩ rfl rfl 0 0 rfl rfl [1, 0] 2 rfl pmb_1_0 rfl rfl rfl (Nat.le_of_ble_eq_true rfl) rfl (fun (u : LT) => [gObj x an am aq ap al au re pq, gNum cI au u]) [1, 0] 2 (fun _ => rfl) pmb_1_0 (fun _ => rfl) hw (fun u2 hw => ?_)
  obtain ⟨nuv3, rfl⟩ : ∃ z, z = u2 := ⟨_, rfl⟩
  refine g_iload_n C dX5_clear_15 0 rfl rfl ?_
  exact hret 16 r1 nuv3 _ dX5_clear_16 hw
set_option maxRecDepth 100000 in
theorem c_X5_clear (l : Launch) (D : va_G) (cI cQ : ClassId) (x : Nat) (an : Nat → Nat) (am : Nat → Nat) (aq : Nat → Nat) (ap : Nat → Nat) (b : Nat → Nat → Nat) (al : Nat → Nat) (au : Nat → Nat) (re : Nat) (pq : Int32) (nu : LT) (post : Int32 → LT → Prop) (sz : Nat) : Met l yX5_clear (wsY yX5_clear cX5_clear 2 (some .int)) (rmL 1 0 0 20) (xP D (tyL cI cQ) [.ref x] [gObj x an am aq ap al au re pq, gNum cI au nu] sz (p_X5_clear nu post)) (xQi D (tyL cI cQ) post (fun (u : LT) => [gObj x an am aq ap al au re pq, gNum cI au u]) (va_A [gObj x an am aq ap al au re pq, gNum cI au nu].flatten sz)) 0 0 (va_A [gObj x an am aq ap al au re pq, gNum cI au nu].flatten sz) :=
  Met_i pn_X5 (Nat.le_of_ble_eq_true rfl) (fun p e s mi below meth co A Q _ C hret hw => w_X5_clear x an am aq ap b al au re pq nu C hret hw)
theorem kV_X5_clear : Cond.instanceMethod yX5_clear ∈ gTbl ∧ Cond.selects yX5_clear.cls yX5_clear yX5_clear ∈ gTbl ∧ Cond.initialized yX5_clear.cls ∈ gTbl ∧ Cond.code yX5_clear cX5_clear 2 (some .int) ∈ gTbl ∧ (yX5_clear.cls ≠ "java/lang/invoke/MethodHandle" ∧ yX5_clear.cls ≠ "java/lang/invoke/VarHandle" ∧ (parseMethodDescriptor yX5_clear.desc).map (fun d => d.parameters.length) = some 0) := ⟨im_X5_clear, sl_X5_clear, in_X5, cd_X5_clear, (by decide +kernel)⟩
set_option maxRecDepth 100000 in
def p_X5_nextSeed (p1 : Int32) (post : Int32 → Prop) : Prop := post ((p1 * (1103515245 : Int32)) + (12345 : Int32))
set_option maxHeartbeats 4000000 in
set_option maxRecDepth 100000 in
theorem w_X5_nextSeed {p : Program} {l : Launch} {e : Env} {s : State} {mi : MethodId} {args : Array Value} {below : List Frame} {meth : Method} {co : Code} {D : va_G} {cI cQ : ClassId} {A : Nat → Prop} {Q : State → Prop} (p1 : Int32) {post : Int32 → Prop} (C : xC p s mi args co cX5_nextSeed RX5 1 D (tyL cI cQ) A) (hret : ∀ (pc : Nat) (r : Int32) (u : Unit) (lv : List (Nat × Value)), decode cX5_nextSeed pc = .ok (.ireturn, 1) → post r → xG p l e (rmL 0 0 0 0) s mi args below meth co D A 1 Q 0 0 pc [.int r] [] lv) (hw : p_X5_nextSeed p1 post) : xG p l e (rmL 0 0 0 0) s mi args below meth co D A 1 Q 0 0 0 [] [] [(0, .int p1)] := by
  unfold p_X5_nextSeed at hw
  try dsimp only at hw
  show xG p l e (rmL 0 0 0 0) s mi args below meth co D A 1 Q 0 0 0 [] [] [(0, .int p1)]
  refine g_iload_n C dX5_nextSeed_0 0 rfl rfl ?_
  refine g_ldcw C dX5_nextSeed_1 ct_X5_276 rfl ?_
  refine g_imul C dX5_nextSeed_4 rfl ?_
  refine g_sipush (v := 12345) C dX5_nextSeed_5 (by decide) rfl ?_
  refine g_iadd C dX5_nextSeed_8 rfl ?_
  exact hret 9 ((p1 * (1103515245 : Int32)) + (12345 : Int32)) () _ dX5_nextSeed_9 hw
set_option maxRecDepth 100000 in
theorem c_X5_nextSeed (l : Launch) (D : va_G) (cI cQ : ClassId) (p1 : Int32) (post : Int32 → Prop) (sz : Nat) : Met l yX5_nextSeed (wsY yX5_nextSeed cX5_nextSeed 1 (some .int)) (rmL 0 0 0 0) (xP D (tyL cI cQ) [.int p1] [] sz (p_X5_nextSeed p1 post)) (xQi D (tyL cI cQ) (fun (r : Int32) (_ : Unit) => post r) (fun (u : Unit) => []) (va_A [].flatten sz)) 0 0 (va_A [].flatten sz) :=
  Met_i pn_X5 (Nat.le_of_ble_eq_true rfl) (fun p e s mi below meth co A Q _ C hret hw => w_X5_nextSeed p1 C hret hw)
theorem kS_X5_nextSeed : Cond.static yX5_nextSeed ∈ gTbl ∧ Cond.initialized yX5_nextSeed.cls ∈ gTbl ∧ Cond.code yX5_nextSeed cX5_nextSeed 1 (some .int) ∈ gTbl ∧ (yX5_nextSeed.cls ≠ "java/lang/invoke/MethodHandle" ∧ yX5_nextSeed.cls ≠ "java/lang/invoke/VarHandle" ∧ (parseMethodDescriptor yX5_nextSeed.desc).map (fun d => d.parameters.length) = some 1) := ⟨sm_X5_nextSeed, in_X5, cd_X5_nextSeed, (by decide +kernel)⟩
set_option maxRecDepth 100000 in
def p_X5_drawn (p1 : Int32) (p2 : Int32) (post : Int32 → Prop) : Prop := (((1 : Int32) ≤ p2 → ((¬ p2 = 0) ∧ post (((p1 &&& (2147483647 : Int32)) / (65536 : Int32)) - ((p1 &&& (2147483647 : Int32)) / (65536 : Int32)) / p2 * p2))) ∧ (¬ (1 : Int32) ≤ p2 → post (0 : Int32)))
set_option maxHeartbeats 4000000 in
set_option maxRecDepth 100000 in
theorem w_X5_drawn {p : Program} {l : Launch} {e : Env} {s : State} {mi : MethodId} {args : Array Value} {below : List Frame} {meth : Method} {co : Code} {D : va_G} {cI cQ : ClassId} {A : Nat → Prop} {Q : State → Prop} (p1 : Int32) (p2 : Int32) {post : Int32 → Prop} (C : xC p s mi args co cX5_drawn RX5 2 D (tyL cI cQ) A) (hret : ∀ (pc : Nat) (r : Int32) (u : Unit) (lv : List (Nat × Value)), decode cX5_drawn pc = .ok (.ireturn, 1) → post r → xG p l e (rmL 0 0 0 0) s mi args below meth co D A 2 Q 0 0 pc [.int r] [] lv) (hw : p_X5_drawn p1 p2 post) : xG p l e (rmL 0 0 0 0) s mi args below meth co D A 2 Q 0 0 0 [] [] [(0, .int p1), (1, .int p2)] := by
  unfold p_X5_drawn at hw
  try dsimp only at hw
  show xG p l e (rmL 0 0 0 0) s mi args below meth co D A 2 Q 0 0 0 [] [] [(0, .int p1), (1, .int p2)]
  refine g_iload_n C dX5_drawn_0 1 rfl rfl ?_
  refine g_iconst (v := 1) C dX5_drawn_1 rfl rfl ?_
  refine g_icmp_ge (tgt := 7) C dX5_drawn_2 (by decide) rfl hw (fun _ hw => ?_) (fun _ hw => ?_)
  · refine g_iload_n C dX5_drawn_7 0 rfl rfl ?_
    refine g_ldcw C dX5_drawn_8 ct_X5_277 rfl ?_
    refine g_iand C dX5_drawn_11 rfl ?_
    refine g_ldcw C dX5_drawn_12 ct_X5_278 rfl ?_
    refine g_idiv C dX5_drawn_15 (by decide) rfl ?_
    refine g_iload_n C dX5_drawn_16 1 rfl rfl ?_
    have hz17 := hw.1
    replace hw := hw.2
    refine g_irem C dX5_drawn_17 hz17 rfl ?_
    exact hret 18 (((p1 &&& (2147483647 : Int32)) / (65536 : Int32)) - ((p1 &&& (2147483647 : Int32)) / (65536 : Int32)) / p2 * p2) () _ dX5_drawn_18 hw
  · refine g_iconst (v := 0) C dX5_drawn_5 rfl rfl ?_
    exact hret 6 (0 : Int32) () _ dX5_drawn_6 hw
set_option maxRecDepth 100000 in
theorem c_X5_drawn (l : Launch) (D : va_G) (cI cQ : ClassId) (p1 : Int32) (p2 : Int32) (post : Int32 → Prop) (sz : Nat) : Met l yX5_drawn (wsY yX5_drawn cX5_drawn 2 (some .int)) (rmL 0 0 0 0) (xP D (tyL cI cQ) [.int p1, .int p2] [] sz (p_X5_drawn p1 p2 post)) (xQi D (tyL cI cQ) (fun (r : Int32) (_ : Unit) => post r) (fun (u : Unit) => []) (va_A [].flatten sz)) 0 0 (va_A [].flatten sz) :=
  Met_i pn_X5 (Nat.le_of_ble_eq_true rfl) (fun p e s mi below meth co A Q _ C hret hw => w_X5_drawn p1 p2 C hret hw)
theorem kS_X5_drawn : Cond.static yX5_drawn ∈ gTbl ∧ Cond.initialized yX5_drawn.cls ∈ gTbl ∧ Cond.code yX5_drawn cX5_drawn 2 (some .int) ∈ gTbl ∧ (yX5_drawn.cls ≠ "java/lang/invoke/MethodHandle" ∧ yX5_drawn.cls ≠ "java/lang/invoke/VarHandle" ∧ (parseMethodDescriptor yX5_drawn.desc).map (fun d => d.parameters.length) = some 2) := ⟨sm_X5_drawn, in_X5, cd_X5_drawn, (by decide +kernel)⟩
set_option maxRecDepth 100000 in
def p_X5_liveWeek (n : PT) (m : PT) (p1 : Int32) (post : Int32 → PT → Prop) : Prop := p_X5_think n m (fun (u1 : PT) => (fun (mv2 : PT) => lpN (fun (K6 : (Int32 × Int32 × PT) → Prop) (z6 : Int32 × Int32 × PT) => (fun (x3 : Int32) (x4 : Int32) (mv5 : PT) => jn (fun (z7 : Unit) => p_X3_pass mv5 (12 : Int32) (fun (u8 : PT) => (fun (mv9 : PT) => post x3 mv9) u8)) (fun J7 => (((3 : Int32) ≤ x4 → J7 ()) ∧ (¬ (3 : Int32) ≤ x4 → p_X3_houses n (fun (r10 : Int32) => ((r10 ≤ 0 → J7 ()) ∧ (¬ r10 ≤ 0 → p_X5_nextSeed x3 (fun (r11 : Int32) => p_X3_houses n (fun (r12 : Int32) => p_X5_drawn r11 r12 (fun (r13 : Int32) => p_X5_nextSeed r11 (fun (r14 : Int32) => p_X5_drawn r14 (40 : Int32) (fun (r15 : Int32) => p_X3_fill mv5 r13 r15 (fun (r16 : Int32) (u16 : PT) => (fun (mv17 : PT) => K6 (r14, (x4 + 1), mv17)) u16))))))))))))) z6.1 z6.2.1 z6.2.2) 1000 (p1, (0 : Int32), mv2)) u1)
set_option maxHeartbeats 4000000 in
set_option maxRecDepth 100000 in
theorem w_X5_liveWeek {p : Program} {l : Launch} {e : Env} {s : State} {mi : MethodId} {args : Array Value} {below : List Frame} {meth : Method} {co : Code} {D : va_G} {cI cQ : ClassId} {A : Nat → Prop} {Q : State → Prop} (x : Nat) (an : Nat → Nat) (am : Nat → Nat) (aq : Nat → Nat) (ap : Nat → Nat) (b : Nat → Nat → Nat) (al : Nat → Nat) (au : Nat → Nat) (re : Nat) (pq : Int32) (n : PT) (m : PT) (p1 : Int32) {post : Int32 → PT → Prop} (C : xC p s mi args co cX5_liveWeek RX5 5 D (tyL cI cQ) A) (hret : ∀ (pc : Nat) (r : Int32) (u : PT) (lv : List (Nat × Value)), decode cX5_liveWeek pc = .ok (.ireturn, 1) → post r u → xG p l e (rmL 4 0 0 92) s mi args below meth co D A 5 Q 0 0 pc [.int r] [gObj x an am aq ap al au re pq, gPar cI an n, gPar cI am u] lv) (hw : p_X5_liveWeek n m p1 post) : xG p l e (rmL 4 0 0 92) s mi args below meth co D A 5 Q 0 0 0 [] [gObj x an am aq ap al au re pq, gPar cI an n, gPar cI am m] [(0, .ref x), (1, .int p1)] := by
  unfold p_X5_liveWeek at hw
  try dsimp only at hw
  show xG p l e (rmL 4 0 0 92) s mi args below meth co D A 5 Q 0 0 0 [] [gObj x an am aq ap al au re pq, gPar cI an n, gPar cI am m] [(0, .ref x), (1, .int p1)]
  refine g_aload_n C dX5_liveWeek_0 0 rfl rfl ?_
  refine g_callVv (As := []) (gr := []) C (c_X5_think l D cI cQ x an am aq ap b al au re pq n m  _) dX5_liveWeek_1 ⟨ml_X5_137, kV_X5_think⟩ ⟨Nat.le_of_ble_eq_true rfl, Nat.le_of_ble_eq_true rfl⟩ ⟨Nat.le_refl _, Nat.le_refl _⟩ rfl rfl 0 0 rfl rfl [0, 1, 2] 3 rfl pmb_0_1_2 rfl rfl rfl (Nat.le_of_ble_eq_true rfl) rfl (fun (u : PT) => [gObj x an am aq ap al au re pq, gPar cI an n, gPar cI am u]) [0, 1, 2] 3 (fun _ => rfl) pmb_0_1_2 (fun _ => rfl) hw (fun u1 hw => ?_)
  obtain ⟨mv2, rfl⟩ : ∃ z, z = u1 := ⟨_, rfl⟩
  refine g_iload_n C dX5_liveWeek_4 1 rfl rfl ?_
  refine g_istore_n (v := p1) C dX5_liveWeek_5 rfl (Nat.le_of_ble_eq_true rfl) (lv' := [(2, .int p1), (0, .ref x), (1, .int p1)]) rfl rfl ?_
  refine g_iconst (v := 0) C dX5_liveWeek_6 rfl rfl ?_
  refine g_istore_n (v := (0 : Int32)) C dX5_liveWeek_7 rfl (Nat.le_of_ble_eq_true rfl) (lv' := [(3, .int (0 : Int32)), (2, .int p1), (0, .ref x), (1, .int p1)]) rfl rfl ?_
  refine g_lv [2, 1, 0] rfl ?_
  refine lpN_ind (G := (fun (z6 : Int32 × Int32 × PT) => (fun (x3 : Int32) (x4 : Int32) (mv5 : PT) => xG p l e (rmL 4 0 0 92) s mi args below meth co D A 5 Q 0 0 8 [] [gObj x an am aq ap al au re pq, gPar cI an n, gPar cI am mv5] [(0, .ref x), (2, .int x3), (3, .int x4)]) z6.1 z6.2.1 z6.2.2)) ?_ 1000 (p1, (0 : Int32), mv2) hw
  rintro K6 ⟨x3, x4, mv5⟩ ih6 hw
  show xG p l e (rmL 4 0 0 92) s mi args below meth co D A 5 Q 0 0 8 [] [gObj x an am aq ap al au re pq, gPar cI an n, gPar cI am mv5] [(0, .ref x), (2, .int x3), (3, .int x4)]
  refine g_iload_n C dX5_liveWeek_8 2 rfl rfl ?_
  refine g_iconst (v := 3) C dX5_liveWeek_9 rfl rfl ?_
  refine jn_el hw (fun (z7 : Unit) => xG p l e (rmL 4 0 0 92) s mi args below meth co D A 5 Q 0 0 68 [] [gObj x an am aq ap al au re pq, gPar cI an n, gPar cI am mv5] [(0, .ref x), (2, .int x3)]) ?_ ?_
  · rintro _ hw
    show xG p l e (rmL 4 0 0 92) s mi args below meth co D A 5 Q 0 0 68 [] [gObj x an am aq ap al au re pq, gPar cI an n, gPar cI am mv5] [(0, .ref x), (2, .int x3)]
    refine g_aload_n C dX5_liveWeek_68 0 rfl rfl ?_
    refine g_get (v := .ref (am 0)) (ci := 4) C dX5_liveWeek_69 inw_X5 rfl 0 0 1 rfl rfl (Nat.le_of_ble_eq_true rfl) rfl fl_X5_16 rfl rfl ?_
    refine g_bipush (v := 12) C dX5_liveWeek_72 (by decide) rfl ?_
    refine g_callVv (As := [.int (12 : Int32)]) (gr := [gObj x an am aq ap al au re pq, gPar cI an n]) C (c_X3_pass l D cI cQ am mv5 (12 : Int32) _) dX5_liveWeek_74 ⟨ml_X5_128, kV_X3_pass⟩ ⟨Nat.le_of_ble_eq_true rfl, Nat.le_of_ble_eq_true rfl⟩ ⟨Nat.le_refl _, Nat.le_refl _⟩ rfl rfl 0 0 rfl rfl [2, 0, 1] 3 rfl pmb_2_0_1 rfl rfl rfl (Nat.le_of_ble_eq_true rfl) rfl (fun (u : PT) => [gObj x an am aq ap al au re pq, gPar cI an n, gPar cI am u]) [1, 2, 0] 3 (fun _ => rfl) pmb_1_2_0 (fun _ => rfl) hw (fun u8 hw => ?_)
    obtain ⟨mv9, rfl⟩ : ∃ z, z = u8 := ⟨_, rfl⟩
    refine g_iload_n C dX5_liveWeek_77 1 rfl rfl ?_
    exact hret 78 x3 mv9 _ dX5_liveWeek_78 hw
  · intro J7 hJ7 hw
    refine g_icmp_ge (tgt := 68) C dX5_liveWeek_10 (by decide) rfl hw (fun _ hw => ?_) (fun _ hw => ?_)
    · refine g_lv [0, 1] rfl ?_
      exact hJ7 () hw
    · refine g_aload_n C dX5_liveWeek_13 0 rfl rfl ?_
      refine g_get (v := .ref (an 0)) (ci := 4) C dX5_liveWeek_14 inw_X5 rfl 0 0 0 rfl rfl (Nat.le_of_ble_eq_true rfl) rfl fl_X5_10 rfl rfl ?_
      refine g_callVi (As := []) (gr := [gObj x an am aq ap al au re pq, gPar cI am mv5]) C (c_X3_houses l D cI cQ an n  _) dX5_liveWeek_17 ⟨ml_X5_103, kV_X3_houses⟩ ⟨Nat.le_of_ble_eq_true rfl, Nat.le_of_ble_eq_true rfl⟩ ⟨Nat.le_refl _, Nat.le_refl _⟩ rfl rfl 0 0 rfl rfl [1, 0, 2] 3 rfl pmb_1_0_2 rfl rfl rfl (Nat.le_of_ble_eq_true rfl) rfl (fun (u : Unit) => [gObj x an am aq ap al au re pq, gPar cI an n, gPar cI am mv5]) [1, 0, 2] 3 (fun _ => rfl) pmb_1_0_2 (fun _ => rfl) hw (fun r10 u10 hw => ?_)
      refine g_if_le (tgt := 68) C dX5_liveWeek_20 (by decide) rfl hw (fun _ hw => ?_) (fun _ hw => ?_)
      · refine g_lv [0, 1] rfl ?_
        exact hJ7 () hw
      · refine g_iload_n C dX5_liveWeek_23 1 rfl rfl ?_
        refine g_callSi (As := [.int x3]) (gr := [gObj x an am aq ap al au re pq, gPar cI an n, gPar cI am mv5]) C (c_X5_nextSeed l D cI cQ   x3 _) dX5_liveWeek_24 ⟨ml_X5_270, kS_X5_nextSeed⟩ ⟨Nat.le_of_ble_eq_true rfl, Nat.le_of_ble_eq_true rfl⟩ ⟨Nat.le_refl _, Nat.le_refl _⟩ [0, 1, 2] 3 rfl pmb_0_1_2 rfl rfl rfl (Nat.le_of_ble_eq_true rfl) rfl (fun (u : Unit) => [gObj x an am aq ap al au re pq, gPar cI an n, gPar cI am mv5]) [0, 1, 2] 3 (fun _ => rfl) pmb_0_1_2 (fun _ => rfl) hw (fun r11 u11 hw => ?_)
        refine g_istore_n (v := r11) C dX5_liveWeek_27 rfl (Nat.le_of_ble_eq_true rfl) (lv' := [(2, .int r11), (0, .ref x), (3, .int x4)]) rfl rfl ?_
        refine g_iload_n C dX5_liveWeek_28 0 rfl rfl ?_
        refine g_aload_n C dX5_liveWeek_29 1 rfl rfl ?_
        refine g_get (v := .ref (an 0)) (ci := 4) C dX5_liveWeek_30 inw_X5 rfl 0 0 0 rfl rfl (Nat.le_of_ble_eq_true rfl) rfl fl_X5_10 rfl rfl ?_
        refine g_callVi (As := []) (gr := [gObj x an am aq ap al au re pq, gPar cI am mv5]) C (c_X3_houses l D cI cQ an n  _) dX5_liveWeek_33 ⟨ml_X5_103, kV_X3_houses⟩ ⟨Nat.le_of_ble_eq_true rfl, Nat.le_of_ble_eq_true rfl⟩ ⟨Nat.le_refl _, Nat.le_refl _⟩ rfl rfl 0 0 rfl rfl [1, 0, 2] 3 rfl pmb_1_0_2 rfl rfl rfl (Nat.le_of_ble_eq_true rfl) rfl (fun (u : Unit) => [gObj x an am aq ap al au re pq, gPar cI an n, gPar cI am mv5]) [1, 0, 2] 3 (fun _ => rfl) pmb_1_0_2 (fun _ => rfl) hw (fun r12 u12 hw => ?_)
        refine g_callSi (As := [.int r11, .int r12]) (gr := [gObj x an am aq ap al au re pq, gPar cI an n, gPar cI am mv5]) C (c_X5_drawn l D cI cQ   r11 r12 _) dX5_liveWeek_36 ⟨ml_X5_273, kS_X5_drawn⟩ ⟨Nat.le_of_ble_eq_true rfl, Nat.le_of_ble_eq_true rfl⟩ ⟨Nat.le_refl _, Nat.le_refl _⟩ [0, 1, 2] 3 rfl pmb_0_1_2 rfl rfl rfl (Nat.le_of_ble_eq_true rfl) rfl (fun (u : Unit) => [gObj x an am aq ap al au re pq, gPar cI an n, gPar cI am mv5]) [0, 1, 2] 3 (fun _ => rfl) pmb_0_1_2 (fun _ => rfl) hw (fun r13 u13 hw => ?_)
        refine g_istore (v := r13) C dX5_liveWeek_39 rfl (Nat.le_of_ble_eq_true rfl) (lv' := [(4, .int r13), (2, .int r11), (0, .ref x), (3, .int x4)]) rfl rfl ?_
        refine g_iload_n C dX5_liveWeek_41 1 rfl rfl ?_
        refine g_callSi (As := [.int r11]) (gr := [gObj x an am aq ap al au re pq, gPar cI an n, gPar cI am mv5]) C (c_X5_nextSeed l D cI cQ   r11 _) dX5_liveWeek_42 ⟨ml_X5_270, kS_X5_nextSeed⟩ ⟨Nat.le_of_ble_eq_true rfl, Nat.le_of_ble_eq_true rfl⟩ ⟨Nat.le_refl _, Nat.le_refl _⟩ [0, 1, 2] 3 rfl pmb_0_1_2 rfl rfl rfl (Nat.le_of_ble_eq_true rfl) rfl (fun (u : Unit) => [gObj x an am aq ap al au re pq, gPar cI an n, gPar cI am mv5]) [0, 1, 2] 3 (fun _ => rfl) pmb_0_1_2 (fun _ => rfl) hw (fun r14 u14 hw => ?_)
        refine g_istore_n (v := r14) C dX5_liveWeek_45 rfl (Nat.le_of_ble_eq_true rfl) (lv' := [(2, .int r14), (4, .int r13), (0, .ref x), (3, .int x4)]) rfl rfl ?_
        refine g_aload_n C dX5_liveWeek_46 2 rfl rfl ?_
        refine g_get (v := .ref (am 0)) (ci := 4) C dX5_liveWeek_47 inw_X5 rfl 0 0 1 rfl rfl (Nat.le_of_ble_eq_true rfl) rfl fl_X5_16 rfl rfl ?_
        refine g_iload C dX5_liveWeek_50 1 rfl rfl ?_
        refine g_iload_n C dX5_liveWeek_52 0 rfl rfl ?_
        refine g_bipush (v := 40) C dX5_liveWeek_53 (by decide) rfl ?_
        refine g_callSi (As := [.int r14, .int (40 : Int32)]) (gr := [gObj x an am aq ap al au re pq, gPar cI an n, gPar cI am mv5]) C (c_X5_drawn l D cI cQ   r14 (40 : Int32) _) dX5_liveWeek_55 ⟨ml_X5_273, kS_X5_drawn⟩ ⟨Nat.le_of_ble_eq_true rfl, Nat.le_of_ble_eq_true rfl⟩ ⟨Nat.le_refl _, Nat.le_refl _⟩ [0, 1, 2] 3 rfl pmb_0_1_2 rfl rfl rfl (Nat.le_of_ble_eq_true rfl) rfl (fun (u : Unit) => [gObj x an am aq ap al au re pq, gPar cI an n, gPar cI am mv5]) [0, 1, 2] 3 (fun _ => rfl) pmb_0_1_2 (fun _ => rfl) hw (fun r15 u15 hw => ?_)
        refine g_callVi (As := [.int r13, .int r15]) (gr := [gObj x an am aq ap al au re pq, gPar cI an n]) C (c_X3_fill l D cI cQ am mv5 r13 r15 _) dX5_liveWeek_58 ⟨ml_X5_116, kV_X3_fill⟩ ⟨Nat.le_of_ble_eq_true rfl, Nat.le_of_ble_eq_true rfl⟩ ⟨Nat.le_refl _, Nat.le_refl _⟩ rfl rfl 0 0 rfl rfl [2, 0, 1] 3 rfl pmb_2_0_1 rfl rfl rfl (Nat.le_of_ble_eq_true rfl) rfl (fun (u : PT) => [gObj x an am aq ap al au re pq, gPar cI an n, gPar cI am u]) [1, 2, 0] 3 (fun _ => rfl) pmb_1_2_0 (fun _ => rfl) hw (fun r16 u16 hw => ?_)
        obtain ⟨mv17, rfl⟩ : ∃ z, z = u16 := ⟨_, rfl⟩
        refine g_pop C dX5_liveWeek_61 rfl rfl ?_
        refine g_iinc (v := (x4 + 1)) (j := 3) C dX5_liveWeek_62 rfl rfl (Nat.le_of_ble_eq_true rfl) (lv' := [(3, .int (x4 + 1)), (2, .int r14), (4, .int r13), (0, .ref x)]) rfl rfl ?_
        refine g_goto (pc' := 8) C dX5_liveWeek_65 (by decide) rfl ?_
        refine g_lv [3, 1, 0] rfl ?_
        exact ih6 (r14, (x4 + 1), mv17) hw
set_option maxRecDepth 100000 in
theorem c_X5_liveWeek (l : Launch) (D : va_G) (cI cQ : ClassId) (x : Nat) (an : Nat → Nat) (am : Nat → Nat) (aq : Nat → Nat) (ap : Nat → Nat) (b : Nat → Nat → Nat) (al : Nat → Nat) (au : Nat → Nat) (re : Nat) (pq : Int32) (n : PT) (m : PT) (p1 : Int32) (post : Int32 → PT → Prop) (sz : Nat) : Met l yX5_liveWeek (wsY yX5_liveWeek cX5_liveWeek 5 (some .int)) (rmL 4 0 0 92) (xP D (tyL cI cQ) [.ref x, .int p1] [gObj x an am aq ap al au re pq, gPar cI an n, gPar cI am m] sz (p_X5_liveWeek n m p1 post)) (xQi D (tyL cI cQ) post (fun (u : PT) => [gObj x an am aq ap al au re pq, gPar cI an n, gPar cI am u]) (va_A [gObj x an am aq ap al au re pq, gPar cI an n, gPar cI am m].flatten sz)) 0 0 (va_A [gObj x an am aq ap al au re pq, gPar cI an n, gPar cI am m].flatten sz) :=
  Met_i pn_X5 (Nat.le_of_ble_eq_true rfl) (fun p e s mi below meth co A Q _ C hret hw => w_X5_liveWeek x an am aq ap b al au re pq n m p1 C hret hw)
theorem kV_X5_liveWeek : Cond.instanceMethod yX5_liveWeek ∈ gTbl ∧ Cond.selects yX5_liveWeek.cls yX5_liveWeek yX5_liveWeek ∈ gTbl ∧ Cond.initialized yX5_liveWeek.cls ∈ gTbl ∧ Cond.code yX5_liveWeek cX5_liveWeek 5 (some .int) ∈ gTbl ∧ (yX5_liveWeek.cls ≠ "java/lang/invoke/MethodHandle" ∧ yX5_liveWeek.cls ≠ "java/lang/invoke/VarHandle" ∧ (parseMethodDescriptor yX5_liveWeek.desc).map (fun d => d.parameters.length) = some 1) := ⟨im_X5_liveWeek, sl_X5_liveWeek, in_X5, cd_X5_liveWeek, (by decide +kernel)⟩
set_option maxRecDepth 100000 in
def p_X5_lots (n : PT) (m : PT) (rf : F1) (p1 : Int32) (p2 : Int32) (p3 : Int32) (post : Int32 → PT × F1 → Prop) : Prop := p_X5_outside p1 (1 : Int32) (20 : Int32) (fun (r1 : Int32) => ((r1 = 0 → jn (fun (z2 : Unit) => lpN (fun (K7 : (Int32 × Int32 × Int32 × PT) → Prop) (z7 : Int32 × Int32 × Int32 × PT) => (fun (x3 : Int32) (x4 : Int32) (x5 : Int32) (mv6 : PT) => ((p1 ≤ x5 → post x4 (mv6, rf)) ∧ (¬ p1 ≤ x5 → p_X5_liveWeek n mv6 x3 (fun (r8 : Int32) (u8 : PT) => (fun (mv9 : PT) => jn (fun (z11 : Int32) => (fun (x10 : Int32) => nm ((x4 + x10) : Int32) (fun (v12 : Int32) => K7 (r8, v12, (x5 + 1), mv9))) z11) (fun J11 => ((p3 = 0 → p_X3_inCup mv9 (fun (r14 : Int32) => p_X3_inCup n (fun (r15 : Int32) => J11 (r14 - r15)))) ∧ (¬ p3 = 0 → p_X3_holdsInAll mv9 (fun (r13 : Int32) => J11 r13))))) u8)))) z7.1 z7.2.1 z7.2.2.1 z7.2.2.2) 1000 (p2, (0 : Int32), (0 : Int32), m)) (fun J2 => ((p3 = 0 → J2 ()) ∧ (¬ p3 = 0 → ((p3 = (1 : Int32) → J2 ()) ∧ (¬ p3 = (1 : Int32) → p_X5_refuse rf (-2 : Int32) (fun (r16 : Int32) (u16 : F1) => (fun (rfv17 : F1) => post r16 (m, rfv17)) u16))))))) ∧ (¬ r1 = 0 → p_X5_refuse rf r1 (fun (r18 : Int32) (u18 : F1) => (fun (rfv19 : F1) => post r18 (m, rfv19)) u18))))
set_option maxHeartbeats 4000000 in
set_option maxRecDepth 100000 in
theorem w_X5_lots {p : Program} {l : Launch} {e : Env} {s : State} {mi : MethodId} {args : Array Value} {below : List Frame} {meth : Method} {co : Code} {D : va_G} {cI cQ : ClassId} {A : Nat → Prop} {Q : State → Prop} (x : Nat) (an : Nat → Nat) (am : Nat → Nat) (aq : Nat → Nat) (ap : Nat → Nat) (b : Nat → Nat → Nat) (al : Nat → Nat) (au : Nat → Nat) (re : Nat) (pq : Int32) (n : PT) (m : PT) (rf : F1) (p1 : Int32) (p2 : Int32) (p3 : Int32) {post : Int32 → PT × F1 → Prop} (C : xC p s mi args co cX5_lots RX5 8 D (tyL cI cQ) A) (hret : ∀ (pc : Nat) (r : Int32) (u : PT × F1) (lv : List (Nat × Value)), decode cX5_lots pc = .ok (.ireturn, 1) → post r u → xG p l e (rmL 5 0 0 116) s mi args below meth co D A 8 Q 0 0 pc [.int r] [gObj x an am aq ap al au re pq, gPar cI an n, gPar cI am u.1, gA cI re 7 u.2] lv) (hw : p_X5_lots n m rf p1 p2 p3 post) : xG p l e (rmL 5 0 0 116) s mi args below meth co D A 8 Q 0 0 0 [] [gObj x an am aq ap al au re pq, gPar cI an n, gPar cI am m, gA cI re 7 rf] [(0, .ref x), (1, .int p1), (2, .int p2), (3, .int p3)] := by
  unfold p_X5_lots at hw
  try dsimp only at hw
  show xG p l e (rmL 5 0 0 116) s mi args below meth co D A 8 Q 0 0 0 [] [gObj x an am aq ap al au re pq, gPar cI an n, gPar cI am m, gA cI re 7 rf] [(0, .ref x), (1, .int p1), (2, .int p2), (3, .int p3)]
  refine g_iload_n C dX5_lots_0 1 rfl rfl ?_
  refine g_iconst (v := 1) C dX5_lots_1 rfl rfl ?_
  refine g_bipush (v := 20) C dX5_lots_2 (by decide) rfl ?_
  refine g_callSi (As := [.int p1, .int (1 : Int32), .int (20 : Int32)]) (gr := [gObj x an am aq ap al au re pq, gPar cI an n, gPar cI am m, gA cI re 7 rf]) C (c_X5_outside l D cI cQ   p1 (1 : Int32) (20 : Int32) _) dX5_lots_4 ⟨ml_X5_47, kS_X5_outside⟩ ⟨Nat.le_of_ble_eq_true rfl, Nat.le_of_ble_eq_true rfl⟩ ⟨Nat.le_refl _, Nat.le_refl _⟩ [0, 1, 2, 3] 4 rfl pmb_0_1_2_3 rfl rfl rfl (Nat.le_of_ble_eq_true rfl) rfl (fun (u : Unit) => [gObj x an am aq ap al au re pq, gPar cI an n, gPar cI am m, gA cI re 7 rf]) [0, 1, 2, 3] 4 (fun _ => rfl) pmb_0_1_2_3 (fun _ => rfl) hw (fun r1 u1 hw => ?_)
  refine g_istore (v := r1) C dX5_lots_7 rfl (Nat.le_of_ble_eq_true rfl) (lv' := [(4, .int r1), (0, .ref x), (1, .int p1), (2, .int p2), (3, .int p3)]) rfl rfl ?_
  refine g_iload C dX5_lots_9 0 rfl rfl ?_
  refine g_if_eq (tgt := 21) C dX5_lots_11 (by decide) rfl hw (fun _ hw => ?_) (fun _ hw => ?_)
  · refine g_iload_n C dX5_lots_21 4 rfl rfl ?_
    refine jn_el hw (fun (z2 : Unit) => xG p l e (rmL 5 0 0 116) s mi args below meth co D A 8 Q 0 0 37 [] [gObj x an am aq ap al au re pq, gPar cI an n, gPar cI am m, gA cI re 7 rf] [(0, .ref x), (1, .int p1), (2, .int p2), (3, .int p3)]) ?_ ?_
    · rintro _ hw
      show xG p l e (rmL 5 0 0 116) s mi args below meth co D A 8 Q 0 0 37 [] [gObj x an am aq ap al au re pq, gPar cI an n, gPar cI am m, gA cI re 7 rf] [(0, .ref x), (1, .int p1), (2, .int p2), (3, .int p3)]
      refine g_iload_n C dX5_lots_37 2 rfl rfl ?_
      refine g_istore (v := p2) C dX5_lots_38 rfl (Nat.le_of_ble_eq_true rfl) (lv' := [(5, .int p2), (0, .ref x), (1, .int p1), (2, .int p2), (3, .int p3)]) rfl rfl ?_
      refine g_iconst (v := 0) C dX5_lots_40 rfl rfl ?_
      refine g_istore (v := (0 : Int32)) C dX5_lots_41 rfl (Nat.le_of_ble_eq_true rfl) (lv' := [(6, .int (0 : Int32)), (5, .int p2), (0, .ref x), (1, .int p1), (2, .int p2), (3, .int p3)]) rfl rfl ?_
      refine g_iconst (v := 0) C dX5_lots_43 rfl rfl ?_
      refine g_istore (v := (0 : Int32)) C dX5_lots_44 rfl (Nat.le_of_ble_eq_true rfl) (lv' := [(7, .int (0 : Int32)), (6, .int (0 : Int32)), (5, .int p2), (0, .ref x), (1, .int p1), (2, .int p2), (3, .int p3)]) rfl rfl ?_
      refine g_lv [3, 4, 6, 2, 1, 0] rfl ?_
      refine lpN_ind (G := (fun (z7 : Int32 × Int32 × Int32 × PT) => (fun (x3 : Int32) (x4 : Int32) (x5 : Int32) (mv6 : PT) => xG p l e (rmL 5 0 0 116) s mi args below meth co D A 8 Q 0 0 46 [] [gObj x an am aq ap al au re pq, gPar cI an n, gPar cI am mv6, gA cI re 7 rf] [(0, .ref x), (1, .int p1), (3, .int p3), (5, .int x3), (6, .int x4), (7, .int x5)]) z7.1 z7.2.1 z7.2.2.1 z7.2.2.2)) ?_ 1000 (p2, (0 : Int32), (0 : Int32), m) hw
      rintro K7 ⟨x3, x4, x5, mv6⟩ ih7 hw
      show xG p l e (rmL 5 0 0 116) s mi args below meth co D A 8 Q 0 0 46 [] [gObj x an am aq ap al au re pq, gPar cI an n, gPar cI am mv6, gA cI re 7 rf] [(0, .ref x), (1, .int p1), (3, .int p3), (5, .int x3), (6, .int x4), (7, .int x5)]
      refine g_iload C dX5_lots_46 5 rfl rfl ?_
      refine g_iload_n C dX5_lots_48 1 rfl rfl ?_
      refine g_icmp_ge (tgt := 100) C dX5_lots_49 (by decide) rfl hw (fun _ hw => ?_) (fun _ hw => ?_)
      · refine g_iload C dX5_lots_100 4 rfl rfl ?_
        exact hret 102 x4 (mv6, rf) _ dX5_lots_102 hw
      · refine g_aload_n C dX5_lots_52 0 rfl rfl ?_
        refine g_iload C dX5_lots_53 3 rfl rfl ?_
        refine g_callVi (As := [.int x3]) (gr := [gA cI re 7 rf]) C (c_X5_liveWeek l D cI cQ x an am aq ap b al au re pq n mv6 x3 _) dX5_lots_55 ⟨ml_X5_229, kV_X5_liveWeek⟩ ⟨Nat.le_of_ble_eq_true rfl, Nat.le_of_ble_eq_true rfl⟩ ⟨Nat.le_refl _, Nat.le_refl _⟩ rfl rfl 0 0 rfl rfl [0, 1, 2, 3] 4 rfl pmb_0_1_2_3 rfl rfl rfl (Nat.le_of_ble_eq_true rfl) rfl (fun (u : PT) => [gObj x an am aq ap al au re pq, gPar cI an n, gPar cI am u, gA cI re 7 rf]) [0, 1, 2, 3] 4 (fun _ => rfl) pmb_0_1_2_3 (fun _ => rfl) hw (fun r8 u8 hw => ?_)
        obtain ⟨mv9, rfl⟩ : ∃ z, z = u8 := ⟨_, rfl⟩
        refine g_istore (v := r8) C dX5_lots_58 rfl (Nat.le_of_ble_eq_true rfl) (lv' := [(5, .int r8), (0, .ref x), (1, .int p1), (3, .int p3), (6, .int x4), (7, .int x5)]) rfl rfl ?_
        refine g_iload C dX5_lots_60 4 rfl rfl ?_
        refine g_iload_n C dX5_lots_62 3 rfl rfl ?_
        refine jn_el hw (fun (z11 : Int32) => (fun (x10 : Int32) => xG p l e (rmL 5 0 0 116) s mi args below meth co D A 8 Q 0 0 91 [.int x10, .int x4] [gObj x an am aq ap al au re pq, gPar cI an n, gPar cI am mv9, gA cI re 7 rf] [(0, .ref x), (1, .int p1), (3, .int p3), (5, .int r8), (7, .int x5)]) z11) ?_ ?_
        · rintro x10 hw
          show xG p l e (rmL 5 0 0 116) s mi args below meth co D A 8 Q 0 0 91 [.int x10, .int x4] [gObj x an am aq ap al au re pq, gPar cI an n, gPar cI am mv9, gA cI re 7 rf] [(0, .ref x), (1, .int p1), (3, .int p3), (5, .int r8), (7, .int x5)]
          refine g_iadd C dX5_lots_91 rfl ?_
          refine nm_el hw (fun v12 ev12 hw => ?_)
          refine g_istore (v := v12) C dX5_lots_92 ev12.symm (Nat.le_of_ble_eq_true rfl) (lv' := [(6, .int v12), (0, .ref x), (1, .int p1), (3, .int p3), (5, .int r8), (7, .int x5)]) rfl rfl ?_
          refine g_iinc (v := (x5 + 1)) (j := 5) C dX5_lots_94 rfl rfl (Nat.le_of_ble_eq_true rfl) (lv' := [(7, .int (x5 + 1)), (6, .int v12), (0, .ref x), (1, .int p1), (3, .int p3), (5, .int r8)]) rfl rfl ?_
          refine g_goto (pc' := 46) C dX5_lots_97 (by decide) rfl ?_
          refine g_lv [2, 3, 4, 5, 1, 0] rfl ?_
          exact ih7 (r8, v12, (x5 + 1), mv9) hw
        · intro J11 hJ11 hw
          refine g_if_ne (tgt := 84) C dX5_lots_63 (by decide) rfl hw (fun _ hw => ?_) (fun _ hw => ?_)
          · refine g_aload_n C dX5_lots_84 1 rfl rfl ?_
            refine g_get (v := .ref (am 0)) (ci := 4) C dX5_lots_85 inw_X5 rfl 0 0 1 rfl rfl (Nat.le_of_ble_eq_true rfl) rfl fl_X5_16 rfl rfl ?_
            refine g_callVi (As := []) (gr := [gObj x an am aq ap al au re pq, gPar cI an n, gA cI re 7 rf]) C (c_X3_holdsInAll l D cI cQ am mv9  _) dX5_lots_88 ⟨ml_X5_140, kV_X3_holdsInAll⟩ ⟨Nat.le_of_ble_eq_true rfl, Nat.le_of_ble_eq_true rfl⟩ ⟨Nat.le_refl _, Nat.le_refl _⟩ rfl rfl 0 0 rfl rfl [2, 0, 1, 3] 4 rfl pmb_2_0_1_3 rfl rfl rfl (Nat.le_of_ble_eq_true rfl) rfl (fun (u : Unit) => [gObj x an am aq ap al au re pq, gPar cI an n, gPar cI am mv9, gA cI re 7 rf]) [1, 2, 0, 3] 4 (fun _ => rfl) pmb_1_2_0_3 (fun _ => rfl) hw (fun r13 u13 hw => ?_)
            refine g_lv [1, 2, 3, 0, 5] rfl ?_
            exact hJ11 r13 hw
          · refine g_aload_n C dX5_lots_66 1 rfl rfl ?_
            refine g_get (v := .ref (am 0)) (ci := 4) C dX5_lots_67 inw_X5 rfl 0 0 1 rfl rfl (Nat.le_of_ble_eq_true rfl) rfl fl_X5_16 rfl rfl ?_
            refine g_callVi (As := []) (gr := [gObj x an am aq ap al au re pq, gPar cI an n, gA cI re 7 rf]) C (c_X3_inCup l D cI cQ am mv9  _) dX5_lots_70 ⟨ml_X5_119, kV_X3_inCup⟩ ⟨Nat.le_of_ble_eq_true rfl, Nat.le_of_ble_eq_true rfl⟩ ⟨Nat.le_refl _, Nat.le_refl _⟩ rfl rfl 0 0 rfl rfl [2, 0, 1, 3] 4 rfl pmb_2_0_1_3 rfl rfl rfl (Nat.le_of_ble_eq_true rfl) rfl (fun (u : Unit) => [gObj x an am aq ap al au re pq, gPar cI an n, gPar cI am mv9, gA cI re 7 rf]) [1, 2, 0, 3] 4 (fun _ => rfl) pmb_1_2_0_3 (fun _ => rfl) hw (fun r14 u14 hw => ?_)
            refine g_aload_n C dX5_lots_73 1 rfl rfl ?_
            refine g_get (v := .ref (an 0)) (ci := 4) C dX5_lots_74 inw_X5 rfl 0 0 0 rfl rfl (Nat.le_of_ble_eq_true rfl) rfl fl_X5_10 rfl rfl ?_
            refine g_callVi (As := []) (gr := [gObj x an am aq ap al au re pq, gPar cI am mv9, gA cI re 7 rf]) C (c_X3_inCup l D cI cQ an n  _) dX5_lots_77 ⟨ml_X5_119, kV_X3_inCup⟩ ⟨Nat.le_of_ble_eq_true rfl, Nat.le_of_ble_eq_true rfl⟩ ⟨Nat.le_refl _, Nat.le_refl _⟩ rfl rfl 0 0 rfl rfl [1, 0, 2, 3] 4 rfl pmb_1_0_2_3 rfl rfl rfl (Nat.le_of_ble_eq_true rfl) rfl (fun (u : Unit) => [gObj x an am aq ap al au re pq, gPar cI an n, gPar cI am mv9, gA cI re 7 rf]) [1, 0, 2, 3] 4 (fun _ => rfl) pmb_1_0_2_3 (fun _ => rfl) hw (fun r15 u15 hw => ?_)
            refine g_isub C dX5_lots_80 rfl ?_
            refine g_goto (pc' := 91) C dX5_lots_81 (by decide) rfl ?_
            refine g_lv [1, 2, 3, 0, 5] rfl ?_
            exact hJ11 (r14 - r15) hw
    · intro J2 hJ2 hw
      refine g_if_eq (tgt := 37) C dX5_lots_22 (by decide) rfl hw (fun _ hw => ?_) (fun _ hw => ?_)
      · refine g_lv [1, 2, 3, 4] rfl ?_
        exact hJ2 () hw
      · refine g_iload_n C dX5_lots_25 4 rfl rfl ?_
        refine g_iconst (v := 1) C dX5_lots_26 rfl rfl ?_
        refine g_icmp_eq (tgt := 37) C dX5_lots_27 (by decide) rfl hw (fun _ hw => ?_) (fun _ hw => ?_)
        · refine g_lv [1, 2, 3, 4] rfl ?_
          exact hJ2 () hw
        · refine g_aload_n C dX5_lots_30 1 rfl rfl ?_
          refine g_bipush (v := -2) C dX5_lots_31 (by decide) rfl ?_
          refine g_callVi (As := [.int (-2 : Int32)]) (gr := [gPar cI an n, gPar cI am m]) C (c_X5_refuse l D cI cQ x an am aq ap b al au re pq rf (-2 : Int32) _) dX5_lots_33 ⟨ml_X5_51, kV_X5_refuse⟩ ⟨Nat.le_of_ble_eq_true rfl, Nat.le_of_ble_eq_true rfl⟩ ⟨Nat.le_refl _, Nat.le_refl _⟩ rfl rfl 0 0 rfl rfl [0, 3, 1, 2] 4 rfl pmb_0_3_1_2 rfl rfl rfl (Nat.le_of_ble_eq_true rfl) rfl (fun (u : F1) => [gObj x an am aq ap al au re pq, gPar cI an n, gPar cI am m, gA cI re 7 u]) [0, 2, 3, 1] 4 (fun _ => rfl) pmb_0_2_3_1 (fun _ => rfl) hw (fun r16 u16 hw => ?_)
          obtain ⟨rfv17, rfl⟩ : ∃ z, z = u16 := ⟨_, rfl⟩
          exact hret 36 r16 (m, rfv17) _ dX5_lots_36 hw
  · refine g_aload_n C dX5_lots_14 1 rfl rfl ?_
    refine g_iload C dX5_lots_15 0 rfl rfl ?_
    refine g_callVi (As := [.int r1]) (gr := [gPar cI an n, gPar cI am m]) C (c_X5_refuse l D cI cQ x an am aq ap b al au re pq rf r1 _) dX5_lots_17 ⟨ml_X5_51, kV_X5_refuse⟩ ⟨Nat.le_of_ble_eq_true rfl, Nat.le_of_ble_eq_true rfl⟩ ⟨Nat.le_refl _, Nat.le_refl _⟩ rfl rfl 0 0 rfl rfl [0, 3, 1, 2] 4 rfl pmb_0_3_1_2 rfl rfl rfl (Nat.le_of_ble_eq_true rfl) rfl (fun (u : F1) => [gObj x an am aq ap al au re pq, gPar cI an n, gPar cI am m, gA cI re 7 u]) [0, 2, 3, 1] 4 (fun _ => rfl) pmb_0_2_3_1 (fun _ => rfl) hw (fun r18 u18 hw => ?_)
    obtain ⟨rfv19, rfl⟩ : ∃ z, z = u18 := ⟨_, rfl⟩
    exact hret 20 r18 (m, rfv19) _ dX5_lots_20 hw
set_option maxRecDepth 100000 in
theorem c_X5_lots (l : Launch) (D : va_G) (cI cQ : ClassId) (x : Nat) (an : Nat → Nat) (am : Nat → Nat) (aq : Nat → Nat) (ap : Nat → Nat) (b : Nat → Nat → Nat) (al : Nat → Nat) (au : Nat → Nat) (re : Nat) (pq : Int32) (n : PT) (m : PT) (rf : F1) (p1 : Int32) (p2 : Int32) (p3 : Int32) (post : Int32 → PT × F1 → Prop) (sz : Nat) : Met l yX5_lots (wsY yX5_lots cX5_lots 8 (some .int)) (rmL 5 0 0 116) (xP D (tyL cI cQ) [.ref x, .int p1, .int p2, .int p3] [gObj x an am aq ap al au re pq, gPar cI an n, gPar cI am m, gA cI re 7 rf] sz (p_X5_lots n m rf p1 p2 p3 post)) (xQi D (tyL cI cQ) post (fun (u : PT × F1) => [gObj x an am aq ap al au re pq, gPar cI an n, gPar cI am u.1, gA cI re 7 u.2]) (va_A [gObj x an am aq ap al au re pq, gPar cI an n, gPar cI am m, gA cI re 7 rf].flatten sz)) 0 0 (va_A [gObj x an am aq ap al au re pq, gPar cI an n, gPar cI am m, gA cI re 7 rf].flatten sz) :=
  Met_i pn_X5 (Nat.le_of_ble_eq_true rfl) (fun p e s mi below meth co A Q _ C hret hw => w_X5_lots x an am aq ap b al au re pq n m rf p1 p2 p3 C hret hw)
theorem kV_X5_lots : Cond.instanceMethod yX5_lots ∈ gTbl ∧ Cond.selects yX5_lots.cls yX5_lots yX5_lots ∈ gTbl ∧ Cond.initialized yX5_lots.cls ∈ gTbl ∧ Cond.code yX5_lots cX5_lots 8 (some .int) ∈ gTbl ∧ (yX5_lots.cls ≠ "java/lang/invoke/MethodHandle" ∧ yX5_lots.cls ≠ "java/lang/invoke/VarHandle" ∧ (parseMethodDescriptor yX5_lots.desc).map (fun d => d.parameters.length) = some 3) := ⟨im_X5_lots, sl_X5_lots, in_X5, cd_X5_lots, (by decide +kernel)⟩
set_option maxRecDepth 100000 in
def p_X5_image (n : PT) (q : PT) (pq : Int32) (post : Int32 → PT × Int32 → Prop) : Prop := p_X3_become q n (fun (u1 : PT) => (fun (qv2 : PT) => p_X3_hour n (fun (r3 : Int32) => post r3 (qv2, (1 : Int32)))) u1)
set_option maxHeartbeats 4000000 in
set_option maxRecDepth 100000 in
theorem w_X5_image {p : Program} {l : Launch} {e : Env} {s : State} {mi : MethodId} {args : Array Value} {below : List Frame} {meth : Method} {co : Code} {D : va_G} {cI cQ : ClassId} {A : Nat → Prop} {Q : State → Prop} (x : Nat) (an : Nat → Nat) (am : Nat → Nat) (aq : Nat → Nat) (ap : Nat → Nat) (b : Nat → Nat → Nat) (al : Nat → Nat) (au : Nat → Nat) (re : Nat) (pq : Int32) (n : PT) (q : PT) {post : Int32 → PT × Int32 → Prop} (C : xC p s mi args co cX5_image RX5 1 D (tyL cI cQ) A) (hret : ∀ (pc : Nat) (r : Int32) (u : PT × Int32) (lv : List (Nat × Value)), decode cX5_image pc = .ok (.ireturn, 1) → post r u → xG p l e (rmL 2 0 0 61) s mi args below meth co D A 1 Q 0 0 pc [.int r] [gObj x an am aq ap al au re u.2, gPar cI an n, gPar cI aq u.1] lv) (hw : p_X5_image n q pq post) : xG p l e (rmL 2 0 0 61) s mi args below meth co D A 1 Q 0 0 0 [] [gObj x an am aq ap al au re pq, gPar cI an n, gPar cI aq q] [(0, .ref x)] := by
  unfold p_X5_image at hw
  try dsimp only at hw
  show xG p l e (rmL 2 0 0 61) s mi args below meth co D A 1 Q 0 0 0 [] [gObj x an am aq ap al au re pq, gPar cI an n, gPar cI aq q] [(0, .ref x)]
  refine g_aload_n C dX5_image_0 0 rfl rfl ?_
  refine g_get (v := .ref (aq 0)) (ci := 4) C dX5_image_1 inw_X5 rfl 0 0 2 rfl rfl (Nat.le_of_ble_eq_true rfl) rfl fl_X5_19 rfl rfl ?_
  refine g_aload_n C dX5_image_4 0 rfl rfl ?_
  refine g_get (v := .ref (an 0)) (ci := 4) C dX5_image_5 inw_X5 rfl 0 0 0 rfl rfl (Nat.le_of_ble_eq_true rfl) rfl fl_X5_10 rfl rfl ?_
  refine g_callVv (As := [.ref (an 0)]) (gr := [gObj x an am aq ap al au re pq]) C (c_X3_become l D cI cQ aq an q n  _) dX5_image_8 ⟨ml_X5_232, kV_X3_become⟩ ⟨Nat.le_of_ble_eq_true rfl, Nat.le_of_ble_eq_true rfl⟩ ⟨Nat.le_refl _, Nat.le_refl _⟩ rfl rfl 0 0 rfl rfl [2, 1, 0] 3 rfl pmb_2_1_0 rfl rfl rfl (Nat.le_of_ble_eq_true rfl) rfl (fun (u : PT) => [gObj x an am aq ap al au re pq, gPar cI an n, gPar cI aq u]) [2, 1, 0] 3 (fun _ => rfl) pmb_2_1_0 (fun _ => rfl) hw (fun u1 hw => ?_)
  obtain ⟨qv2, rfl⟩ : ∃ z, z = u1 := ⟨_, rfl⟩
  refine g_aload_n C dX5_image_11 0 rfl rfl ?_
  refine g_iconst (v := 1) C dX5_image_12 rfl rfl ?_
  refine g_put (v' := .int (1 : Int32)) (ty := .boolean) (ci := 4) (gs' := [gObj x an am aq ap al au re (1 : Int32), gPar cI an n, gPar cI aq qv2]) C dX5_image_13 inw_X5 tyX5 tyX5_ok nmX5 rfl 0 0 7 rfl rfl (Nat.le_of_ble_eq_true rfl) rfl fl_X5_235 rfl fd_Z rfl rfl rfl (Nat.le_of_ble_eq_true rfl) rfl rfl ?_
  refine g_aload_n C dX5_image_16 0 rfl rfl ?_
  refine g_get (v := .ref (an 0)) (ci := 4) C dX5_image_17 inw_X5 rfl 0 0 0 rfl rfl (Nat.le_of_ble_eq_true rfl) rfl fl_X5_10 rfl rfl ?_
  refine g_callVi (As := []) (gr := [gObj x an am aq ap al au re (1 : Int32), gPar cI aq qv2]) C (c_X3_hour l D cI cQ an n  _) dX5_image_20 ⟨ml_X5_239, kV_X3_hour⟩ ⟨Nat.le_of_ble_eq_true rfl, Nat.le_of_ble_eq_true rfl⟩ ⟨Nat.le_refl _, Nat.le_refl _⟩ rfl rfl 0 0 rfl rfl [1, 0, 2] 3 rfl pmb_1_0_2 rfl rfl rfl (Nat.le_of_ble_eq_true rfl) rfl (fun (u : Unit) => [gObj x an am aq ap al au re (1 : Int32), gPar cI an n, gPar cI aq qv2]) [1, 0, 2] 3 (fun _ => rfl) pmb_1_0_2 (fun _ => rfl) hw (fun r3 u3 hw => ?_)
  exact hret 23 r3 (qv2, (1 : Int32)) _ dX5_image_23 hw
set_option maxRecDepth 100000 in
theorem c_X5_image (l : Launch) (D : va_G) (cI cQ : ClassId) (x : Nat) (an : Nat → Nat) (am : Nat → Nat) (aq : Nat → Nat) (ap : Nat → Nat) (b : Nat → Nat → Nat) (al : Nat → Nat) (au : Nat → Nat) (re : Nat) (pq : Int32) (n : PT) (q : PT) (post : Int32 → PT × Int32 → Prop) (sz : Nat) : Met l yX5_image (wsY yX5_image cX5_image 1 (some .int)) (rmL 2 0 0 61) (xP D (tyL cI cQ) [.ref x] [gObj x an am aq ap al au re pq, gPar cI an n, gPar cI aq q] sz (p_X5_image n q pq post)) (xQi D (tyL cI cQ) post (fun (u : PT × Int32) => [gObj x an am aq ap al au re u.2, gPar cI an n, gPar cI aq u.1]) (va_A [gObj x an am aq ap al au re pq, gPar cI an n, gPar cI aq q].flatten sz)) 0 0 (va_A [gObj x an am aq ap al au re pq, gPar cI an n, gPar cI aq q].flatten sz) :=
  Met_i pn_X5 (Nat.le_of_ble_eq_true rfl) (fun p e s mi below meth co A Q _ C hret hw => w_X5_image x an am aq ap b al au re pq n q C hret hw)
theorem kV_X5_image : Cond.instanceMethod yX5_image ∈ gTbl ∧ Cond.selects yX5_image.cls yX5_image yX5_image ∈ gTbl ∧ Cond.initialized yX5_image.cls ∈ gTbl ∧ Cond.code yX5_image cX5_image 1 (some .int) ∈ gTbl ∧ (yX5_image.cls ≠ "java/lang/invoke/MethodHandle" ∧ yX5_image.cls ≠ "java/lang/invoke/VarHandle" ∧ (parseMethodDescriptor yX5_image.desc).map (fun d => d.parameters.length) = some 0) := ⟨im_X5_image, sl_X5_image, in_X5, cd_X5_image, (by decide +kernel)⟩
set_option maxRecDepth 100000 in
def p_X5_restore (n : PT) (q : PT) (hh : HT) (rf : F1) (pq : Int32) (post : Int32 → PT × HT × F1 → Prop) : Prop := ((pq = 0 → p_X5_refuse rf (-3 : Int32) (fun (r6 : Int32) (u6 : F1) => (fun (rfv7 : F1) => post r6 (n, hh, rfv7)) u6)) ∧ (¬ pq = 0 → p_X3_become n q (fun (u1 : PT) => (fun (nv2 : PT) => p_X4_forget hh (fun (u3 : HT) => (fun (hhv4 : HT) => p_X3_hour nv2 (fun (r5 : Int32) => post r5 (nv2, hhv4, rf))) u3)) u1)))
set_option maxHeartbeats 4000000 in
set_option maxRecDepth 100000 in
theorem w_X5_restore {p : Program} {l : Launch} {e : Env} {s : State} {mi : MethodId} {args : Array Value} {below : List Frame} {meth : Method} {co : Code} {D : va_G} {cI cQ : ClassId} {A : Nat → Prop} {Q : State → Prop} (x : Nat) (an : Nat → Nat) (am : Nat → Nat) (aq : Nat → Nat) (ap : Nat → Nat) (b : Nat → Nat → Nat) (al : Nat → Nat) (au : Nat → Nat) (re : Nat) (pq : Int32) (n : PT) (q : PT) (hh : HT) (rf : F1) {post : Int32 → PT × HT × F1 → Prop} (C : xC p s mi args co cX5_restore RX5 1 D (tyL cI cQ) A) (hret : ∀ (pc : Nat) (r : Int32) (u : PT × HT × F1) (lv : List (Nat × Value)), decode cX5_restore pc = .ok (.ireturn, 1) → post r u → xG p l e (rmL 2 0 0 61) s mi args below meth co D A 1 Q 0 0 pc [.int r] [gObj x an am aq ap al au re pq, gPar cI an u.1, gPar cI aq q, gPas cQ ap b u.2.1, gA cI re 7 u.2.2] lv) (hw : p_X5_restore n q hh rf pq post) : xG p l e (rmL 2 0 0 61) s mi args below meth co D A 1 Q 0 0 0 [] [gObj x an am aq ap al au re pq, gPar cI an n, gPar cI aq q, gPas cQ ap b hh, gA cI re 7 rf] [(0, .ref x)] := by
  unfold p_X5_restore at hw
  try dsimp only at hw
  show xG p l e (rmL 2 0 0 61) s mi args below meth co D A 1 Q 0 0 0 [] [gObj x an am aq ap al au re pq, gPar cI an n, gPar cI aq q, gPas cQ ap b hh, gA cI re 7 rf] [(0, .ref x)]
  refine g_aload_n C dX5_restore_0 0 rfl rfl ?_
  refine g_get (v := .int pq) (ci := 4) C dX5_restore_1 inw_X5 rfl 0 0 7 rfl rfl (Nat.le_of_ble_eq_true rfl) rfl fl_X5_235 rfl rfl ?_
  refine g_if_ne (tgt := 14) C dX5_restore_4 (by decide) rfl hw (fun _ hw => ?_) (fun _ hw => ?_)
  · refine g_aload_n C dX5_restore_14 0 rfl rfl ?_
    refine g_get (v := .ref (an 0)) (ci := 4) C dX5_restore_15 inw_X5 rfl 0 0 0 rfl rfl (Nat.le_of_ble_eq_true rfl) rfl fl_X5_10 rfl rfl ?_
    refine g_aload_n C dX5_restore_18 0 rfl rfl ?_
    refine g_get (v := .ref (aq 0)) (ci := 4) C dX5_restore_19 inw_X5 rfl 0 0 2 rfl rfl (Nat.le_of_ble_eq_true rfl) rfl fl_X5_19 rfl rfl ?_
    refine g_callVv (As := [.ref (aq 0)]) (gr := [gObj x an am aq ap al au re pq, gPas cQ ap b hh, gA cI re 7 rf]) C (c_X3_become l D cI cQ an aq n q  _) dX5_restore_22 ⟨ml_X5_232, kV_X3_become⟩ ⟨Nat.le_of_ble_eq_true rfl, Nat.le_of_ble_eq_true rfl⟩ ⟨Nat.le_refl _, Nat.le_refl _⟩ rfl rfl 0 0 rfl rfl [1, 2, 0, 3, 4] 5 rfl pmb_1_2_0_3_4 rfl rfl rfl (Nat.le_of_ble_eq_true rfl) rfl (fun (u : PT) => [gObj x an am aq ap al au re pq, gPar cI an u, gPar cI aq q, gPas cQ ap b hh, gA cI re 7 rf]) [2, 0, 1, 3, 4] 5 (fun _ => rfl) pmb_2_0_1_3_4 (fun _ => rfl) hw (fun u1 hw => ?_)
    obtain ⟨nv2, rfl⟩ : ∃ z, z = u1 := ⟨_, rfl⟩
    refine g_aload_n C dX5_restore_25 0 rfl rfl ?_
    refine g_get (v := .ref (ap 0)) (ci := 4) C dX5_restore_26 inw_X5 rfl 0 0 3 rfl rfl (Nat.le_of_ble_eq_true rfl) rfl fl_X5_25 rfl rfl ?_
    refine g_callVv (As := []) (gr := [gObj x an am aq ap al au re pq, gPar cI an nv2, gPar cI aq q, gA cI re 7 rf]) C (c_X4_forget l D cI cQ ap b hh  _) dX5_restore_29 ⟨ml_X5_100, kV_X4_forget⟩ ⟨Nat.le_of_ble_eq_true rfl, Nat.le_of_ble_eq_true rfl⟩ ⟨Nat.le_refl _, Nat.le_refl _⟩ rfl rfl 0 0 rfl rfl [3, 0, 1, 2, 4] 5 rfl pmb_3_0_1_2_4 rfl rfl rfl (Nat.le_of_ble_eq_true rfl) rfl (fun (u : HT) => [gObj x an am aq ap al au re pq, gPar cI an nv2, gPar cI aq q, gPas cQ ap b u, gA cI re 7 rf]) [1, 2, 3, 0, 4] 5 (fun _ => rfl) pmb_1_2_3_0_4 (fun _ => rfl) hw (fun u3 hw => ?_)
    obtain ⟨hhv4, rfl⟩ : ∃ z, z = u3 := ⟨_, rfl⟩
    refine g_aload_n C dX5_restore_32 0 rfl rfl ?_
    refine g_get (v := .ref (an 0)) (ci := 4) C dX5_restore_33 inw_X5 rfl 0 0 0 rfl rfl (Nat.le_of_ble_eq_true rfl) rfl fl_X5_10 rfl rfl ?_
    refine g_callVi (As := []) (gr := [gObj x an am aq ap al au re pq, gPar cI aq q, gPas cQ ap b hhv4, gA cI re 7 rf]) C (c_X3_hour l D cI cQ an nv2  _) dX5_restore_36 ⟨ml_X5_239, kV_X3_hour⟩ ⟨Nat.le_of_ble_eq_true rfl, Nat.le_of_ble_eq_true rfl⟩ ⟨Nat.le_refl _, Nat.le_refl _⟩ rfl rfl 0 0 rfl rfl [1, 0, 2, 3, 4] 5 rfl pmb_1_0_2_3_4 rfl rfl rfl (Nat.le_of_ble_eq_true rfl) rfl (fun (u : Unit) => [gObj x an am aq ap al au re pq, gPar cI an nv2, gPar cI aq q, gPas cQ ap b hhv4, gA cI re 7 rf]) [1, 0, 2, 3, 4] 5 (fun _ => rfl) pmb_1_0_2_3_4 (fun _ => rfl) hw (fun r5 u5 hw => ?_)
    exact hret 39 r5 (nv2, hhv4, rf) _ dX5_restore_39 hw
  · refine g_aload_n C dX5_restore_7 0 rfl rfl ?_
    refine g_bipush (v := -3) C dX5_restore_8 (by decide) rfl ?_
    refine g_callVi (As := [.int (-3 : Int32)]) (gr := [gPar cI an n, gPar cI aq q, gPas cQ ap b hh]) C (c_X5_refuse l D cI cQ x an am aq ap b al au re pq rf (-3 : Int32) _) dX5_restore_10 ⟨ml_X5_51, kV_X5_refuse⟩ ⟨Nat.le_of_ble_eq_true rfl, Nat.le_of_ble_eq_true rfl⟩ ⟨Nat.le_refl _, Nat.le_refl _⟩ rfl rfl 0 0 rfl rfl [0, 4, 1, 2, 3] 5 rfl pmb_0_4_1_2_3 rfl rfl rfl (Nat.le_of_ble_eq_true rfl) rfl (fun (u : F1) => [gObj x an am aq ap al au re pq, gPar cI an n, gPar cI aq q, gPas cQ ap b hh, gA cI re 7 u]) [0, 2, 3, 4, 1] 5 (fun _ => rfl) pmb_0_2_3_4_1 (fun _ => rfl) hw (fun r6 u6 hw => ?_)
    obtain ⟨rfv7, rfl⟩ : ∃ z, z = u6 := ⟨_, rfl⟩
    exact hret 13 r6 (n, hh, rfv7) _ dX5_restore_13 hw
set_option maxRecDepth 100000 in
theorem c_X5_restore (l : Launch) (D : va_G) (cI cQ : ClassId) (x : Nat) (an : Nat → Nat) (am : Nat → Nat) (aq : Nat → Nat) (ap : Nat → Nat) (b : Nat → Nat → Nat) (al : Nat → Nat) (au : Nat → Nat) (re : Nat) (pq : Int32) (n : PT) (q : PT) (hh : HT) (rf : F1) (post : Int32 → PT × HT × F1 → Prop) (sz : Nat) : Met l yX5_restore (wsY yX5_restore cX5_restore 1 (some .int)) (rmL 2 0 0 61) (xP D (tyL cI cQ) [.ref x] [gObj x an am aq ap al au re pq, gPar cI an n, gPar cI aq q, gPas cQ ap b hh, gA cI re 7 rf] sz (p_X5_restore n q hh rf pq post)) (xQi D (tyL cI cQ) post (fun (u : PT × HT × F1) => [gObj x an am aq ap al au re pq, gPar cI an u.1, gPar cI aq q, gPas cQ ap b u.2.1, gA cI re 7 u.2.2]) (va_A [gObj x an am aq ap al au re pq, gPar cI an n, gPar cI aq q, gPas cQ ap b hh, gA cI re 7 rf].flatten sz)) 0 0 (va_A [gObj x an am aq ap al au re pq, gPar cI an n, gPar cI aq q, gPas cQ ap b hh, gA cI re 7 rf].flatten sz) :=
  Met_i pn_X5 (Nat.le_of_ble_eq_true rfl) (fun p e s mi below meth co A Q _ C hret hw => w_X5_restore x an am aq ap b al au re pq n q hh rf C hret hw)
theorem kV_X5_restore : Cond.instanceMethod yX5_restore ∈ gTbl ∧ Cond.selects yX5_restore.cls yX5_restore yX5_restore ∈ gTbl ∧ Cond.initialized yX5_restore.cls ∈ gTbl ∧ Cond.code yX5_restore cX5_restore 1 (some .int) ∈ gTbl ∧ (yX5_restore.cls ≠ "java/lang/invoke/MethodHandle" ∧ yX5_restore.cls ≠ "java/lang/invoke/VarHandle" ∧ (parseMethodDescriptor yX5_restore.desc).map (fun d => d.parameters.length) = some 0) := ⟨im_X5_restore, sl_X5_restore, in_X5, cd_X5_restore, (by decide +kernel)⟩
set_option maxRecDepth 100000 in
def p_X5_refusalsCounted (rf : F1) (p1 : Int32) (post : Int32 → Prop) : Prop := ((p1 < (11 : Int32) → post (-9 : Int32)) ∧ (¬ p1 < (11 : Int32) → ((p1 ≤ (16 : Int32) → (vp_in (p1 - (10 : Int32)) 7 ∧ post (rf ((p1 - (10 : Int32))).toNatClampNeg))) ∧ (¬ p1 ≤ (16 : Int32) → post (-9 : Int32)))))
set_option maxHeartbeats 4000000 in
set_option maxRecDepth 100000 in
theorem w_X5_refusalsCounted {p : Program} {l : Launch} {e : Env} {s : State} {mi : MethodId} {args : Array Value} {below : List Frame} {meth : Method} {co : Code} {D : va_G} {cI cQ : ClassId} {A : Nat → Prop} {Q : State → Prop} (x : Nat) (an : Nat → Nat) (am : Nat → Nat) (aq : Nat → Nat) (ap : Nat → Nat) (b : Nat → Nat → Nat) (al : Nat → Nat) (au : Nat → Nat) (re : Nat) (pq : Int32) (rf : F1) (p1 : Int32) {post : Int32 → Prop} (C : xC p s mi args co cX5_refusalsCounted RX5 2 D (tyL cI cQ) A) (hret : ∀ (pc : Nat) (r : Int32) (u : Unit) (lv : List (Nat × Value)), decode cX5_refusalsCounted pc = .ok (.ireturn, 1) → post r → xG p l e (rmL 0 0 0 0) s mi args below meth co D A 2 Q 0 0 pc [.int r] [gObj x an am aq ap al au re pq, gA cI re 7 rf] lv) (hw : p_X5_refusalsCounted rf p1 post) : xG p l e (rmL 0 0 0 0) s mi args below meth co D A 2 Q 0 0 0 [] [gObj x an am aq ap al au re pq, gA cI re 7 rf] [(0, .ref x), (1, .int p1)] := by
  unfold p_X5_refusalsCounted at hw
  try dsimp only at hw
  show xG p l e (rmL 0 0 0 0) s mi args below meth co D A 2 Q 0 0 0 [] [gObj x an am aq ap al au re pq, gA cI re 7 rf] [(0, .ref x), (1, .int p1)]
  refine g_iload_n C dX5_refusalsCounted_0 1 rfl rfl ?_
  refine g_bipush (v := 11) C dX5_refusalsCounted_1 (by decide) rfl ?_
  refine g_icmp_lt (tgt := 12) C dX5_refusalsCounted_3 (by decide) rfl hw (fun _ hw => ?_) (fun _ hw => ?_)
  · refine g_bipush (v := -9) C dX5_refusalsCounted_12 (by decide) rfl ?_
    exact hret 14 (-9 : Int32) () _ dX5_refusalsCounted_14 hw
  · refine g_iload_n C dX5_refusalsCounted_6 1 rfl rfl ?_
    refine g_bipush (v := 16) C dX5_refusalsCounted_7 (by decide) rfl ?_
    refine g_icmp_le (tgt := 15) C dX5_refusalsCounted_9 (by decide) rfl hw (fun _ hw => ?_) (fun _ hw => ?_)
    · refine g_aload_n C dX5_refusalsCounted_15 0 rfl rfl ?_
      refine g_get (v := .ref re) (ci := 4) C dX5_refusalsCounted_16 inw_X5 rfl 0 0 6 rfl rfl (Nat.le_of_ble_eq_true rfl) rfl fl_X5_43 rfl rfl ?_
      refine g_iload_n C dX5_refusalsCounted_19 1 rfl rfl ?_
      refine g_bipush (v := 10) C dX5_refusalsCounted_20 (by decide) rfl ?_
      refine g_isub C dX5_refusalsCounted_22 rfl ?_
      have hi23 := hw.1
      replace hw := hw.2
      refine g_iald (f := rf) C dX5_refusalsCounted_23 1 0 rfl rfl 0 rfl hi23 rfl ?_
      exact hret 24 (rf ((p1 - (10 : Int32))).toNatClampNeg) () _ dX5_refusalsCounted_24 hw
    · refine g_bipush (v := -9) C dX5_refusalsCounted_12 (by decide) rfl ?_
      exact hret 14 (-9 : Int32) () _ dX5_refusalsCounted_14 hw
set_option maxRecDepth 100000 in
theorem c_X5_refusalsCounted (l : Launch) (D : va_G) (cI cQ : ClassId) (x : Nat) (an : Nat → Nat) (am : Nat → Nat) (aq : Nat → Nat) (ap : Nat → Nat) (b : Nat → Nat → Nat) (al : Nat → Nat) (au : Nat → Nat) (re : Nat) (pq : Int32) (rf : F1) (p1 : Int32) (post : Int32 → Prop) (sz : Nat) : Met l yX5_refusalsCounted (wsY yX5_refusalsCounted cX5_refusalsCounted 2 (some .int)) (rmL 0 0 0 0) (xP D (tyL cI cQ) [.ref x, .int p1] [gObj x an am aq ap al au re pq, gA cI re 7 rf] sz (p_X5_refusalsCounted rf p1 post)) (xQi D (tyL cI cQ) (fun (r : Int32) (_ : Unit) => post r) (fun (u : Unit) => [gObj x an am aq ap al au re pq, gA cI re 7 rf]) (va_A [gObj x an am aq ap al au re pq, gA cI re 7 rf].flatten sz)) 0 0 (va_A [gObj x an am aq ap al au re pq, gA cI re 7 rf].flatten sz) :=
  Met_i pn_X5 (Nat.le_of_ble_eq_true rfl) (fun p e s mi below meth co A Q _ C hret hw => w_X5_refusalsCounted x an am aq ap b al au re pq rf p1 C hret hw)
theorem kV_X5_refusalsCounted : Cond.instanceMethod yX5_refusalsCounted ∈ gTbl ∧ Cond.selects yX5_refusalsCounted.cls yX5_refusalsCounted yX5_refusalsCounted ∈ gTbl ∧ Cond.initialized yX5_refusalsCounted.cls ∈ gTbl ∧ Cond.code yX5_refusalsCounted cX5_refusalsCounted 2 (some .int) ∈ gTbl ∧ (yX5_refusalsCounted.cls ≠ "java/lang/invoke/MethodHandle" ∧ yX5_refusalsCounted.cls ≠ "java/lang/invoke/VarHandle" ∧ (parseMethodDescriptor yX5_refusalsCounted.desc).map (fun d => d.parameters.length) = some 1) := ⟨im_X5_refusalsCounted, sl_X5_refusalsCounted, in_X5, cd_X5_refusalsCounted, (by decide +kernel)⟩
set_option maxRecDepth 100000 in
def p_X5_count (n : PT) (hh : HT) (le : LT) (nu : LT) (rf : F1) (p1 : Int32) (post : Int32 → Prop) : Prop := ((p1 = 0 → p_X3_houses n (fun (r1 : Int32) => post r1)) ∧ (¬ p1 = 0 → ((p1 = 1 → p_X3_hour n (fun (r2 : Int32) => post r2)) ∧ (¬ p1 = 1 → ((p1 = 2 → p_X3_inCup n (fun (r3 : Int32) => post r3)) ∧ (¬ p1 = 2 → ((p1 = 3 → p_X3_blockedBits n (fun (r4 : Int32) => post r4)) ∧ (¬ p1 = 3 → ((p1 = 4 → p_X3_wetBits n (fun (r5 : Int32) => post r5)) ∧ (¬ p1 = 4 → ((p1 = 5 → p_X3_holdsInAll n (fun (r6 : Int32) => post r6)) ∧ (¬ p1 = 5 → ((p1 = 6 → p_X1_size le (fun (r7 : Int32) => post r7)) ∧ (¬ p1 = 6 → ((p1 = 7 → p_X2_size nu (fun (r8 : Int32) => post r8)) ∧ (¬ p1 = 7 → ((p1 = 8 → p_X4_size hh (fun (r9 : Int32) => post r9)) ∧ (¬ p1 = 8 → p_X5_refusalsCounted rf p1 (fun (r10 : Int32) => post r10)))))))))))))))))))
set_option maxHeartbeats 4000000 in
set_option maxRecDepth 100000 in
theorem w_X5_count {p : Program} {l : Launch} {e : Env} {s : State} {mi : MethodId} {args : Array Value} {below : List Frame} {meth : Method} {co : Code} {D : va_G} {cI cQ : ClassId} {A : Nat → Prop} {Q : State → Prop} (x : Nat) (an : Nat → Nat) (am : Nat → Nat) (aq : Nat → Nat) (ap : Nat → Nat) (b : Nat → Nat → Nat) (al : Nat → Nat) (au : Nat → Nat) (re : Nat) (pq : Int32) (n : PT) (hh : HT) (le : LT) (nu : LT) (rf : F1) (p1 : Int32) {post : Int32 → Prop} (C : xC p s mi args co cX5_count RX5 2 D (tyL cI cQ) A) (hret : ∀ (pc : Nat) (r : Int32) (u : Unit) (lv : List (Nat × Value)), decode cX5_count pc = .ok (.ireturn, 1) → post r → xG p l e (rmL 1 0 0 22) s mi args below meth co D A 2 Q 0 0 pc [.int r] [gObj x an am aq ap al au re pq, gPar cI an n, gPas cQ ap b hh, gLet cI al le, gNum cI au nu, gA cI re 7 rf] lv) (hw : p_X5_count n hh le nu rf p1 post) : xG p l e (rmL 1 0 0 22) s mi args below meth co D A 2 Q 0 0 0 [] [gObj x an am aq ap al au re pq, gPar cI an n, gPas cQ ap b hh, gLet cI al le, gNum cI au nu, gA cI re 7 rf] [(0, .ref x), (1, .int p1)] := by
  unfold p_X5_count at hw
  try dsimp only at hw
  show xG p l e (rmL 1 0 0 22) s mi args below meth co D A 2 Q 0 0 0 [] [gObj x an am aq ap al au re pq, gPar cI an n, gPas cQ ap b hh, gLet cI al le, gNum cI au nu, gA cI re 7 rf] [(0, .ref x), (1, .int p1)]
  refine g_iload_n C dX5_count_0 1 rfl rfl ?_
  rcases Classical.em (p1 = 0) with hs1_0 | hs1_0
  · replace hw := hw.1 hs1_0
    refine g_tswIn (pc' := 52) C dX5_count_1 0 hs1_0 (by decide) (by decide) rfl (by decide) ?_
    refine g_aload_n C dX5_count_52 0 rfl rfl ?_
    refine g_get (v := .ref (an 0)) (ci := 4) C dX5_count_53 inw_X5 rfl 0 0 0 rfl rfl (Nat.le_of_ble_eq_true rfl) rfl fl_X5_10 rfl rfl ?_
    refine g_callVi (As := []) (gr := [gObj x an am aq ap al au re pq, gPas cQ ap b hh, gLet cI al le, gNum cI au nu, gA cI re 7 rf]) C (c_X3_houses l D cI cQ an n  _) dX5_count_56 ⟨ml_X5_103, kV_X3_houses⟩ ⟨Nat.le_of_ble_eq_true rfl, Nat.le_of_ble_eq_true rfl⟩ ⟨Nat.le_refl _, Nat.le_refl _⟩ rfl rfl 0 0 rfl rfl [1, 0, 2, 3, 4, 5] 6 rfl pmb_1_0_2_3_4_5 rfl rfl rfl (Nat.le_of_ble_eq_true rfl) rfl (fun (u : Unit) => [gObj x an am aq ap al au re pq, gPar cI an n, gPas cQ ap b hh, gLet cI al le, gNum cI au nu, gA cI re 7 rf]) [1, 0, 2, 3, 4, 5] 6 (fun _ => rfl) pmb_1_0_2_3_4_5 (fun _ => rfl) hw (fun r1 u1 hw => ?_)
    exact hret 59 r1 () _ dX5_count_59 hw
  · replace hw := hw.2 hs1_0
    rcases Classical.em (p1 = 1) with hs1_1 | hs1_1
    · replace hw := hw.1 hs1_1
      refine g_tswIn (pc' := 60) C dX5_count_1 1 hs1_1 (by decide) (by decide) rfl (by decide) ?_
      refine g_aload_n C dX5_count_60 0 rfl rfl ?_
      refine g_get (v := .ref (an 0)) (ci := 4) C dX5_count_61 inw_X5 rfl 0 0 0 rfl rfl (Nat.le_of_ble_eq_true rfl) rfl fl_X5_10 rfl rfl ?_
      refine g_callVi (As := []) (gr := [gObj x an am aq ap al au re pq, gPas cQ ap b hh, gLet cI al le, gNum cI au nu, gA cI re 7 rf]) C (c_X3_hour l D cI cQ an n  _) dX5_count_64 ⟨ml_X5_239, kV_X3_hour⟩ ⟨Nat.le_of_ble_eq_true rfl, Nat.le_of_ble_eq_true rfl⟩ ⟨Nat.le_refl _, Nat.le_refl _⟩ rfl rfl 0 0 rfl rfl [1, 0, 2, 3, 4, 5] 6 rfl pmb_1_0_2_3_4_5 rfl rfl rfl (Nat.le_of_ble_eq_true rfl) rfl (fun (u : Unit) => [gObj x an am aq ap al au re pq, gPar cI an n, gPas cQ ap b hh, gLet cI al le, gNum cI au nu, gA cI re 7 rf]) [1, 0, 2, 3, 4, 5] 6 (fun _ => rfl) pmb_1_0_2_3_4_5 (fun _ => rfl) hw (fun r2 u2 hw => ?_)
      exact hret 67 r2 () _ dX5_count_67 hw
    · replace hw := hw.2 hs1_1
      rcases Classical.em (p1 = 2) with hs1_2 | hs1_2
      · replace hw := hw.1 hs1_2
        refine g_tswIn (pc' := 68) C dX5_count_1 2 hs1_2 (by decide) (by decide) rfl (by decide) ?_
        refine g_aload_n C dX5_count_68 0 rfl rfl ?_
        refine g_get (v := .ref (an 0)) (ci := 4) C dX5_count_69 inw_X5 rfl 0 0 0 rfl rfl (Nat.le_of_ble_eq_true rfl) rfl fl_X5_10 rfl rfl ?_
        refine g_callVi (As := []) (gr := [gObj x an am aq ap al au re pq, gPas cQ ap b hh, gLet cI al le, gNum cI au nu, gA cI re 7 rf]) C (c_X3_inCup l D cI cQ an n  _) dX5_count_72 ⟨ml_X5_119, kV_X3_inCup⟩ ⟨Nat.le_of_ble_eq_true rfl, Nat.le_of_ble_eq_true rfl⟩ ⟨Nat.le_refl _, Nat.le_refl _⟩ rfl rfl 0 0 rfl rfl [1, 0, 2, 3, 4, 5] 6 rfl pmb_1_0_2_3_4_5 rfl rfl rfl (Nat.le_of_ble_eq_true rfl) rfl (fun (u : Unit) => [gObj x an am aq ap al au re pq, gPar cI an n, gPas cQ ap b hh, gLet cI al le, gNum cI au nu, gA cI re 7 rf]) [1, 0, 2, 3, 4, 5] 6 (fun _ => rfl) pmb_1_0_2_3_4_5 (fun _ => rfl) hw (fun r3 u3 hw => ?_)
        exact hret 75 r3 () _ dX5_count_75 hw
      · replace hw := hw.2 hs1_2
        rcases Classical.em (p1 = 3) with hs1_3 | hs1_3
        · replace hw := hw.1 hs1_3
          refine g_tswIn (pc' := 76) C dX5_count_1 3 hs1_3 (by decide) (by decide) rfl (by decide) ?_
          refine g_aload_n C dX5_count_76 0 rfl rfl ?_
          refine g_get (v := .ref (an 0)) (ci := 4) C dX5_count_77 inw_X5 rfl 0 0 0 rfl rfl (Nat.le_of_ble_eq_true rfl) rfl fl_X5_10 rfl rfl ?_
          refine g_callVi (As := []) (gr := [gObj x an am aq ap al au re pq, gPas cQ ap b hh, gLet cI al le, gNum cI au nu, gA cI re 7 rf]) C (c_X3_blockedBits l D cI cQ an n  _) dX5_count_80 ⟨ml_X5_159, kV_X3_blockedBits⟩ ⟨Nat.le_of_ble_eq_true rfl, Nat.le_of_ble_eq_true rfl⟩ ⟨Nat.le_refl _, Nat.le_refl _⟩ rfl rfl 0 0 rfl rfl [1, 0, 2, 3, 4, 5] 6 rfl pmb_1_0_2_3_4_5 rfl rfl rfl (Nat.le_of_ble_eq_true rfl) rfl (fun (u : Unit) => [gObj x an am aq ap al au re pq, gPar cI an n, gPas cQ ap b hh, gLet cI al le, gNum cI au nu, gA cI re 7 rf]) [1, 0, 2, 3, 4, 5] 6 (fun _ => rfl) pmb_1_0_2_3_4_5 (fun _ => rfl) hw (fun r4 u4 hw => ?_)
          exact hret 83 r4 () _ dX5_count_83 hw
        · replace hw := hw.2 hs1_3
          rcases Classical.em (p1 = 4) with hs1_4 | hs1_4
          · replace hw := hw.1 hs1_4
            refine g_tswIn (pc' := 84) C dX5_count_1 4 hs1_4 (by decide) (by decide) rfl (by decide) ?_
            refine g_aload_n C dX5_count_84 0 rfl rfl ?_
            refine g_get (v := .ref (an 0)) (ci := 4) C dX5_count_85 inw_X5 rfl 0 0 0 rfl rfl (Nat.le_of_ble_eq_true rfl) rfl fl_X5_10 rfl rfl ?_
            refine g_callVi (As := []) (gr := [gObj x an am aq ap al au re pq, gPas cQ ap b hh, gLet cI al le, gNum cI au nu, gA cI re 7 rf]) C (c_X3_wetBits l D cI cQ an n  _) dX5_count_88 ⟨ml_X5_206, kV_X3_wetBits⟩ ⟨Nat.le_of_ble_eq_true rfl, Nat.le_of_ble_eq_true rfl⟩ ⟨Nat.le_refl _, Nat.le_refl _⟩ rfl rfl 0 0 rfl rfl [1, 0, 2, 3, 4, 5] 6 rfl pmb_1_0_2_3_4_5 rfl rfl rfl (Nat.le_of_ble_eq_true rfl) rfl (fun (u : Unit) => [gObj x an am aq ap al au re pq, gPar cI an n, gPas cQ ap b hh, gLet cI al le, gNum cI au nu, gA cI re 7 rf]) [1, 0, 2, 3, 4, 5] 6 (fun _ => rfl) pmb_1_0_2_3_4_5 (fun _ => rfl) hw (fun r5 u5 hw => ?_)
            exact hret 91 r5 () _ dX5_count_91 hw
          · replace hw := hw.2 hs1_4
            rcases Classical.em (p1 = 5) with hs1_5 | hs1_5
            · replace hw := hw.1 hs1_5
              refine g_tswIn (pc' := 92) C dX5_count_1 5 hs1_5 (by decide) (by decide) rfl (by decide) ?_
              refine g_aload_n C dX5_count_92 0 rfl rfl ?_
              refine g_get (v := .ref (an 0)) (ci := 4) C dX5_count_93 inw_X5 rfl 0 0 0 rfl rfl (Nat.le_of_ble_eq_true rfl) rfl fl_X5_10 rfl rfl ?_
              refine g_callVi (As := []) (gr := [gObj x an am aq ap al au re pq, gPas cQ ap b hh, gLet cI al le, gNum cI au nu, gA cI re 7 rf]) C (c_X3_holdsInAll l D cI cQ an n  _) dX5_count_96 ⟨ml_X5_140, kV_X3_holdsInAll⟩ ⟨Nat.le_of_ble_eq_true rfl, Nat.le_of_ble_eq_true rfl⟩ ⟨Nat.le_refl _, Nat.le_refl _⟩ rfl rfl 0 0 rfl rfl [1, 0, 2, 3, 4, 5] 6 rfl pmb_1_0_2_3_4_5 rfl rfl rfl (Nat.le_of_ble_eq_true rfl) rfl (fun (u : Unit) => [gObj x an am aq ap al au re pq, gPar cI an n, gPas cQ ap b hh, gLet cI al le, gNum cI au nu, gA cI re 7 rf]) [1, 0, 2, 3, 4, 5] 6 (fun _ => rfl) pmb_1_0_2_3_4_5 (fun _ => rfl) hw (fun r6 u6 hw => ?_)
              exact hret 99 r6 () _ dX5_count_99 hw
            · replace hw := hw.2 hs1_5
              rcases Classical.em (p1 = 6) with hs1_6 | hs1_6
              · replace hw := hw.1 hs1_6
                refine g_tswIn (pc' := 100) C dX5_count_1 6 hs1_6 (by decide) (by decide) rfl (by decide) ?_
                refine g_aload_n C dX5_count_100 0 rfl rfl ?_
                refine g_get (v := .ref (al 0)) (ci := 4) C dX5_count_101 inw_X5 rfl 0 0 4 rfl rfl (Nat.le_of_ble_eq_true rfl) rfl fl_X5_32 rfl rfl ?_
                refine g_callVi (As := []) (gr := [gObj x an am aq ap al au re pq, gPar cI an n, gPas cQ ap b hh, gNum cI au nu, gA cI re 7 rf]) C (c_X1_size l D cI cQ al le  _) dX5_count_104 ⟨ml_X5_59, kV_X1_size⟩ ⟨Nat.le_of_ble_eq_true rfl, Nat.le_of_ble_eq_true rfl⟩ ⟨Nat.le_refl _, Nat.le_refl _⟩ rfl rfl 0 0 rfl rfl [3, 0, 1, 2, 4, 5] 6 rfl pmb_3_0_1_2_4_5 rfl rfl rfl (Nat.le_of_ble_eq_true rfl) rfl (fun (u : Unit) => [gObj x an am aq ap al au re pq, gPar cI an n, gPas cQ ap b hh, gLet cI al le, gNum cI au nu, gA cI re 7 rf]) [1, 2, 3, 0, 4, 5] 6 (fun _ => rfl) pmb_1_2_3_0_4_5 (fun _ => rfl) hw (fun r7 u7 hw => ?_)
                exact hret 107 r7 () _ dX5_count_107 hw
              · replace hw := hw.2 hs1_6
                rcases Classical.em (p1 = 7) with hs1_7 | hs1_7
                · replace hw := hw.1 hs1_7
                  refine g_tswIn (pc' := 108) C dX5_count_1 7 hs1_7 (by decide) (by decide) rfl (by decide) ?_
                  refine g_aload_n C dX5_count_108 0 rfl rfl ?_
                  refine g_get (v := .ref (au 0)) (ci := 4) C dX5_count_109 inw_X5 rfl 0 0 5 rfl rfl (Nat.le_of_ble_eq_true rfl) rfl fl_X5_39 rfl rfl ?_
                  refine g_callVi (As := []) (gr := [gObj x an am aq ap al au re pq, gPar cI an n, gPas cQ ap b hh, gLet cI al le, gA cI re 7 rf]) C (c_X2_size l D cI cQ au nu  _) dX5_count_112 ⟨ml_X5_224, kV_X2_size⟩ ⟨Nat.le_of_ble_eq_true rfl, Nat.le_of_ble_eq_true rfl⟩ ⟨Nat.le_refl _, Nat.le_refl _⟩ rfl rfl 0 0 rfl rfl [4, 0, 1, 2, 3, 5] 6 rfl pmb_4_0_1_2_3_5 rfl rfl rfl (Nat.le_of_ble_eq_true rfl) rfl (fun (u : Unit) => [gObj x an am aq ap al au re pq, gPar cI an n, gPas cQ ap b hh, gLet cI al le, gNum cI au nu, gA cI re 7 rf]) [1, 2, 3, 4, 0, 5] 6 (fun _ => rfl) pmb_1_2_3_4_0_5 (fun _ => rfl) hw (fun r8 u8 hw => ?_)
                  exact hret 115 r8 () _ dX5_count_115 hw
                · replace hw := hw.2 hs1_7
                  rcases Classical.em (p1 = 8) with hs1_8 | hs1_8
                  · replace hw := hw.1 hs1_8
                    refine g_tswIn (pc' := 116) C dX5_count_1 8 hs1_8 (by decide) (by decide) rfl (by decide) ?_
                    refine g_aload_n C dX5_count_116 0 rfl rfl ?_
                    refine g_get (v := .ref (ap 0)) (ci := 4) C dX5_count_117 inw_X5 rfl 0 0 3 rfl rfl (Nat.le_of_ble_eq_true rfl) rfl fl_X5_25 rfl rfl ?_
                    refine g_callVi (As := []) (gr := [gObj x an am aq ap al au re pq, gPar cI an n, gLet cI al le, gNum cI au nu, gA cI re 7 rf]) C (c_X4_size l D cI cQ ap b hh  _) dX5_count_120 ⟨ml_X5_136, kV_X4_size⟩ ⟨Nat.le_of_ble_eq_true rfl, Nat.le_of_ble_eq_true rfl⟩ ⟨Nat.le_refl _, Nat.le_refl _⟩ rfl rfl 0 0 rfl rfl [2, 0, 1, 3, 4, 5] 6 rfl pmb_2_0_1_3_4_5 rfl rfl rfl (Nat.le_of_ble_eq_true rfl) rfl (fun (u : Unit) => [gObj x an am aq ap al au re pq, gPar cI an n, gPas cQ ap b hh, gLet cI al le, gNum cI au nu, gA cI re 7 rf]) [1, 2, 0, 3, 4, 5] 6 (fun _ => rfl) pmb_1_2_0_3_4_5 (fun _ => rfl) hw (fun r9 u9 hw => ?_)
                    exact hret 123 r9 () _ dX5_count_123 hw
                  · replace hw := hw.2 hs1_8
                    have ht1 : (p1).toInt < 0 ∨ 8 < (p1).toInt := by
                      have q0 := lv_neT (a := 0) hs1_0 (by decide)
                      have q1 := lv_neT (a := 1) hs1_1 (by decide)
                      have q2 := lv_neT (a := 2) hs1_2 (by decide)
                      have q3 := lv_neT (a := 3) hs1_3 (by decide)
                      have q4 := lv_neT (a := 4) hs1_4 (by decide)
                      have q5 := lv_neT (a := 5) hs1_5 (by decide)
                      have q6 := lv_neT (a := 6) hs1_6 (by decide)
                      have q7 := lv_neT (a := 7) hs1_7 (by decide)
                      have q8 := lv_neT (a := 8) hs1_8 (by decide)
                      omega
                    refine g_tswOut (pc' := 124) C dX5_count_1 ht1 (by decide) ?_
                    refine g_aload_n C dX5_count_124 0 rfl rfl ?_
                    refine g_iload_n C dX5_count_125 1 rfl rfl ?_
                    refine g_callVi (As := [.int p1]) (gr := [gPar cI an n, gPas cQ ap b hh, gLet cI al le, gNum cI au nu]) C (c_X5_refusalsCounted l D cI cQ x an am aq ap b al au re pq rf p1 _) dX5_count_126 ⟨ml_X5_242, kV_X5_refusalsCounted⟩ ⟨Nat.le_of_ble_eq_true rfl, Nat.le_of_ble_eq_true rfl⟩ ⟨Nat.le_refl _, Nat.le_refl _⟩ rfl rfl 0 0 rfl rfl [0, 5, 1, 2, 3, 4] 6 rfl pmb_0_5_1_2_3_4 rfl rfl rfl (Nat.le_of_ble_eq_true rfl) rfl (fun (u : Unit) => [gObj x an am aq ap al au re pq, gPar cI an n, gPas cQ ap b hh, gLet cI al le, gNum cI au nu, gA cI re 7 rf]) [0, 2, 3, 4, 5, 1] 6 (fun _ => rfl) pmb_0_2_3_4_5_1 (fun _ => rfl) hw (fun r10 u10 hw => ?_)
                    exact hret 129 r10 () _ dX5_count_129 hw
set_option maxRecDepth 100000 in
theorem c_X5_count (l : Launch) (D : va_G) (cI cQ : ClassId) (x : Nat) (an : Nat → Nat) (am : Nat → Nat) (aq : Nat → Nat) (ap : Nat → Nat) (b : Nat → Nat → Nat) (al : Nat → Nat) (au : Nat → Nat) (re : Nat) (pq : Int32) (n : PT) (hh : HT) (le : LT) (nu : LT) (rf : F1) (p1 : Int32) (post : Int32 → Prop) (sz : Nat) : Met l yX5_count (wsY yX5_count cX5_count 2 (some .int)) (rmL 1 0 0 22) (xP D (tyL cI cQ) [.ref x, .int p1] [gObj x an am aq ap al au re pq, gPar cI an n, gPas cQ ap b hh, gLet cI al le, gNum cI au nu, gA cI re 7 rf] sz (p_X5_count n hh le nu rf p1 post)) (xQi D (tyL cI cQ) (fun (r : Int32) (_ : Unit) => post r) (fun (u : Unit) => [gObj x an am aq ap al au re pq, gPar cI an n, gPas cQ ap b hh, gLet cI al le, gNum cI au nu, gA cI re 7 rf]) (va_A [gObj x an am aq ap al au re pq, gPar cI an n, gPas cQ ap b hh, gLet cI al le, gNum cI au nu, gA cI re 7 rf].flatten sz)) 0 0 (va_A [gObj x an am aq ap al au re pq, gPar cI an n, gPas cQ ap b hh, gLet cI al le, gNum cI au nu, gA cI re 7 rf].flatten sz) :=
  Met_i pn_X5 (Nat.le_of_ble_eq_true rfl) (fun p e s mi below meth co A Q _ C hret hw => w_X5_count x an am aq ap b al au re pq n hh le nu rf p1 C hret hw)
theorem kV_X5_count : Cond.instanceMethod yX5_count ∈ gTbl ∧ Cond.selects yX5_count.cls yX5_count yX5_count ∈ gTbl ∧ Cond.initialized yX5_count.cls ∈ gTbl ∧ Cond.code yX5_count cX5_count 2 (some .int) ∈ gTbl ∧ (yX5_count.cls ≠ "java/lang/invoke/MethodHandle" ∧ yX5_count.cls ≠ "java/lang/invoke/VarHandle" ∧ (parseMethodDescriptor yX5_count.desc).map (fun d => d.parameters.length) = some 1) := ⟨im_X5_count, sl_X5_count, in_X5, cd_X5_count, (by decide +kernel)⟩
