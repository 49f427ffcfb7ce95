abbrev tZ : PT := (fun _ => 0, fun _ => 0, fun _ => 0, fun _ => 0, 0, 0, 0, 0, 0, 0)
abbrev lZ : LT := (fun _ => 0, 0)
abbrev qZ : QT := (fun _ => 0, fun _ => 0, fun _ => 0, 0, 0, 0)
abbrev adr (l : List Nat) : Nat → Nat := fun k => l.getD k 0
abbrev adb (l : List (Nat → Nat)) : Nat → Nat → Nat := fun k => l.getD k (fun _ => 0)
abbrev WX5 (cI cQ : ClassId) (x : Nat) (an am aq ap : Nat → Nat) (b : Nat → Nat → Nat) (al au : Nat → Nat) (re : Nat) (n m q : PT) (hh : HT) (P : Nat → PT) (le nu : LT) (rf : F1) (pq : Int32) : List va_W := [gObj x an am aq ap al au re pq, gPar cI an n, gPar cI am m, gPar cI aq q, gPas cQ ap b hh, gPar cI (b 0) (P 0), gPar cI (b 1) (P 1), gPar cI (b 2) (P 2), gPar cI (b 3) (P 3), gPar cI (b 4) (P 4), gPar cI (b 5) (P 5), gPar cI (b 6) (P 6), gPar cI (b 7) (P 7), gLet cI al le, gNum cI au nu, gA cI re 7 rf]
abbrev WX6 (cI : ClassId) (o : Nat) (d : Nat → Nat) (c : PT) (th : Int32) (le : LT) (qz : QT) (ks : KS) (hi td : Int32) (ro : LT) (se : Int32) (rf kp ig ts tf hd gn : F1) : List va_W := [gMo o d c th le qz ks hi td ro se, gM4 cI d c, gA cI (d 5) 96 le.1, gQ cI d qz, gA cI (d 14) 12 ro.1, gA cI (d 4) 7 rf, gA cI (d 9) 41 kp, gA cI (d 10) 41 ig, gA cI (d 11) 328 ts, gA cI (d 12) 41 tf, gA cI (d 13) 9 hd, gA cI (d 15) 8 gn]
theorem fd_P : parseFieldDescriptor "LPercolated$Parish;" = some (.object "Percolated$Parish") := by decide +kernel
theorem fd_Pa : parseFieldDescriptor "[LPercolated$Parish;" = some (.array (.object "Percolated$Parish")) := by decide +kernel
theorem fd_Ps : parseFieldDescriptor "LPercolated$Past;" = some (.object "Percolated$Past") := by decide +kernel
theorem fd_Le : parseFieldDescriptor "LPercolated$Letters;" = some (.object "Percolated$Letters") := by decide +kernel
theorem fd_Nu : parseFieldDescriptor "LPercolated$Numbers;" = some (.object "Percolated$Numbers") := by decide +kernel
theorem hfs_X1 : ∀ j, j < 2 → defaultValue (tyX1 j) = vp_V [.null, .int 0] j := by
  intro j hj
  match j with
  | 0 => rfl
  | 1 => rfl
  | n + 2 => exact absurd hj (by omega)
theorem hfs_X2 : ∀ j, j < 2 → defaultValue (tyX2 j) = vp_V [.null, .int 0] j := by
  intro j hj
  match j with
  | 0 => rfl
  | 1 => rfl
  | n + 2 => exact absurd hj (by omega)
theorem hfs_X3 : ∀ j, j < 10 → defaultValue (tyX3 j) = vp_V [.null, .null, .null, .null, .int 0, .int 0, .int 0, .int 0, .int 0, .int 0] j := by
  intro j hj
  match j with
  | 0 => rfl
  | 1 => rfl
  | 2 => rfl
  | 3 => rfl
  | 4 => rfl
  | 5 => rfl
  | 6 => rfl
  | 7 => rfl
  | 8 => rfl
  | 9 => rfl
  | n + 10 => exact absurd hj (by omega)
theorem hfs_X4 : ∀ j, j < 3 → defaultValue (tyX4 j) = vp_V [.null, .int 0, .int 0] j := by
  intro j hj
  match j with
  | 0 => rfl
  | 1 => rfl
  | 2 => rfl
  | n + 3 => exact absurd hj (by omega)
theorem hfs_X5 : ∀ j, j < 8 → defaultValue (tyX5 j) = vp_V [.null, .null, .null, .null, .null, .null, .null, .int 0] j := by
  intro j hj
  match j with
  | 0 => rfl
  | 1 => rfl
  | 2 => rfl
  | 3 => rfl
  | 4 => rfl
  | 5 => rfl
  | 6 => rfl
  | 7 => rfl
  | n + 8 => exact absurd hj (by omega)
theorem hfs_X6 : ∀ j, j < 34 → defaultValue (tyX6 j) = vp_V [.int 0, .null, .null, .null, .null, .int 0, .int 0, .int 0, .int 0, .int 0, .null, .int 0, .null, .int 0, .int 0, .int 0, .int 0, .null, .null, .null, .null, .null, .int 0, .int 0, .int 0, .null, .null, .null, .int 0, .null, .null, .int 0, .null, .int 0] j := by
  intro j hj
  match j with
  | 0 => rfl
  | 1 => rfl
  | 2 => rfl
  | 3 => rfl
  | 4 => rfl
  | 5 => rfl
  | 6 => rfl
  | 7 => rfl
  | 8 => rfl
  | 9 => rfl
  | 10 => rfl
  | 11 => rfl
  | 12 => rfl
  | 13 => rfl
  | 14 => rfl
  | 15 => rfl
  | 16 => rfl
  | 17 => rfl
  | 18 => rfl
  | 19 => rfl
  | 20 => rfl
  | 21 => rfl
  | 22 => rfl
  | 23 => rfl
  | 24 => rfl
  | 25 => rfl
  | 26 => rfl
  | 27 => rfl
  | 28 => rfl
  | 29 => rfl
  | 30 => rfl
  | 31 => rfl
  | 32 => rfl
  | 33 => rfl
  | n + 34 => exact absurd hj (by omega)
theorem pmi_2_0_1 : ([2, 0, 1] : List Nat).isPerm (List.range 3) = true := by decide +kernel
theorem pmi_1_2_0 : ([1, 2, 0] : List Nat).isPerm (List.range 3) = true := by decide +kernel
theorem pmi_3_0_1_2 : ([3, 0, 1, 2] : List Nat).isPerm (List.range 4) = true := by decide +kernel
theorem pmi_1_2_3_0 : ([1, 2, 3, 0] : List Nat).isPerm (List.range 4) = true := by decide +kernel
theorem pmi_4_0_1_2_3 : ([4, 0, 1, 2, 3] : List Nat).isPerm (List.range 5) = true := by decide +kernel
theorem pmi_1_2_3_4_0 : ([1, 2, 3, 4, 0] : List Nat).isPerm (List.range 5) = true := by decide +kernel
theorem pmi_5_0_1_2_3_4 : ([5, 0, 1, 2, 3, 4] : List Nat).isPerm (List.range 6) = true := by decide +kernel
theorem pmi_1_2_3_4_5_0 : ([1, 2, 3, 4, 5, 0] : List Nat).isPerm (List.range 6) = true := by decide +kernel
theorem pmi_6_0_1_2_3_4_5 : ([6, 0, 1, 2, 3, 4, 5] : List Nat).isPerm (List.range 7) = true := by decide +kernel
theorem pmi_1_2_3_4_5_6_0 : ([1, 2, 3, 4, 5, 6, 0] : List Nat).isPerm (List.range 7) = true := by decide +kernel
theorem pmi_7_0_1_2_3_4_5_6 : ([7, 0, 1, 2, 3, 4, 5, 6] : List Nat).isPerm (List.range 8) = true := by decide +kernel
theorem pmi_1_2_3_4_5_6_7_0 : ([1, 2, 3, 4, 5, 6, 7, 0] : List Nat).isPerm (List.range 8) = true := by decide +kernel
theorem pmi_8_0_1_2_3_4_5_6_7 : ([8, 0, 1, 2, 3, 4, 5, 6, 7] : List Nat).isPerm (List.range 9) = true := by decide +kernel
theorem pmi_1_2_3_4_5_6_7_8_0 : ([1, 2, 3, 4, 5, 6, 7, 8, 0] : List Nat).isPerm (List.range 9) = true := by decide +kernel
theorem pmi_9_0_1_2_3_4_5_6_7_8 : ([9, 0, 1, 2, 3, 4, 5, 6, 7, 8] : List Nat).isPerm (List.range 10) = true := by decide +kernel
theorem pmi_1_2_3_4_5_6_7_8_9_0 : ([1, 2, 3, 4, 5, 6, 7, 8, 9, 0] : List Nat).isPerm (List.range 10) = true := by decide +kernel
theorem pmi_1_0 : ([1, 0] : List Nat).isPerm (List.range 2) = true := by decide +kernel
theorem pmi_9_10_11_12_0_1_2_3_4_5_6_7_8 : ([9, 10, 11, 12, 0, 1, 2, 3, 4, 5, 6, 7, 8] : List Nat).isPerm (List.range 13) = true := by decide +kernel
theorem pmi_13_0_1_2_3_4_5_6_7_8_9_10_11_12 : ([13, 0, 1, 2, 3, 4, 5, 6, 7, 8, 9, 10, 11, 12] : List Nat).isPerm (List.range 14) = true := by decide +kernel
theorem pmi_1_2_3_4_5_6_7_8_9_10_11_12_13_0 : ([1, 2, 3, 4, 5, 6, 7, 8, 9, 10, 11, 12, 13, 0] : List Nat).isPerm (List.range 14) = true := by decide +kernel
theorem pmi_14_0_1_2_3_4_5_6_7_8_9_10_11_12_13 : ([14, 0, 1, 2, 3, 4, 5, 6, 7, 8, 9, 10, 11, 12, 13] : List Nat).isPerm (List.range 15) = true := by decide +kernel
theorem pmi_1_2_3_4_5_6_7_8_9_10_11_12_13_14_0 : ([1, 2, 3, 4, 5, 6, 7, 8, 9, 10, 11, 12, 13, 14, 0] : List Nat).isPerm (List.range 15) = true := by decide +kernel
theorem pmi_0_1_2_3_4_6_7_8_9_15_5_10_11_12_13_14_16 : ([0, 1, 2, 3, 4, 6, 7, 8, 9, 15, 5, 10, 11, 12, 13, 14, 16] : List Nat).isPerm (List.range 17) = true := by decide +kernel
set_option maxHeartbeats 4000000 in
set_option maxRecDepth 100000 in
theorem w_X1_init {p : Program} {l : Launch} {e : Env} {s : State} {mi : MethodId} {args : Array Value} {below : List Frame} {meth : Method} {co : Code} {D : va_G} {cI cQ : ClassId} {A : Nat → Prop} {Q : State → Prop} (a0 : Nat) (hin2 : meth.name = "<init>") (C : xC p s mi args co cX1_init RX1 1 D (tyL cI cQ) A) (hret : ∀ (pc : Nat) (u : (Nat → Nat)) (lv : List (Nat × Value)), decode cX1_init pc = .ok (.return_, 1) → u 0 = a0 → xG p l e (rmL 1 1 96 12) s mi args below meth co D A 1 Q 1 96 pc [] ([gLet cI u lZ]) lv) : xG p l e (rmL 1 1 96 12) s mi args below meth co D A 1 Q 0 0 0 [] [[(a0, .inr (0, [.null, .int 0]))]] [(0, .ref a0)] := by
  refine g_aload_n C dX1_init_0 0 rfl rfl ?_
  refine g_objInit C dX1_init_1 ml_X1_3 ⟨Nat.le_of_ble_eq_true rfl, Nat.le_of_ble_eq_true rfl⟩ rfl ?_
  refine g_aload_n C dX1_init_4 0 rfl rfl ?_
  refine g_bipush (v := 96) C dX1_init_5 (by decide) rfl ?_
  refine g_newa (n := 96) (N' := 96) (kc' := 1) (ks' := 96) C dX1_init_7 0 rfl (by decide) (by decide) (Nat.le_of_ble_eq_true rfl) ⟨Nat.le_of_ble_eq_true rfl, Nat.le_of_ble_eq_true rfl⟩ rfl rfl rfl (fun q1 => ?_)
  refine g_putF (v := .ref q1) (ty := .array .int) (ci := 0) (gs' := [[(a0, .inr (0, [.ref q1, .int 0]))], [(q1, .inl (cI, 96, .inl (fun _ => 0)))]]) C dX1_init_9 inw_X1 tyX1 tyX1_ok nmX1 rfl 0 0 0 rfl rfl (Nat.le_of_ble_eq_true rfl) rfl fl_X1_9 rfl hin2 rfl fd_A rfl rfl (Nat.le_of_ble_eq_true rfl) rfl rfl ?_
  refine g_fl (gs' := [gLet cI (adr [a0, q1]) lZ]) rfl ?_
  exact hret 12 (adr [a0, q1]) _ dX1_init_12 rfl
set_option maxRecDepth 100000 in
theorem c_X1_init (l : Launch) (D : va_G) (cI cQ : ClassId) (a0 : Nat) (sz : Nat) : Met l yX1_init (wsY yX1_init cX1_init 1 none) (rmL 1 1 96 12) (xP D (tyL cI cQ) [.ref a0] [[(a0, .inr (0, [.null, .int 0]))]] sz True) (xQv D (tyL cI cQ) (fun (u : (Nat → Nat)) => u 0 = a0) (fun (u : (Nat → Nat)) => [gLet cI u lZ]) (va_A [[(a0, .inr (0, [.null, .int 0]))]].flatten sz)) 1 96 (va_A [[(a0, .inr (0, [.null, .int 0]))]].flatten sz) :=
  Met_v pn_X1 (Nat.le_of_ble_eq_true rfl) (fun p e s mi below meth co A Q hnm C hret _ => w_X1_init a0 hnm C hret)
theorem kI_X1_init : Cond.instanceMethod yX1_init ∈ gTbl ∧ yX1_init.name = "<init>" ∧ Cond.initialized yX1_init.cls ∈ gTbl ∧ Cond.code yX1_init cX1_init 1 none ∈ gTbl ∧ (yX1_init.cls ≠ "java/lang/invoke/MethodHandle" ∧ yX1_init.cls ≠ "java/lang/invoke/VarHandle" ∧ (parseMethodDescriptor yX1_init.desc).map (fun d => d.parameters.length) = some 0) := ⟨im_X1_init, rfl, in_X1, cd_X1_init, (by decide +kernel)⟩
set_option maxHeartbeats 4000000 in
set_option maxRecDepth 100000 in
theorem w_X2_init {p : Program} {l : Launch} {e : Env} {s : State} {mi : MethodId} {args : Array Value} {below : List Frame} {meth : Method} {co : Code} {D : va_G} {cI cQ : ClassId} {A : Nat → Prop} {Q : State → Prop} (a0 : Nat) (hin2 : meth.name = "<init>") (C : xC p s mi args co cX2_init RX2 1 D (tyL cI cQ) A) (hret : ∀ (pc : Nat) (u : (Nat → Nat)) (lv : List (Nat × Value)), decode cX2_init pc = .ok (.return_, 1) → u 0 = a0 → xG p l e (rmL 1 1 12 12) s mi args below meth co D A 1 Q 1 12 pc [] ([gNum cI u lZ]) lv) : xG p l e (rmL 1 1 12 12) s mi args below meth co D A 1 Q 0 0 0 [] [[(a0, .inr (1, [.null, .int 0]))]] [(0, .ref a0)] := by
  refine g_aload_n C dX2_init_0 0 rfl rfl ?_
  refine g_objInit C dX2_init_1 ml_X2_3 ⟨Nat.le_of_ble_eq_true rfl, Nat.le_of_ble_eq_true rfl⟩ rfl ?_
  refine g_aload_n C dX2_init_4 0 rfl rfl ?_
  refine g_bipush (v := 12) C dX2_init_5 (by decide) rfl ?_
  refine g_newa (n := 12) (N' := 12) (kc' := 1) (ks' := 12) C dX2_init_7 0 rfl (by decide) (by decide) (Nat.le_of_ble_eq_true rfl) ⟨Nat.le_of_ble_eq_true rfl, Nat.le_of_ble_eq_true rfl⟩ rfl rfl rfl (fun q1 => ?_)
  refine g_putF (v := .ref q1) (ty := .array .int) (ci := 1) (gs' := [[(a0, .inr (1, [.ref q1, .int 0]))], [(q1, .inl (cI, 12, .inl (fun _ => 0)))]]) C dX2_init_9 inw_X2 tyX2 tyX2_ok nmX2 rfl 0 0 0 rfl rfl (Nat.le_of_ble_eq_true rfl) rfl fl_X2_9 rfl hin2 rfl fd_A rfl rfl (Nat.le_of_ble_eq_true rfl) rfl rfl ?_
  refine g_fl (gs' := [gNum cI (adr [a0, q1]) lZ]) rfl ?_
  exact hret 12 (adr [a0, q1]) _ dX2_init_12 rfl
set_option maxRecDepth 100000 in
theorem c_X2_init (l : Launch) (D : va_G) (cI cQ : ClassId) (a0 : Nat) (sz : Nat) : Met l yX2_init (wsY yX2_init cX2_init 1 none) (rmL 1 1 12 12) (xP D (tyL cI cQ) [.ref a0] [[(a0, .inr (1, [.null, .int 0]))]] sz True) (xQv D (tyL cI cQ) (fun (u : (Nat → Nat)) => u 0 = a0) (fun (u : (Nat → Nat)) => [gNum cI u lZ]) (va_A [[(a0, .inr (1, [.null, .int 0]))]].flatten sz)) 1 12 (va_A [[(a0, .inr (1, [.null, .int 0]))]].flatten sz) :=
  Met_v pn_X2 (Nat.le_of_ble_eq_true rfl) (fun p e s mi below meth co A Q hnm C hret _ => w_X2_init a0 hnm C hret)
theorem kI_X2_init : Cond.instanceMethod yX2_init ∈ gTbl ∧ yX2_init.name = "<init>" ∧ Cond.initialized yX2_init.cls ∈ gTbl ∧ Cond.code yX2_init cX2_init 1 none ∈ gTbl ∧ (yX2_init.cls ≠ "java/lang/invoke/MethodHandle" ∧ yX2_init.cls ≠ "java/lang/invoke/VarHandle" ∧ (parseMethodDescriptor yX2_init.desc).map (fun d => d.parameters.length) = some 0) := ⟨im_X2_init, rfl, in_X2, cd_X2_init, (by decide +kernel)⟩
set_option maxHeartbeats 4000000 in
set_option maxRecDepth 100000 in
theorem w_X3_init {p : Program} {l : Launch} {e : Env} {s : State} {mi : MethodId} {args : Array Value} {below : List Frame} {meth : Method} {co : Code} {D : va_G} {cI cQ : ClassId} {A : Nat → Prop} {Q : State → Prop} (a0 : Nat) (hin2 : meth.name = "<init>") (C : xC p s mi args co cX3_init RX3 1 D (tyL cI cQ) A) (hret : ∀ (pc : Nat) (u : (Nat → Nat)) (lv : List (Nat × Value)), decode cX3_init pc = .ok (.return_, 1) → u 0 = a0 → xG p l e (rmL 1 4 36 12) s mi args below meth co D A 1 Q 4 36 pc [] ([gPar cI u tZ]) lv) : xG p l e (rmL 1 4 36 12) s mi args below meth co D A 1 Q 0 0 0 [] [[(a0, .inr (2, [.null, .null, .null, .null, .int 0, .int 0, .int 0, .int 0, .int 0, .int 0]))]] [(0, .ref a0)] := by
  refine g_aload_n C dX3_init_0 0 rfl rfl ?_
  refine g_objInit C dX3_init_1 ml_X3_3 ⟨Nat.le_of_ble_eq_true rfl, Nat.le_of_ble_eq_true rfl⟩ rfl ?_
  refine g_aload_n C dX3_init_4 0 rfl rfl ?_
  refine g_bipush (v := 9) C dX3_init_5 (by decide) rfl ?_
  refine g_newa (n := 9) (N' := 9) (kc' := 1) (ks' := 9) C dX3_init_7 0 rfl (by decide) (by decide) (Nat.le_of_ble_eq_true rfl) ⟨Nat.le_of_ble_eq_true rfl, Nat.le_of_ble_eq_true rfl⟩ rfl rfl rfl (fun q1 => ?_)
  refine g_putF (v := .ref q1) (ty := .array .int) (ci := 2) (gs' := [[(a0, .inr (2, [.ref q1, .null, .null, .null, .int 0, .int 0, .int 0, .int 0, .int 0, .int 0]))], [(q1, .inl (cI, 9, .inl (fun _ => 0)))]]) C dX3_init_9 inw_X3 tyX3 tyX3_ok nmX3 rfl 0 0 0 rfl rfl (Nat.le_of_ble_eq_true rfl) rfl fl_X3_9 rfl hin2 rfl fd_A rfl rfl (Nat.le_of_ble_eq_true rfl) rfl rfl ?_
  refine g_aload_n C dX3_init_12 0 rfl rfl ?_
  refine g_bipush (v := 9) C dX3_init_13 (by decide) rfl ?_
  refine g_newa (n := 9) (N' := 9) (kc' := 2) (ks' := 18) C dX3_init_15 0 rfl (by decide) (by decide) (Nat.le_of_ble_eq_true rfl) ⟨Nat.le_of_ble_eq_true rfl, Nat.le_of_ble_eq_true rfl⟩ rfl rfl rfl (fun q2 => ?_)
  refine g_putF (v := .ref q2) (ty := .array .int) (ci := 2) (gs' := [[(a0, .inr (2, [.ref q1, .ref q2, .null, .null, .int 0, .int 0, .int 0, .int 0, .int 0, .int 0]))], [(q1, .inl (cI, 9, .inl (fun _ => 0)))], [(q2, .inl (cI, 9, .inl (fun _ => 0)))]]) C dX3_init_17 inw_X3 tyX3 tyX3_ok nmX3 rfl 0 0 1 rfl rfl (Nat.le_of_ble_eq_true rfl) rfl fl_X3_15 rfl hin2 rfl fd_A rfl rfl (Nat.le_of_ble_eq_true rfl) rfl rfl ?_
  refine g_aload_n C dX3_init_20 0 rfl rfl ?_
  refine g_bipush (v := 9) C dX3_init_21 (by decide) rfl ?_
  refine g_newa (n := 9) (N' := 9) (kc' := 3) (ks' := 27) C dX3_init_23 0 rfl (by decide) (by decide) (Nat.le_of_ble_eq_true rfl) ⟨Nat.le_of_ble_eq_true rfl, Nat.le_of_ble_eq_true rfl⟩ rfl rfl rfl (fun q3 => ?_)
  refine g_putF (v := .ref q3) (ty := .array .int) (ci := 2) (gs' := [[(a0, .inr (2, [.ref q1, .ref q2, .ref q3, .null, .int 0, .int 0, .int 0, .int 0, .int 0, .int 0]))], [(q1, .inl (cI, 9, .inl (fun _ => 0)))], [(q2, .inl (cI, 9, .inl (fun _ => 0)))], [(q3, .inl (cI, 9, .inl (fun _ => 0)))]]) C dX3_init_25 inw_X3 tyX3 tyX3_ok nmX3 rfl 0 0 2 rfl rfl (Nat.le_of_ble_eq_true rfl) rfl fl_X3_18 rfl hin2 rfl fd_A rfl rfl (Nat.le_of_ble_eq_true rfl) rfl rfl ?_
  refine g_aload_n C dX3_init_28 0 rfl rfl ?_
  refine g_bipush (v := 9) C dX3_init_29 (by decide) rfl ?_
  refine g_newa (n := 9) (N' := 9) (kc' := 4) (ks' := 36) C dX3_init_31 0 rfl (by decide) (by decide) (Nat.le_of_ble_eq_true rfl) ⟨Nat.le_of_ble_eq_true rfl, Nat.le_of_ble_eq_true rfl⟩ rfl rfl rfl (fun q4 => ?_)
  refine g_putF (v := .ref q4) (ty := .array .int) (ci := 2) (gs' := [[(a0, .inr (2, [.ref q1, .ref q2, .ref q3, .ref q4, .int 0, .int 0, .int 0, .int 0, .int 0, .int 0]))], [(q1, .inl (cI, 9, .inl (fun _ => 0)))], [(q2, .inl (cI, 9, .inl (fun _ => 0)))], [(q3, .inl (cI, 9, .inl (fun _ => 0)))], [(q4, .inl (cI, 9, .inl (fun _ => 0)))]]) C dX3_init_33 inw_X3 tyX3 tyX3_ok nmX3 rfl 0 0 3 rfl rfl (Nat.le_of_ble_eq_true rfl) rfl fl_X3_21 rfl hin2 rfl fd_A rfl rfl (Nat.le_of_ble_eq_true rfl) rfl rfl ?_
  refine g_fl (gs' := [gPar cI (adr [a0, q1, q2, q3, q4]) tZ]) rfl ?_
  exact hret 36 (adr [a0, q1, q2, q3, q4]) _ dX3_init_36 rfl
set_option maxRecDepth 100000 in
theorem c_X3_init (l : Launch) (D : va_G) (cI cQ : ClassId) (a0 : Nat) (sz : Nat) : Met l yX3_init (wsY yX3_init cX3_init 1 none) (rmL 1 4 36 12) (xP D (tyL cI cQ) [.ref a0] [[(a0, .inr (2, [.null, .null, .null, .null, .int 0, .int 0, .int 0, .int 0, .int 0, .int 0]))]] sz True) (xQv D (tyL cI cQ) (fun (u : (Nat → Nat)) => u 0 = a0) (fun (u : (Nat → Nat)) => [gPar cI u tZ]) (va_A [[(a0, .inr (2, [.null, .null, .null, .null, .int 0, .int 0, .int 0, .int 0, .int 0, .int 0]))]].flatten sz)) 4 36 (va_A [[(a0, .inr (2, [.null, .null, .null, .null, .int 0, .int 0, .int 0, .int 0, .int 0, .int 0]))]].flatten sz) :=
  Met_v pn_X3 (Nat.le_of_ble_eq_true rfl) (fun p e s mi below meth co A Q hnm C hret _ => w_X3_init a0 hnm C hret)
theorem kI_X3_init : Cond.instanceMethod yX3_init ∈ gTbl ∧ yX3_init.name = "<init>" ∧ Cond.initialized yX3_init.cls ∈ gTbl ∧ Cond.code yX3_init cX3_init 1 none ∈ gTbl ∧ (yX3_init.cls ≠ "java/lang/invoke/MethodHandle" ∧ yX3_init.cls ≠ "java/lang/invoke/VarHandle" ∧ (parseMethodDescriptor yX3_init.desc).map (fun d => d.parameters.length) = some 0) := ⟨im_X3_init, rfl, in_X3, cd_X3_init, (by decide +kernel)⟩
set_option maxHeartbeats 4000000 in
set_option maxRecDepth 100000 in
theorem w_X4_init {p : Program} {l : Launch} {e : Env} {s : State} {mi : MethodId} {args : Array Value} {below : List Frame} {meth : Method} {co : Code} {D : va_G} {cI cQ : ClassId} {A : Nat → Prop} {Q : State → Prop} (a0 : Nat) (hin2 : meth.name = "<init>") (C : xC p s mi args co cX4_init RX4 2 D (tyL cI cQ) A) (hret : ∀ (pc : Nat) (u : (Nat → Nat) × (Nat → Nat → Nat)) (lv : List (Nat × Value)), decode cX4_init pc = .ok (.return_, 1) → u.1 0 = a0 → xG p l e (rmL 2 41 376 32) s mi args below meth co D A 2 Q 41 376 pc [] ([gPas cQ u.1 u.2 (0, 0), gPar cI (u.2 0) tZ, gPar cI (u.2 1) tZ, gPar cI (u.2 2) tZ, gPar cI (u.2 3) tZ, gPar cI (u.2 4) tZ, gPar cI (u.2 5) tZ, gPar cI (u.2 6) tZ, gPar cI (u.2 7) tZ]) lv) : xG p l e (rmL 2 41 376 32) s mi args below meth co D A 2 Q 0 0 0 [] [[(a0, .inr (3, [.null, .int 0, .int 0]))]] [(0, .ref a0)] := by
  refine g_aload_n C dX4_init_0 0 rfl rfl ?_
  refine g_objInit C dX4_init_1 ml_X4_3 ⟨Nat.le_of_ble_eq_true rfl, Nat.le_of_ble_eq_true rfl⟩ rfl ?_
  refine g_aload_n C dX4_init_4 0 rfl rfl ?_
  refine g_bipush (v := 8) C dX4_init_5 (by decide) rfl ?_
  refine g_newq (n := 8) (N' := 8) (kc' := 1) (ks' := 8) C dX4_init_7 cl_X4_9 1 rfl (by decide) (by decide) (Nat.le_of_ble_eq_true rfl) ⟨Nat.le_of_ble_eq_true rfl, Nat.le_of_ble_eq_true rfl⟩ rfl rfl rfl (fun q1 => ?_)
  refine g_putF (v := .ref q1) (ty := .array (.object "Percolated$Parish")) (ci := 3) (gs' := [[(a0, .inr (3, [.ref q1, .int 0, .int 0]))], [(q1, .inl (cQ, 8, .inr (.inr (.inr (.inr (fun _ => none))))))]]) C dX4_init_10 inw_X4 tyX4 tyX4_ok nmX4 rfl 0 0 0 rfl rfl (Nat.le_of_ble_eq_true rfl) rfl fl_X4_11 rfl hin2 rfl fd_Pa rfl rfl (Nat.le_of_ble_eq_true rfl) rfl rfl ?_
  refine g_iconst (v := 0) C dX4_init_13 rfl rfl ?_
  refine g_istore_n (v := 0) C dX4_init_14 rfl (Nat.le_of_ble_eq_true rfl) (lv' := [(1, .int 0), (0, .ref a0)]) rfl rfl ?_
  refine g_iload_n C dX4_init_15 0 rfl rfl ?_
  refine g_aload_n C dX4_init_16 1 rfl rfl ?_
  refine g_get (v := .ref q1) (ci := 3) C dX4_init_17 inw_X4 rfl 0 0 0 rfl rfl (Nat.le_of_ble_eq_true rfl) rfl fl_X4_11 rfl rfl ?_
  refine g_alen (v := 8) C dX4_init_20 1 0 rfl rfl 1 rfl rfl rfl ?_
  refine g_icmp_ge (A1 := True) (B1 := True) (tgt := 43) C dX4_init_21 (by decide) rfl ⟨fun _ => trivial, fun _ => trivial⟩ (fun h _ => absurd h (by decide)) (fun _ _ => ?_)
  refine g_aload_n C dX4_init_24 1 rfl rfl ?_
  refine g_get (v := .ref q1) (ci := 3) C dX4_init_25 inw_X4 rfl 0 0 0 rfl rfl (Nat.le_of_ble_eq_true rfl) rfl fl_X4_11 rfl rfl ?_
  refine g_iload_n C dX4_init_28 0 rfl rfl ?_
  refine g_new (fs := [.null, .null, .null, .null, .int 0, .int 0, .int 0, .int 0, .int 0, .int 0]) (ci := 2) (kc' := 2) (ks' := 18) C dX4_init_29 inw_X3 tyX3 tyX3_ok cl_X4_9 ia_X3 in_X3 rfl hfs_X3 ⟨Nat.le_of_ble_eq_true rfl, Nat.le_of_ble_eq_true rfl⟩ rfl rfl rfl (fun q2 => ?_)
  refine g_dup C dX4_init_32 rfl rfl ?_
  refine g_callIv (As := []) (gr := [[(a0, .inr (3, [.ref q1, .int 0, .int 0]))], [(q1, .inl (cQ, 8, .inr (.inr (.inr (.inr (fun _ => none))))))]]) C (c_X3_init l D cI cQ q2) dX4_init_33 ⟨ml_X4_17, kI_X3_init⟩ ⟨Nat.le_of_ble_eq_true rfl, Nat.le_of_ble_eq_true rfl⟩ ⟨Nat.le_of_ble_eq_true rfl, Nat.le_of_ble_eq_true rfl⟩ [2, 0, 1] 3 rfl pmi_2_0_1 rfl rfl rfl (Nat.le_of_ble_eq_true rfl) rfl (fun (u : (Nat → Nat)) => [[(a0, .inr (3, [.ref q1, .int 0, .int 0]))], [(q1, .inl (cQ, 8, .inr (.inr (.inr (.inr (fun _ => none))))))], gPar cI u tZ]) [1, 2, 0] 3 (fun _ => rfl) pmi_1_2_0 (fun _ => rfl) trivial (fun u3 hu3 => ?_)
  try dsimp only at hu3
  subst hu3
  refine g_aast (ci := 2) (gs' := [[(a0, .inr (3, [.ref q1, .int 0, .int 0]))], [(q1, .inl (cQ, 8, .inr (.inr (.inr (.inr (va_up (fun _ => none) (0 : Int32).toNatClampNeg (some (u3 0))))))))], gPar cI u3 tZ]) C dX4_init_36 1 0 2 0 rfl rfl 1 rfl rfl rfl rfl (by unfold vp_in; decide) rfl rfl ?_
  refine g_iinc (v := 1) (j := 0) C dX4_init_37 rfl (by decide) (Nat.le_of_ble_eq_true rfl) (lv' := [(1, .int 1), (0, .ref a0)]) rfl rfl ?_
  refine g_goto (pc' := 15) C dX4_init_40 (by decide) rfl ?_
  refine g_iload_n C dX4_init_15 0 rfl rfl ?_
  refine g_aload_n C dX4_init_16 1 rfl rfl ?_
  refine g_get (v := .ref q1) (ci := 3) C dX4_init_17 inw_X4 rfl 0 0 0 rfl rfl (Nat.le_of_ble_eq_true rfl) rfl fl_X4_11 rfl rfl ?_
  refine g_alen (v := 8) C dX4_init_20 1 0 rfl rfl 1 rfl rfl rfl ?_
  refine g_icmp_ge (A1 := True) (B1 := True) (tgt := 43) C dX4_init_21 (by decide) rfl ⟨fun _ => trivial, fun _ => trivial⟩ (fun h _ => absurd h (by decide)) (fun _ _ => ?_)
  refine g_aload_n C dX4_init_24 1 rfl rfl ?_
  refine g_get (v := .ref q1) (ci := 3) C dX4_init_25 inw_X4 rfl 0 0 0 rfl rfl (Nat.le_of_ble_eq_true rfl) rfl fl_X4_11 rfl rfl ?_
  refine g_iload_n C dX4_init_28 0 rfl rfl ?_
  refine g_new (fs := [.null, .null, .null, .null, .int 0, .int 0, .int 0, .int 0, .int 0, .int 0]) (ci := 2) (kc' := 7) (ks' := 64) C dX4_init_29 inw_X3 tyX3 tyX3_ok cl_X4_9 ia_X3 in_X3 rfl hfs_X3 ⟨Nat.le_of_ble_eq_true rfl, Nat.le_of_ble_eq_true rfl⟩ rfl rfl rfl (fun q4 => ?_)
  refine g_dup C dX4_init_32 rfl rfl ?_
  refine g_callIv (As := []) (gr := [[(a0, .inr (3, [.ref q1, .int 0, .int 0]))], [(q1, .inl (cQ, 8, .inr (.inr (.inr (.inr (va_up (fun _ => none) (0 : Int32).toNatClampNeg (some (u3 0))))))))], gPar cI u3 tZ]) C (c_X3_init l D cI cQ q4) dX4_init_33 ⟨ml_X4_17, kI_X3_init⟩ ⟨Nat.le_of_ble_eq_true rfl, Nat.le_of_ble_eq_true rfl⟩ ⟨Nat.le_of_ble_eq_true rfl, Nat.le_of_ble_eq_true rfl⟩ [3, 0, 1, 2] 4 rfl pmi_3_0_1_2 rfl rfl rfl (Nat.le_of_ble_eq_true rfl) rfl (fun (u : (Nat → Nat)) => [[(a0, .inr (3, [.ref q1, .int 0, .int 0]))], [(q1, .inl (cQ, 8, .inr (.inr (.inr (.inr (va_up (fun _ => none) (0 : Int32).toNatClampNeg (some (u3 0))))))))], gPar cI u3 tZ, gPar cI u tZ]) [1, 2, 3, 0] 4 (fun _ => rfl) pmi_1_2_3_0 (fun _ => rfl) trivial (fun u5 hu5 => ?_)
  try dsimp only at hu5
  subst hu5
  refine g_aast (ci := 2) (gs' := [[(a0, .inr (3, [.ref q1, .int 0, .int 0]))], [(q1, .inl (cQ, 8, .inr (.inr (.inr (.inr (va_up (va_up (fun _ => none) (0 : Int32).toNatClampNeg (some (u3 0))) (1 : Int32).toNatClampNeg (some (u5 0))))))))], gPar cI u3 tZ, gPar cI u5 tZ]) C dX4_init_36 1 0 3 0 rfl rfl 1 rfl rfl rfl rfl (by unfold vp_in; decide) rfl rfl ?_
  refine g_iinc (v := 2) (j := 0) C dX4_init_37 rfl (by decide) (Nat.le_of_ble_eq_true rfl) (lv' := [(1, .int 2), (0, .ref a0)]) rfl rfl ?_
  refine g_goto (pc' := 15) C dX4_init_40 (by decide) rfl ?_
  refine g_iload_n C dX4_init_15 0 rfl rfl ?_
  refine g_aload_n C dX4_init_16 1 rfl rfl ?_
  refine g_get (v := .ref q1) (ci := 3) C dX4_init_17 inw_X4 rfl 0 0 0 rfl rfl (Nat.le_of_ble_eq_true rfl) rfl fl_X4_11 rfl rfl ?_
  refine g_alen (v := 8) C dX4_init_20 1 0 rfl rfl 1 rfl rfl rfl ?_
  refine g_icmp_ge (A1 := True) (B1 := True) (tgt := 43) C dX4_init_21 (by decide) rfl ⟨fun _ => trivial, fun _ => trivial⟩ (fun h _ => absurd h (by decide)) (fun _ _ => ?_)
  refine g_aload_n C dX4_init_24 1 rfl rfl ?_
  refine g_get (v := .ref q1) (ci := 3) C dX4_init_25 inw_X4 rfl 0 0 0 rfl rfl (Nat.le_of_ble_eq_true rfl) rfl fl_X4_11 rfl rfl ?_
  refine g_iload_n C dX4_init_28 0 rfl rfl ?_
  refine g_new (fs := [.null, .null, .null, .null, .int 0, .int 0, .int 0, .int 0, .int 0, .int 0]) (ci := 2) (kc' := 12) (ks' := 110) C dX4_init_29 inw_X3 tyX3 tyX3_ok cl_X4_9 ia_X3 in_X3 rfl hfs_X3 ⟨Nat.le_of_ble_eq_true rfl, Nat.le_of_ble_eq_true rfl⟩ rfl rfl rfl (fun q6 => ?_)
  refine g_dup C dX4_init_32 rfl rfl ?_
  refine g_callIv (As := []) (gr := [[(a0, .inr (3, [.ref q1, .int 0, .int 0]))], [(q1, .inl (cQ, 8, .inr (.inr (.inr (.inr (va_up (va_up (fun _ => none) (0 : Int32).toNatClampNeg (some (u3 0))) (1 : Int32).toNatClampNeg (some (u5 0))))))))], gPar cI u3 tZ, gPar cI u5 tZ]) C (c_X3_init l D cI cQ q6) dX4_init_33 ⟨ml_X4_17, kI_X3_init⟩ ⟨Nat.le_of_ble_eq_true rfl, Nat.le_of_ble_eq_true rfl⟩ ⟨Nat.le_of_ble_eq_true rfl, Nat.le_of_ble_eq_true rfl⟩ [4, 0, 1, 2, 3] 5 rfl pmi_4_0_1_2_3 rfl rfl rfl (Nat.le_of_ble_eq_true rfl) rfl (fun (u : (Nat → Nat)) => [[(a0, .inr (3, [.ref q1, .int 0, .int 0]))], [(q1, .inl (cQ, 8, .inr (.inr (.inr (.inr (va_up (va_up (fun _ => none) (0 : Int32).toNatClampNeg (some (u3 0))) (1 : Int32).toNatClampNeg (some (u5 0))))))))], gPar cI u3 tZ, gPar cI u5 tZ, gPar cI u tZ]) [1, 2, 3, 4, 0] 5 (fun _ => rfl) pmi_1_2_3_4_0 (fun _ => rfl) trivial (fun u7 hu7 => ?_)
  try dsimp only at hu7
  subst hu7
  refine g_aast (ci := 2) (gs' := [[(a0, .inr (3, [.ref q1, .int 0, .int 0]))], [(q1, .inl (cQ, 8, .inr (.inr (.inr (.inr (va_up (va_up (va_up (fun _ => none) (0 : Int32).toNatClampNeg (some (u3 0))) (1 : Int32).toNatClampNeg (some (u5 0))) (2 : Int32).toNatClampNeg (some (u7 0))))))))], gPar cI u3 tZ, gPar cI u5 tZ, gPar cI u7 tZ]) C dX4_init_36 1 0 4 0 rfl rfl 1 rfl rfl rfl rfl (by unfold vp_in; decide) rfl rfl ?_
  refine g_iinc (v := 3) (j := 0) C dX4_init_37 rfl (by decide) (Nat.le_of_ble_eq_true rfl) (lv' := [(1, .int 3), (0, .ref a0)]) rfl rfl ?_
  refine g_goto (pc' := 15) C dX4_init_40 (by decide) rfl ?_
  refine g_iload_n C dX4_init_15 0 rfl rfl ?_
  refine g_aload_n C dX4_init_16 1 rfl rfl ?_
  refine g_get (v := .ref q1) (ci := 3) C dX4_init_17 inw_X4 rfl 0 0 0 rfl rfl (Nat.le_of_ble_eq_true rfl) rfl fl_X4_11 rfl rfl ?_
  refine g_alen (v := 8) C dX4_init_20 1 0 rfl rfl 1 rfl rfl rfl ?_
  refine g_icmp_ge (A1 := True) (B1 := True) (tgt := 43) C dX4_init_21 (by decide) rfl ⟨fun _ => trivial, fun _ => trivial⟩ (fun h _ => absurd h (by decide)) (fun _ _ => ?_)
  refine g_aload_n C dX4_init_24 1 rfl rfl ?_
  refine g_get (v := .ref q1) (ci := 3) C dX4_init_25 inw_X4 rfl 0 0 0 rfl rfl (Nat.le_of_ble_eq_true rfl) rfl fl_X4_11 rfl rfl ?_
  refine g_iload_n C dX4_init_28 0 rfl rfl ?_
  refine g_new (fs := [.null, .null, .null, .null, .int 0, .int 0, .int 0, .int 0, .int 0, .int 0]) (ci := 2) (kc' := 17) (ks' := 156) C dX4_init_29 inw_X3 tyX3 tyX3_ok cl_X4_9 ia_X3 in_X3 rfl hfs_X3 ⟨Nat.le_of_ble_eq_true rfl, Nat.le_of_ble_eq_true rfl⟩ rfl rfl rfl (fun q8 => ?_)
  refine g_dup C dX4_init_32 rfl rfl ?_
  refine g_callIv (As := []) (gr := [[(a0, .inr (3, [.ref q1, .int 0, .int 0]))], [(q1, .inl (cQ, 8, .inr (.inr (.inr (.inr (va_up (va_up (va_up (fun _ => none) (0 : Int32).toNatClampNeg (some (u3 0))) (1 : Int32).toNatClampNeg (some (u5 0))) (2 : Int32).toNatClampNeg (some (u7 0))))))))], gPar cI u3 tZ, gPar cI u5 tZ, gPar cI u7 tZ]) C (c_X3_init l D cI cQ q8) dX4_init_33 ⟨ml_X4_17, kI_X3_init⟩ ⟨Nat.le_of_ble_eq_true rfl, Nat.le_of_ble_eq_true rfl⟩ ⟨Nat.le_of_ble_eq_true rfl, Nat.le_of_ble_eq_true rfl⟩ [5, 0, 1, 2, 3, 4] 6 rfl pmi_5_0_1_2_3_4 rfl rfl rfl (Nat.le_of_ble_eq_true rfl) rfl (fun (u : (Nat → Nat)) => [[(a0, .inr (3, [.ref q1, .int 0, .int 0]))], [(q1, .inl (cQ, 8, .inr (.inr (.inr (.inr (va_up (va_up (va_up (fun _ => none) (0 : Int32).toNatClampNeg (some (u3 0))) (1 : Int32).toNatClampNeg (some (u5 0))) (2 : Int32).toNatClampNeg (some (u7 0))))))))], gPar cI u3 tZ, gPar cI u5 tZ, gPar cI u7 tZ, gPar cI u tZ]) [1, 2, 3, 4, 5, 0] 6 (fun _ => rfl) pmi_1_2_3_4_5_0 (fun _ => rfl) trivial (fun u9 hu9 => ?_)
  try dsimp only at hu9
  subst hu9
  refine g_aast (ci := 2) (gs' := [[(a0, .inr (3, [.ref q1, .int 0, .int 0]))], [(q1, .inl (cQ, 8, .inr (.inr (.inr (.inr (va_up (va_up (va_up (va_up (fun _ => none) (0 : Int32).toNatClampNeg (some (u3 0))) (1 : Int32).toNatClampNeg (some (u5 0))) (2 : Int32).toNatClampNeg (some (u7 0))) (3 : Int32).toNatClampNeg (some (u9 0))))))))], gPar cI u3 tZ, gPar cI u5 tZ, gPar cI u7 tZ, gPar cI u9 tZ]) C dX4_init_36 1 0 5 0 rfl rfl 1 rfl rfl rfl rfl (by unfold vp_in; decide) rfl rfl ?_
  refine g_iinc (v := 4) (j := 0) C dX4_init_37 rfl (by decide) (Nat.le_of_ble_eq_true rfl) (lv' := [(1, .int 4), (0, .ref a0)]) rfl rfl ?_
  refine g_goto (pc' := 15) C dX4_init_40 (by decide) rfl ?_
  refine g_iload_n C dX4_init_15 0 rfl rfl ?_
  refine g_aload_n C dX4_init_16 1 rfl rfl ?_
  refine g_get (v := .ref q1) (ci := 3) C dX4_init_17 inw_X4 rfl 0 0 0 rfl rfl (Nat.le_of_ble_eq_true rfl) rfl fl_X4_11 rfl rfl ?_
  refine g_alen (v := 8) C dX4_init_20 1 0 rfl rfl 1 rfl rfl rfl ?_
  refine g_icmp_ge (A1 := True) (B1 := True) (tgt := 43) C dX4_init_21 (by decide) rfl ⟨fun _ => trivial, fun _ => trivial⟩ (fun h _ => absurd h (by decide)) (fun _ _ => ?_)
  refine g_aload_n C dX4_init_24 1 rfl rfl ?_
  refine g_get (v := .ref q1) (ci := 3) C dX4_init_25 inw_X4 rfl 0 0 0 rfl rfl (Nat.le_of_ble_eq_true rfl) rfl fl_X4_11 rfl rfl ?_
  refine g_iload_n C dX4_init_28 0 rfl rfl ?_
  refine g_new (fs := [.null, .null, .null, .null, .int 0, .int 0, .int 0, .int 0, .int 0, .int 0]) (ci := 2) (kc' := 22) (ks' := 202) C dX4_init_29 inw_X3 tyX3 tyX3_ok cl_X4_9 ia_X3 in_X3 rfl hfs_X3 ⟨Nat.le_of_ble_eq_true rfl, Nat.le_of_ble_eq_true rfl⟩ rfl rfl rfl (fun q10 => ?_)
  refine g_dup C dX4_init_32 rfl rfl ?_
  refine g_callIv (As := []) (gr := [[(a0, .inr (3, [.ref q1, .int 0, .int 0]))], [(q1, .inl (cQ, 8, .inr (.inr (.inr (.inr (va_up (va_up (va_up (va_up (fun _ => none) (0 : Int32).toNatClampNeg (some (u3 0))) (1 : Int32).toNatClampNeg (some (u5 0))) (2 : Int32).toNatClampNeg (some (u7 0))) (3 : Int32).toNatClampNeg (some (u9 0))))))))], gPar cI u3 tZ, gPar cI u5 tZ, gPar cI u7 tZ, gPar cI u9 tZ]) C (c_X3_init l D cI cQ q10) dX4_init_33 ⟨ml_X4_17, kI_X3_init⟩ ⟨Nat.le_of_ble_eq_true rfl, Nat.le_of_ble_eq_true rfl⟩ ⟨Nat.le_of_ble_eq_true rfl, Nat.le_of_ble_eq_true rfl⟩ [6, 0, 1, 2, 3, 4, 5] 7 rfl pmi_6_0_1_2_3_4_5 rfl rfl rfl (Nat.le_of_ble_eq_true rfl) rfl (fun (u : (Nat → Nat)) => [[(a0, .inr (3, [.ref q1, .int 0, .int 0]))], [(q1, .inl (cQ, 8, .inr (.inr (.inr (.inr (va_up (va_up (va_up (va_up (fun _ => none) (0 : Int32).toNatClampNeg (some (u3 0))) (1 : Int32).toNatClampNeg (some (u5 0))) (2 : Int32).toNatClampNeg (some (u7 0))) (3 : Int32).toNatClampNeg (some (u9 0))))))))], gPar cI u3 tZ, gPar cI u5 tZ, gPar cI u7 tZ, gPar cI u9 tZ, gPar cI u tZ]) [1, 2, 3, 4, 5, 6, 0] 7 (fun _ => rfl) pmi_1_2_3_4_5_6_0 (fun _ => rfl) trivial (fun u11 hu11 => ?_)
  try dsimp only at hu11
  subst hu11
  refine g_aast (ci := 2) (gs' := [[(a0, .inr (3, [.ref q1, .int 0, .int 0]))], [(q1, .inl (cQ, 8, .inr (.inr (.inr (.inr (va_up (va_up (va_up (va_up (va_up (fun _ => none) (0 : Int32).toNatClampNeg (some (u3 0))) (1 : Int32).toNatClampNeg (some (u5 0))) (2 : Int32).toNatClampNeg (some (u7 0))) (3 : Int32).toNatClampNeg (some (u9 0))) (4 : Int32).toNatClampNeg (some (u11 0))))))))], gPar cI u3 tZ, gPar cI u5 tZ, gPar cI u7 tZ, gPar cI u9 tZ, gPar cI u11 tZ]) C dX4_init_36 1 0 6 0 rfl rfl 1 rfl rfl rfl rfl (by unfold vp_in; decide) rfl rfl ?_
  refine g_iinc (v := 5) (j := 0) C dX4_init_37 rfl (by decide) (Nat.le_of_ble_eq_true rfl) (lv' := [(1, .int 5), (0, .ref a0)]) rfl rfl ?_
  refine g_goto (pc' := 15) C dX4_init_40 (by decide) rfl ?_
  refine g_iload_n C dX4_init_15 0 rfl rfl ?_
  refine g_aload_n C dX4_init_16 1 rfl rfl ?_
  refine g_get (v := .ref q1) (ci := 3) C dX4_init_17 inw_X4 rfl 0 0 0 rfl rfl (Nat.le_of_ble_eq_true rfl) rfl fl_X4_11 rfl rfl ?_
  refine g_alen (v := 8) C dX4_init_20 1 0 rfl rfl 1 rfl rfl rfl ?_
  refine g_icmp_ge (A1 := True) (B1 := True) (tgt := 43) C dX4_init_21 (by decide) rfl ⟨fun _ => trivial, fun _ => trivial⟩ (fun h _ => absurd h (by decide)) (fun _ _ => ?_)
  refine g_aload_n C dX4_init_24 1 rfl rfl ?_
  refine g_get (v := .ref q1) (ci := 3) C dX4_init_25 inw_X4 rfl 0 0 0 rfl rfl (Nat.le_of_ble_eq_true rfl) rfl fl_X4_11 rfl rfl ?_
  refine g_iload_n C dX4_init_28 0 rfl rfl ?_
  refine g_new (fs := [.null, .null, .null, .null, .int 0, .int 0, .int 0, .int 0, .int 0, .int 0]) (ci := 2) (kc' := 27) (ks' := 248) C dX4_init_29 inw_X3 tyX3 tyX3_ok cl_X4_9 ia_X3 in_X3 rfl hfs_X3 ⟨Nat.le_of_ble_eq_true rfl, Nat.le_of_ble_eq_true rfl⟩ rfl rfl rfl (fun q12 => ?_)
  refine g_dup C dX4_init_32 rfl rfl ?_
  refine g_callIv (As := []) (gr := [[(a0, .inr (3, [.ref q1, .int 0, .int 0]))], [(q1, .inl (cQ, 8, .inr (.inr (.inr (.inr (va_up (va_up (va_up (va_up (va_up (fun _ => none) (0 : Int32).toNatClampNeg (some (u3 0))) (1 : Int32).toNatClampNeg (some (u5 0))) (2 : Int32).toNatClampNeg (some (u7 0))) (3 : Int32).toNatClampNeg (some (u9 0))) (4 : Int32).toNatClampNeg (some (u11 0))))))))], gPar cI u3 tZ, gPar cI u5 tZ, gPar cI u7 tZ, gPar cI u9 tZ, gPar cI u11 tZ]) C (c_X3_init l D cI cQ q12) dX4_init_33 ⟨ml_X4_17, kI_X3_init⟩ ⟨Nat.le_of_ble_eq_true rfl, Nat.le_of_ble_eq_true rfl⟩ ⟨Nat.le_of_ble_eq_true rfl, Nat.le_of_ble_eq_true rfl⟩ [7, 0, 1, 2, 3, 4, 5, 6] 8 rfl pmi_7_0_1_2_3_4_5_6 rfl rfl rfl (Nat.le_of_ble_eq_true rfl) rfl (fun (u : (Nat → Nat)) => [[(a0, .inr (3, [.ref q1, .int 0, .int 0]))], [(q1, .inl (cQ, 8, .inr (.inr (.inr (.inr (va_up (va_up (va_up (va_up (va_up (fun _ => none) (0 : Int32).toNatClampNeg (some (u3 0))) (1 : Int32).toNatClampNeg (some (u5 0))) (2 : Int32).toNatClampNeg (some (u7 0))) (3 : Int32).toNatClampNeg (some (u9 0))) (4 : Int32).toNatClampNeg (some (u11 0))))))))], gPar cI u3 tZ, gPar cI u5 tZ, gPar cI u7 tZ, gPar cI u9 tZ, gPar cI u11 tZ, gPar cI u tZ]) [1, 2, 3, 4, 5, 6, 7, 0] 8 (fun _ => rfl) pmi_1_2_3_4_5_6_7_0 (fun _ => rfl) trivial (fun u13 hu13 => ?_)
  try dsimp only at hu13
  subst hu13
  refine g_aast (ci := 2) (gs' := [[(a0, .inr (3, [.ref q1, .int 0, .int 0]))], [(q1, .inl (cQ, 8, .inr (.inr (.inr (.inr (va_up (va_up (va_up (va_up (va_up (va_up (fun _ => none) (0 : Int32).toNatClampNeg (some (u3 0))) (1 : Int32).toNatClampNeg (some (u5 0))) (2 : Int32).toNatClampNeg (some (u7 0))) (3 : Int32).toNatClampNeg (some (u9 0))) (4 : Int32).toNatClampNeg (some (u11 0))) (5 : Int32).toNatClampNeg (some (u13 0))))))))], gPar cI u3 tZ, gPar cI u5 tZ, gPar cI u7 tZ, gPar cI u9 tZ, gPar cI u11 tZ, gPar cI u13 tZ]) C dX4_init_36 1 0 7 0 rfl rfl 1 rfl rfl rfl rfl (by unfold vp_in; decide) rfl rfl ?_
  refine g_iinc (v := 6) (j := 0) C dX4_init_37 rfl (by decide) (Nat.le_of_ble_eq_true rfl) (lv' := [(1, .int 6), (0, .ref a0)]) rfl rfl ?_
  refine g_goto (pc' := 15) C dX4_init_40 (by decide) rfl ?_
  refine g_iload_n C dX4_init_15 0 rfl rfl ?_
  refine g_aload_n C dX4_init_16 1 rfl rfl ?_
  refine g_get (v := .ref q1) (ci := 3) C dX4_init_17 inw_X4 rfl 0 0 0 rfl rfl (Nat.le_of_ble_eq_true rfl) rfl fl_X4_11 rfl rfl ?_
  refine g_alen (v := 8) C dX4_init_20 1 0 rfl rfl 1 rfl rfl rfl ?_
  refine g_icmp_ge (A1 := True) (B1 := True) (tgt := 43) C dX4_init_21 (by decide) rfl ⟨fun _ => trivial, fun _ => trivial⟩ (fun h _ => absurd h (by decide)) (fun _ _ => ?_)
  refine g_aload_n C dX4_init_24 1 rfl rfl ?_
  refine g_get (v := .ref q1) (ci := 3) C dX4_init_25 inw_X4 rfl 0 0 0 rfl rfl (Nat.le_of_ble_eq_true rfl) rfl fl_X4_11 rfl rfl ?_
  refine g_iload_n C dX4_init_28 0 rfl rfl ?_
  refine g_new (fs := [.null, .null, .null, .null, .int 0, .int 0, .int 0, .int 0, .int 0, .int 0]) (ci := 2) (kc' := 32) (ks' := 294) C dX4_init_29 inw_X3 tyX3 tyX3_ok cl_X4_9 ia_X3 in_X3 rfl hfs_X3 ⟨Nat.le_of_ble_eq_true rfl, Nat.le_of_ble_eq_true rfl⟩ rfl rfl rfl (fun q14 => ?_)
  refine g_dup C dX4_init_32 rfl rfl ?_
  refine g_callIv (As := []) (gr := [[(a0, .inr (3, [.ref q1, .int 0, .int 0]))], [(q1, .inl (cQ, 8, .inr (.inr (.inr (.inr (va_up (va_up (va_up (va_up (va_up (va_up (fun _ => none) (0 : Int32).toNatClampNeg (some (u3 0))) (1 : Int32).toNatClampNeg (some (u5 0))) (2 : Int32).toNatClampNeg (some (u7 0))) (3 : Int32).toNatClampNeg (some (u9 0))) (4 : Int32).toNatClampNeg (some (u11 0))) (5 : Int32).toNatClampNeg (some (u13 0))))))))], gPar cI u3 tZ, gPar cI u5 tZ, gPar cI u7 tZ, gPar cI u9 tZ, gPar cI u11 tZ, gPar cI u13 tZ]) C (c_X3_init l D cI cQ q14) dX4_init_33 ⟨ml_X4_17, kI_X3_init⟩ ⟨Nat.le_of_ble_eq_true rfl, Nat.le_of_ble_eq_true rfl⟩ ⟨Nat.le_of_ble_eq_true rfl, Nat.le_of_ble_eq_true rfl⟩ [8, 0, 1, 2, 3, 4, 5, 6, 7] 9 rfl pmi_8_0_1_2_3_4_5_6_7 rfl rfl rfl (Nat.le_of_ble_eq_true rfl) rfl (fun (u : (Nat → Nat)) => [[(a0, .inr (3, [.ref q1, .int 0, .int 0]))], [(q1, .inl (cQ, 8, .inr (.inr (.inr (.inr (va_up (va_up (va_up (va_up (va_up (va_up (fun _ => none) (0 : Int32).toNatClampNeg (some (u3 0))) (1 : Int32).toNatClampNeg (some (u5 0))) (2 : Int32).toNatClampNeg (some (u7 0))) (3 : Int32).toNatClampNeg (some (u9 0))) (4 : Int32).toNatClampNeg (some (u11 0))) (5 : Int32).toNatClampNeg (some (u13 0))))))))], gPar cI u3 tZ, gPar cI u5 tZ, gPar cI u7 tZ, gPar cI u9 tZ, gPar cI u11 tZ, gPar cI u13 tZ, gPar cI u tZ]) [1, 2, 3, 4, 5, 6, 7, 8, 0] 9 (fun _ => rfl) pmi_1_2_3_4_5_6_7_8_0 (fun _ => rfl) trivial (fun u15 hu15 => ?_)
  try dsimp only at hu15
  subst hu15
  refine g_aast (ci := 2) (gs' := [[(a0, .inr (3, [.ref q1, .int 0, .int 0]))], [(q1, .inl (cQ, 8, .inr (.inr (.inr (.inr (va_up (va_up (va_up (va_up (va_up (va_up (va_up (fun _ => none) (0 : Int32).toNatClampNeg (some (u3 0))) (1 : Int32).toNatClampNeg (some (u5 0))) (2 : Int32).toNatClampNeg (some (u7 0))) (3 : Int32).toNatClampNeg (some (u9 0))) (4 : Int32).toNatClampNeg (some (u11 0))) (5 : Int32).toNatClampNeg (some (u13 0))) (6 : Int32).toNatClampNeg (some (u15 0))))))))], gPar cI u3 tZ, gPar cI u5 tZ, gPar cI u7 tZ, gPar cI u9 tZ, gPar cI u11 tZ, gPar cI u13 tZ, gPar cI u15 tZ]) C dX4_init_36 1 0 8 0 rfl rfl 1 rfl rfl rfl rfl (by unfold vp_in; decide) rfl rfl ?_
  refine g_iinc (v := 7) (j := 0) C dX4_init_37 rfl (by decide) (Nat.le_of_ble_eq_true rfl) (lv' := [(1, .int 7), (0, .ref a0)]) rfl rfl ?_
  refine g_goto (pc' := 15) C dX4_init_40 (by decide) rfl ?_
  refine g_iload_n C dX4_init_15 0 rfl rfl ?_
  refine g_aload_n C dX4_init_16 1 rfl rfl ?_
  refine g_get (v := .ref q1) (ci := 3) C dX4_init_17 inw_X4 rfl 0 0 0 rfl rfl (Nat.le_of_ble_eq_true rfl) rfl fl_X4_11 rfl rfl ?_
  refine g_alen (v := 8) C dX4_init_20 1 0 rfl rfl 1 rfl rfl rfl ?_
  refine g_icmp_ge (A1 := True) (B1 := True) (tgt := 43) C dX4_init_21 (by decide) rfl ⟨fun _ => trivial, fun _ => trivial⟩ (fun h _ => absurd h (by decide)) (fun _ _ => ?_)
  refine g_aload_n C dX4_init_24 1 rfl rfl ?_
  refine g_get (v := .ref q1) (ci := 3) C dX4_init_25 inw_X4 rfl 0 0 0 rfl rfl (Nat.le_of_ble_eq_true rfl) rfl fl_X4_11 rfl rfl ?_
  refine g_iload_n C dX4_init_28 0 rfl rfl ?_
  refine g_new (fs := [.null, .null, .null, .null, .int 0, .int 0, .int 0, .int 0, .int 0, .int 0]) (ci := 2) (kc' := 37) (ks' := 340) C dX4_init_29 inw_X3 tyX3 tyX3_ok cl_X4_9 ia_X3 in_X3 rfl hfs_X3 ⟨Nat.le_of_ble_eq_true rfl, Nat.le_of_ble_eq_true rfl⟩ rfl rfl rfl (fun q16 => ?_)
  refine g_dup C dX4_init_32 rfl rfl ?_
  refine g_callIv (As := []) (gr := [[(a0, .inr (3, [.ref q1, .int 0, .int 0]))], [(q1, .inl (cQ, 8, .inr (.inr (.inr (.inr (va_up (va_up (va_up (va_up (va_up (va_up (va_up (fun _ => none) (0 : Int32).toNatClampNeg (some (u3 0))) (1 : Int32).toNatClampNeg (some (u5 0))) (2 : Int32).toNatClampNeg (some (u7 0))) (3 : Int32).toNatClampNeg (some (u9 0))) (4 : Int32).toNatClampNeg (some (u11 0))) (5 : Int32).toNatClampNeg (some (u13 0))) (6 : Int32).toNatClampNeg (some (u15 0))))))))], gPar cI u3 tZ, gPar cI u5 tZ, gPar cI u7 tZ, gPar cI u9 tZ, gPar cI u11 tZ, gPar cI u13 tZ, gPar cI u15 tZ]) C (c_X3_init l D cI cQ q16) dX4_init_33 ⟨ml_X4_17, kI_X3_init⟩ ⟨Nat.le_of_ble_eq_true rfl, Nat.le_of_ble_eq_true rfl⟩ ⟨Nat.le_of_ble_eq_true rfl, Nat.le_of_ble_eq_true rfl⟩ [9, 0, 1, 2, 3, 4, 5, 6, 7, 8] 10 rfl pmi_9_0_1_2_3_4_5_6_7_8 rfl rfl rfl (Nat.le_of_ble_eq_true rfl) rfl (fun (u : (Nat → Nat)) => [[(a0, .inr (3, [.ref q1, .int 0, .int 0]))], [(q1, .inl (cQ, 8, .inr (.inr (.inr (.inr (va_up (va_up (va_up (va_up (va_up (va_up (va_up (fun _ => none) (0 : Int32).toNatClampNeg (some (u3 0))) (1 : Int32).toNatClampNeg (some (u5 0))) (2 : Int32).toNatClampNeg (some (u7 0))) (3 : Int32).toNatClampNeg (some (u9 0))) (4 : Int32).toNatClampNeg (some (u11 0))) (5 : Int32).toNatClampNeg (some (u13 0))) (6 : Int32).toNatClampNeg (some (u15 0))))))))], gPar cI u3 tZ, gPar cI u5 tZ, gPar cI u7 tZ, gPar cI u9 tZ, gPar cI u11 tZ, gPar cI u13 tZ, gPar cI u15 tZ, gPar cI u tZ]) [1, 2, 3, 4, 5, 6, 7, 8, 9, 0] 10 (fun _ => rfl) pmi_1_2_3_4_5_6_7_8_9_0 (fun _ => rfl) trivial (fun u17 hu17 => ?_)
  try dsimp only at hu17
  subst hu17
  refine g_aast (ci := 2) (gs' := [[(a0, .inr (3, [.ref q1, .int 0, .int 0]))], [(q1, .inl (cQ, 8, .inr (.inr (.inr (.inr (va_up (va_up (va_up (va_up (va_up (va_up (va_up (va_up (fun _ => none) (0 : Int32).toNatClampNeg (some (u3 0))) (1 : Int32).toNatClampNeg (some (u5 0))) (2 : Int32).toNatClampNeg (some (u7 0))) (3 : Int32).toNatClampNeg (some (u9 0))) (4 : Int32).toNatClampNeg (some (u11 0))) (5 : Int32).toNatClampNeg (some (u13 0))) (6 : Int32).toNatClampNeg (some (u15 0))) (7 : Int32).toNatClampNeg (some (u17 0))))))))], gPar cI u3 tZ, gPar cI u5 tZ, gPar cI u7 tZ, gPar cI u9 tZ, gPar cI u11 tZ, gPar cI u13 tZ, gPar cI u15 tZ, gPar cI u17 tZ]) C dX4_init_36 1 0 9 0 rfl rfl 1 rfl rfl rfl rfl (by unfold vp_in; decide) rfl rfl ?_
  refine g_iinc (v := 8) (j := 0) C dX4_init_37 rfl (by decide) (Nat.le_of_ble_eq_true rfl) (lv' := [(1, .int 8), (0, .ref a0)]) rfl rfl ?_
  refine g_goto (pc' := 15) C dX4_init_40 (by decide) rfl ?_
  refine g_iload_n C dX4_init_15 0 rfl rfl ?_
  refine g_aload_n C dX4_init_16 1 rfl rfl ?_
  refine g_get (v := .ref q1) (ci := 3) C dX4_init_17 inw_X4 rfl 0 0 0 rfl rfl (Nat.le_of_ble_eq_true rfl) rfl fl_X4_11 rfl rfl ?_
  refine g_alen (v := 8) C dX4_init_20 1 0 rfl rfl 1 rfl rfl rfl ?_
  refine g_icmp_ge (A1 := True) (B1 := True) (tgt := 43) C dX4_init_21 (by decide) rfl ⟨fun _ => trivial, fun _ => trivial⟩ (fun _ _ => ?_) (fun h _ => absurd (by decide) h)
  refine g_arrq (gs' := [[(a0, .inr (3, [.ref q1, .int 0, .int 0]))], [(q1, .inl (cQ, 8, .inr (.inr (.inr (.inr (fun k => some (adb [u3, u5, u7, u9, u11, u13, u15, u17] k 0)))))))], gPar cI u3 tZ, gPar cI u5 tZ, gPar cI u7 tZ, gPar cI u9 tZ, gPar cI u11 tZ, gPar cI u13 tZ, gPar cI u15 tZ, gPar cI u17 tZ]) 1 0 rfl rfl (fun k hk => by match k, hk with | 0, _ => rfl | 1, _ => rfl | 2, _ => rfl | 3, _ => rfl | 4, _ => rfl | 5, _ => rfl | 6, _ => rfl | 7, _ => rfl) rfl ?_
  refine g_fl (gs' := [gPas cQ (adr [a0, q1], adb [u3, u5, u7, u9, u11, u13, u15, u17]).1 (adr [a0, q1], adb [u3, u5, u7, u9, u11, u13, u15, u17]).2 (0, 0), gPar cI ((adr [a0, q1], adb [u3, u5, u7, u9, u11, u13, u15, u17]).2 0) tZ, gPar cI ((adr [a0, q1], adb [u3, u5, u7, u9, u11, u13, u15, u17]).2 1) tZ, gPar cI ((adr [a0, q1], adb [u3, u5, u7, u9, u11, u13, u15, u17]).2 2) tZ, gPar cI ((adr [a0, q1], adb [u3, u5, u7, u9, u11, u13, u15, u17]).2 3) tZ, gPar cI ((adr [a0, q1], adb [u3, u5, u7, u9, u11, u13, u15, u17]).2 4) tZ, gPar cI ((adr [a0, q1], adb [u3, u5, u7, u9, u11, u13, u15, u17]).2 5) tZ, gPar cI ((adr [a0, q1], adb [u3, u5, u7, u9, u11, u13, u15, u17]).2 6) tZ, gPar cI ((adr [a0, q1], adb [u3, u5, u7, u9, u11, u13, u15, u17]).2 7) tZ]) rfl ?_
  exact hret 43 (adr [a0, q1], adb [u3, u5, u7, u9, u11, u13, u15, u17]) _ dX4_init_43 rfl
set_option maxRecDepth 100000 in
theorem c_X4_init (l : Launch) (D : va_G) (cI cQ : ClassId) (a0 : Nat) (sz : Nat) : Met l yX4_init (wsY yX4_init cX4_init 2 none) (rmL 2 41 376 32) (xP D (tyL cI cQ) [.ref a0] [[(a0, .inr (3, [.null, .int 0, .int 0]))]] sz True) (xQv D (tyL cI cQ) (fun (u : (Nat → Nat) × (Nat → Nat → Nat)) => u.1 0 = a0) (fun (u : (Nat → Nat) × (Nat → Nat → Nat)) => [gPas cQ u.1 u.2 (0, 0), gPar cI (u.2 0) tZ, gPar cI (u.2 1) tZ, gPar cI (u.2 2) tZ, gPar cI (u.2 3) tZ, gPar cI (u.2 4) tZ, gPar cI (u.2 5) tZ, gPar cI (u.2 6) tZ, gPar cI (u.2 7) tZ]) (va_A [[(a0, .inr (3, [.null, .int 0, .int 0]))]].flatten sz)) 41 376 (va_A [[(a0, .inr (3, [.null, .int 0, .int 0]))]].flatten sz) :=
  Met_v pn_X4 (Nat.le_of_ble_eq_true rfl) (fun p e s mi below meth co A Q hnm C hret _ => w_X4_init a0 hnm C hret)
theorem kI_X4_init : Cond.instanceMethod yX4_init ∈ gTbl ∧ yX4_init.name = "<init>" ∧ Cond.initialized yX4_init.cls ∈ gTbl ∧ Cond.code yX4_init cX4_init 2 none ∈ gTbl ∧ (yX4_init.cls ≠ "java/lang/invoke/MethodHandle" ∧ yX4_init.cls ≠ "java/lang/invoke/VarHandle" ∧ (parseMethodDescriptor yX4_init.desc).map (fun d => d.parameters.length) = some 0) := ⟨im_X4_init, rfl, in_X4, cd_X4_init, (by decide +kernel)⟩
set_option maxHeartbeats 4000000 in
set_option maxRecDepth 100000 in
theorem w_X5_init {p : Program} {l : Launch} {e : Env} {s : State} {mi : MethodId} {args : Array Value} {below : List Frame} {meth : Method} {co : Code} {D : va_G} {cI cQ : ClassId} {A : Nat → Prop} {Q : State → Prop} (a0 : Nat) (hin2 : meth.name = "<init>") (C : xC p s mi args co cX5_init RX5 1 D (tyL cI cQ) A) (hret : ∀ (pc : Nat) (u : (Nat → Nat) × (Nat → Nat) × (Nat → Nat) × (Nat → Nat) × (Nat → Nat → Nat) × (Nat → Nat) × (Nat → Nat) × Nat) (lv : List (Nat × Value)), decode cX5_init pc = .ok (.return_, 1) → True → xG p l e (rmL 3 62 636 53) s mi args below meth co D A 1 Q 62 636 pc [] (WX5 cI cQ a0 u.1 u.2.1 u.2.2.1 u.2.2.2.1 u.2.2.2.2.1 u.2.2.2.2.2.1 u.2.2.2.2.2.2.1 u.2.2.2.2.2.2.2 tZ tZ tZ (0, 0) (fun _ => tZ) lZ lZ (fun _ => 0) 0) lv) : xG p l e (rmL 3 62 636 53) s mi args below meth co D A 1 Q 0 0 0 [] [[(a0, .inr (4, [.null, .null, .null, .null, .null, .null, .null, .int 0]))]] [(0, .ref a0)] := by
  refine g_aload_n C dX5_init_0 0 rfl rfl ?_
  refine g_objInit C dX5_init_1 ml_X5_1 ⟨Nat.le_of_ble_eq_true rfl, Nat.le_of_ble_eq_true rfl⟩ rfl ?_
  refine g_aload_n C dX5_init_4 0 rfl rfl ?_
  refine g_new (fs := [.null, .null, .null, .null, .int 0, .int 0, .int 0, .int 0, .int 0, .int 0]) (ci := 2) (kc' := 1) (ks' := 10) C dX5_init_5 inw_X3 tyX3 tyX3_ok cl_X5_7 ia_X3 in_X3 rfl hfs_X3 ⟨Nat.le_of_ble_eq_true rfl, Nat.le_of_ble_eq_true rfl⟩ rfl rfl rfl (fun q1 => ?_)
  refine g_dup C dX5_init_8 rfl rfl ?_
  refine g_callIv (As := []) (gr := [[(a0, .inr (4, [.null, .null, .null, .null, .null, .null, .null, .int 0]))]]) C (c_X3_init l D cI cQ q1) dX5_init_9 ⟨ml_X5_9, kI_X3_init⟩ ⟨Nat.le_of_ble_eq_true rfl, Nat.le_of_ble_eq_true rfl⟩ ⟨Nat.le_of_ble_eq_true rfl, Nat.le_of_ble_eq_true rfl⟩ [1, 0] 2 rfl pmi_1_0 rfl rfl rfl (Nat.le_of_ble_eq_true rfl) rfl (fun (u : (Nat → Nat)) => [[(a0, .inr (4, [.null, .null, .null, .null, .null, .null, .null, .int 0]))], gPar cI u tZ]) [1, 0] 2 (fun _ => rfl) pmi_1_0 (fun _ => rfl) trivial (fun u2 hu2 => ?_)
  try dsimp only at hu2
  subst hu2
  refine g_putF (v := .ref (u2 0)) (ty := .object "Percolated$Parish") (ci := 4) (gs' := [[(a0, .inr (4, [.ref (u2 0), .null, .null, .null, .null, .null, .null, .int 0]))], gPar cI u2 tZ]) C dX5_init_12 inw_X5 tyX5 tyX5_ok nmX5 rfl 0 0 0 rfl rfl (Nat.le_of_ble_eq_true rfl) rfl fl_X5_10 rfl hin2 rfl fd_P rfl rfl (Nat.le_of_ble_eq_true rfl) rfl rfl ?_
  refine g_aload_n C dX5_init_15 0 rfl rfl ?_
  refine g_new (fs := [.null, .null, .null, .null, .int 0, .int 0, .int 0, .int 0, .int 0, .int 0]) (ci := 2) (kc' := 6) (ks' := 56) C dX5_init_16 inw_X3 tyX3 tyX3_ok cl_X5_7 ia_X3 in_X3 rfl hfs_X3 ⟨Nat.le_of_ble_eq_true rfl, Nat.le_of_ble_eq_true rfl⟩ rfl rfl rfl (fun q3 => ?_)
  refine g_dup C dX5_init_19 rfl rfl ?_
  refine g_callIv (As := []) (gr := [[(a0, .inr (4, [.ref (u2 0), .null, .null, .null, .null, .null, .null, .int 0]))], gPar cI u2 tZ]) C (c_X3_init l D cI cQ q3) dX5_init_20 ⟨ml_X5_9, kI_X3_init⟩ ⟨Nat.le_of_ble_eq_true rfl, Nat.le_of_ble_eq_true rfl⟩ ⟨Nat.le_of_ble_eq_true rfl, Nat.le_of_ble_eq_true rfl⟩ [2, 0, 1] 3 rfl pmi_2_0_1 rfl rfl rfl (Nat.le_of_ble_eq_true rfl) rfl (fun (u : (Nat → Nat)) => [[(a0, .inr (4, [.ref (u2 0), .null, .null, .null, .null, .null, .null, .int 0]))], gPar cI u2 tZ, gPar cI u tZ]) [1, 2, 0] 3 (fun _ => rfl) pmi_1_2_0 (fun _ => rfl) trivial (fun u4 hu4 => ?_)
  try dsimp only at hu4
  subst hu4
  refine g_putF (v := .ref (u4 0)) (ty := .object "Percolated$Parish") (ci := 4) (gs' := [[(a0, .inr (4, [.ref (u2 0), .ref (u4 0), .null, .null, .null, .null, .null, .int 0]))], gPar cI u2 tZ, gPar cI u4 tZ]) C dX5_init_23 inw_X5 tyX5 tyX5_ok nmX5 rfl 0 0 1 rfl rfl (Nat.le_of_ble_eq_true rfl) rfl fl_X5_16 rfl hin2 rfl fd_P rfl rfl (Nat.le_of_ble_eq_true rfl) rfl rfl ?_
  refine g_aload_n C dX5_init_26 0 rfl rfl ?_
  refine g_new (fs := [.null, .null, .null, .null, .int 0, .int 0, .int 0, .int 0, .int 0, .int 0]) (ci := 2) (kc' := 11) (ks' := 102) C dX5_init_27 inw_X3 tyX3 tyX3_ok cl_X5_7 ia_X3 in_X3 rfl hfs_X3 ⟨Nat.le_of_ble_eq_true rfl, Nat.le_of_ble_eq_true rfl⟩ rfl rfl rfl (fun q5 => ?_)
  refine g_dup C dX5_init_30 rfl rfl ?_
  refine g_callIv (As := []) (gr := [[(a0, .inr (4, [.ref (u2 0), .ref (u4 0), .null, .null, .null, .null, .null, .int 0]))], gPar cI u2 tZ, gPar cI u4 tZ]) C (c_X3_init l D cI cQ q5) dX5_init_31 ⟨ml_X5_9, kI_X3_init⟩ ⟨Nat.le_of_ble_eq_true rfl, Nat.le_of_ble_eq_true rfl⟩ ⟨Nat.le_of_ble_eq_true rfl, Nat.le_of_ble_eq_true rfl⟩ [3, 0, 1, 2] 4 rfl pmi_3_0_1_2 rfl rfl rfl (Nat.le_of_ble_eq_true rfl) rfl (fun (u : (Nat → Nat)) => [[(a0, .inr (4, [.ref (u2 0), .ref (u4 0), .null, .null, .null, .null, .null, .int 0]))], gPar cI u2 tZ, gPar cI u4 tZ, gPar cI u tZ]) [1, 2, 3, 0] 4 (fun _ => rfl) pmi_1_2_3_0 (fun _ => rfl) trivial (fun u6 hu6 => ?_)
  try dsimp only at hu6
  subst hu6
  refine g_putF (v := .ref (u6 0)) (ty := .object "Percolated$Parish") (ci := 4) (gs' := [[(a0, .inr (4, [.ref (u2 0), .ref (u4 0), .ref (u6 0), .null, .null, .null, .null, .int 0]))], gPar cI u2 tZ, gPar cI u4 tZ, gPar cI u6 tZ]) C dX5_init_34 inw_X5 tyX5 tyX5_ok nmX5 rfl 0 0 2 rfl rfl (Nat.le_of_ble_eq_true rfl) rfl fl_X5_19 rfl hin2 rfl fd_P rfl rfl (Nat.le_of_ble_eq_true rfl) rfl rfl ?_
  refine g_aload_n C dX5_init_37 0 rfl rfl ?_
  refine g_new (fs := [.null, .int 0, .int 0]) (ci := 3) (kc' := 16) (ks' := 141) C dX5_init_38 inw_X4 tyX4 tyX4_ok cl_X5_22 ia_X4 in_X4 rfl hfs_X4 ⟨Nat.le_of_ble_eq_true rfl, Nat.le_of_ble_eq_true rfl⟩ rfl rfl rfl (fun q7 => ?_)
  refine g_dup C dX5_init_41 rfl rfl ?_
  refine g_callIv (As := []) (gr := [[(a0, .inr (4, [.ref (u2 0), .ref (u4 0), .ref (u6 0), .null, .null, .null, .null, .int 0]))], gPar cI u2 tZ, gPar cI u4 tZ, gPar cI u6 tZ]) C (c_X4_init l D cI cQ q7) dX5_init_42 ⟨ml_X5_24, kI_X4_init⟩ ⟨Nat.le_of_ble_eq_true rfl, Nat.le_of_ble_eq_true rfl⟩ ⟨Nat.le_of_ble_eq_true rfl, Nat.le_of_ble_eq_true rfl⟩ [4, 0, 1, 2, 3] 5 rfl pmi_4_0_1_2_3 rfl rfl rfl (Nat.le_of_ble_eq_true rfl) rfl (fun (u : (Nat → Nat) × (Nat → Nat → Nat)) => [[(a0, .inr (4, [.ref (u2 0), .ref (u4 0), .ref (u6 0), .null, .null, .null, .null, .int 0]))], gPar cI u2 tZ, gPar cI u4 tZ, gPar cI u6 tZ, gPas cQ u.1 u.2 (0, 0), gPar cI (u.2 0) tZ, gPar cI (u.2 1) tZ, gPar cI (u.2 2) tZ, gPar cI (u.2 3) tZ, gPar cI (u.2 4) tZ, gPar cI (u.2 5) tZ, gPar cI (u.2 6) tZ, gPar cI (u.2 7) tZ]) [9, 10, 11, 12, 0, 1, 2, 3, 4, 5, 6, 7, 8] 13 (fun _ => rfl) pmi_9_10_11_12_0_1_2_3_4_5_6_7_8 (fun _ => rfl) trivial (fun u8 hu8 => ?_)
  try dsimp only at hu8
  subst hu8
  refine g_putF (v := .ref (u8.1 0)) (ty := .object "Percolated$Past") (ci := 4) (gs' := [[(a0, .inr (4, [.ref (u2 0), .ref (u4 0), .ref (u6 0), .ref (u8.1 0), .null, .null, .null, .int 0]))], gPar cI u2 tZ, gPar cI u4 tZ, gPar cI u6 tZ, gPas cQ u8.1 u8.2 (0, 0), gPar cI (u8.2 0) tZ, gPar cI (u8.2 1) tZ, gPar cI (u8.2 2) tZ, gPar cI (u8.2 3) tZ, gPar cI (u8.2 4) tZ, gPar cI (u8.2 5) tZ, gPar cI (u8.2 6) tZ, gPar cI (u8.2 7) tZ]) C dX5_init_45 inw_X5 tyX5 tyX5_ok nmX5 rfl 0 0 3 rfl rfl (Nat.le_of_ble_eq_true rfl) rfl fl_X5_25 rfl hin2 rfl fd_Ps rfl rfl (Nat.le_of_ble_eq_true rfl) rfl rfl ?_
  refine g_aload_n C dX5_init_48 0 rfl rfl ?_
  refine g_new (fs := [.null, .int 0]) (ci := 0) (kc' := 58) (ks' := 519) C dX5_init_49 inw_X1 tyX1 tyX1_ok cl_X5_29 ia_X1 in_X1 rfl hfs_X1 ⟨Nat.le_of_ble_eq_true rfl, Nat.le_of_ble_eq_true rfl⟩ rfl rfl rfl (fun q9 => ?_)
  refine g_dup C dX5_init_52 rfl rfl ?_
  refine g_callIv (As := []) (gr := [[(a0, .inr (4, [.ref (u2 0), .ref (u4 0), .ref (u6 0), .ref (u8.1 0), .null, .null, .null, .int 0]))], gPar cI u2 tZ, gPar cI u4 tZ, gPar cI u6 tZ, gPas cQ u8.1 u8.2 (0, 0), gPar cI (u8.2 0) tZ, gPar cI (u8.2 1) tZ, gPar cI (u8.2 2) tZ, gPar cI (u8.2 3) tZ, gPar cI (u8.2 4) tZ, gPar cI (u8.2 5) tZ, gPar cI (u8.2 6) tZ, gPar cI (u8.2 7) tZ]) C (c_X1_init l D cI cQ q9) dX5_init_53 ⟨ml_X5_31, kI_X1_init⟩ ⟨Nat.le_of_ble_eq_true rfl, Nat.le_of_ble_eq_true rfl⟩ ⟨Nat.le_of_ble_eq_true rfl, Nat.le_of_ble_eq_true rfl⟩ [13, 0, 1, 2, 3, 4, 5, 6, 7, 8, 9, 10, 11, 12] 14 rfl pmi_13_0_1_2_3_4_5_6_7_8_9_10_11_12 rfl rfl rfl (Nat.le_of_ble_eq_true rfl) rfl (fun (u : (Nat → Nat)) => [[(a0, .inr (4, [.ref (u2 0), .ref (u4 0), .ref (u6 0), .ref (u8.1 0), .null, .null, .null, .int 0]))], gPar cI u2 tZ, gPar cI u4 tZ, gPar cI u6 tZ, gPas cQ u8.1 u8.2 (0, 0), gPar cI (u8.2 0) tZ, gPar cI (u8.2 1) tZ, gPar cI (u8.2 2) tZ, gPar cI (u8.2 3) tZ, gPar cI (u8.2 4) tZ, gPar cI (u8.2 5) tZ, gPar cI (u8.2 6) tZ, gPar cI (u8.2 7) tZ, gLet cI u lZ]) [1, 2, 3, 4, 5, 6, 7, 8, 9, 10, 11, 12, 13, 0] 14 (fun _ => rfl) pmi_1_2_3_4_5_6_7_8_9_10_11_12_13_0 (fun _ => rfl) trivial (fun u10 hu10 => ?_)
  try dsimp only at hu10
  subst hu10
  refine g_putF (v := .ref (u10 0)) (ty := .object "Percolated$Letters") (ci := 4) (gs' := [[(a0, .inr (4, [.ref (u2 0), .ref (u4 0), .ref (u6 0), .ref (u8.1 0), .ref (u10 0), .null, .null, .int 0]))], gPar cI u2 tZ, gPar cI u4 tZ, gPar cI u6 tZ, gPas cQ u8.1 u8.2 (0, 0), gPar cI (u8.2 0) tZ, gPar cI (u8.2 1) tZ, gPar cI (u8.2 2) tZ, gPar cI (u8.2 3) tZ, gPar cI (u8.2 4) tZ, gPar cI (u8.2 5) tZ, gPar cI (u8.2 6) tZ, gPar cI (u8.2 7) tZ, gLet cI u10 lZ]) C dX5_init_56 inw_X5 tyX5 tyX5_ok nmX5 rfl 0 0 4 rfl rfl (Nat.le_of_ble_eq_true rfl) rfl fl_X5_32 rfl hin2 rfl fd_Le rfl rfl (Nat.le_of_ble_eq_true rfl) rfl rfl ?_
  refine g_aload_n C dX5_init_59 0 rfl rfl ?_
  refine g_new (fs := [.null, .int 0]) (ci := 1) (kc' := 60) (ks' := 617) C dX5_init_60 inw_X2 tyX2 tyX2_ok cl_X5_36 ia_X2 in_X2 rfl hfs_X2 ⟨Nat.le_of_ble_eq_true rfl, Nat.le_of_ble_eq_true rfl⟩ rfl rfl rfl (fun q11 => ?_)
  refine g_dup C dX5_init_63 rfl rfl ?_
  refine g_callIv (As := []) (gr := [[(a0, .inr (4, [.ref (u2 0), .ref (u4 0), .ref (u6 0), .ref (u8.1 0), .ref (u10 0), .null, .null, .int 0]))], gPar cI u2 tZ, gPar cI u4 tZ, gPar cI u6 tZ, gPas cQ u8.1 u8.2 (0, 0), gPar cI (u8.2 0) tZ, gPar cI (u8.2 1) tZ, gPar cI (u8.2 2) tZ, gPar cI (u8.2 3) tZ, gPar cI (u8.2 4) tZ, gPar cI (u8.2 5) tZ, gPar cI (u8.2 6) tZ, gPar cI (u8.2 7) tZ, gLet cI u10 lZ]) C (c_X2_init l D cI cQ q11) dX5_init_64 ⟨ml_X5_38, kI_X2_init⟩ ⟨Nat.le_of_ble_eq_true rfl, Nat.le_of_ble_eq_true rfl⟩ ⟨Nat.le_of_ble_eq_true rfl, Nat.le_of_ble_eq_true rfl⟩ [14, 0, 1, 2, 3, 4, 5, 6, 7, 8, 9, 10, 11, 12, 13] 15 rfl pmi_14_0_1_2_3_4_5_6_7_8_9_10_11_12_13 rfl rfl rfl (Nat.le_of_ble_eq_true rfl) rfl (fun (u : (Nat → Nat)) => [[(a0, .inr (4, [.ref (u2 0), .ref (u4 0), .ref (u6 0), .ref (u8.1 0), .ref (u10 0), .null, .null, .int 0]))], gPar cI u2 tZ, gPar cI u4 tZ, gPar cI u6 tZ, gPas cQ u8.1 u8.2 (0, 0), gPar cI (u8.2 0) tZ, gPar cI (u8.2 1) tZ, gPar cI (u8.2 2) tZ, gPar cI (u8.2 3) tZ, gPar cI (u8.2 4) tZ, gPar cI (u8.2 5) tZ, gPar cI (u8.2 6) tZ, gPar cI (u8.2 7) tZ, gLet cI u10 lZ, gNum cI u lZ]) [1, 2, 3, 4, 5, 6, 7, 8, 9, 10, 11, 12, 13, 14, 0] 15 (fun _ => rfl) pmi_1_2_3_4_5_6_7_8_9_10_11_12_13_14_0 (fun _ => rfl) trivial (fun u12 hu12 => ?_)
  try dsimp only at hu12
  subst hu12
  refine g_putF (v := .ref (u12 0)) (ty := .object "Percolated$Numbers") (ci := 4) (gs' := [[(a0, .inr (4, [.ref (u2 0), .ref (u4 0), .ref (u6 0), .ref (u8.1 0), .ref (u10 0), .ref (u12 0), .null, .int 0]))], gPar cI u2 tZ, gPar cI u4 tZ, gPar cI u6 tZ, gPas cQ u8.1 u8.2 (0, 0), gPar cI (u8.2 0) tZ, gPar cI (u8.2 1) tZ, gPar cI (u8.2 2) tZ, gPar cI (u8.2 3) tZ, gPar cI (u8.2 4) tZ, gPar cI (u8.2 5) tZ, gPar cI (u8.2 6) tZ, gPar cI (u8.2 7) tZ, gLet cI u10 lZ, gNum cI u12 lZ]) C dX5_init_67 inw_X5 tyX5 tyX5_ok nmX5 rfl 0 0 5 rfl rfl (Nat.le_of_ble_eq_true rfl) rfl fl_X5_39 rfl hin2 rfl fd_Nu rfl rfl (Nat.le_of_ble_eq_true rfl) rfl rfl ?_
  refine g_aload_n C dX5_init_70 0 rfl rfl ?_
  refine g_bipush (v := 7) C dX5_init_71 (by decide) rfl ?_
  refine g_newa (n := 7) (N' := 7) (kc' := 62) (ks' := 636) C dX5_init_73 0 rfl (by decide) (by decide) (Nat.le_of_ble_eq_true rfl) ⟨Nat.le_of_ble_eq_true rfl, Nat.le_of_ble_eq_true rfl⟩ rfl rfl rfl (fun q13 => ?_)
  refine g_putF (v := .ref q13) (ty := .array .int) (ci := 4) (gs' := [[(a0, .inr (4, [.ref (u2 0), .ref (u4 0), .ref (u6 0), .ref (u8.1 0), .ref (u10 0), .ref (u12 0), .ref q13, .int 0]))], gPar cI u2 tZ, gPar cI u4 tZ, gPar cI u6 tZ, gPas cQ u8.1 u8.2 (0, 0), gPar cI (u8.2 0) tZ, gPar cI (u8.2 1) tZ, gPar cI (u8.2 2) tZ, gPar cI (u8.2 3) tZ, gPar cI (u8.2 4) tZ, gPar cI (u8.2 5) tZ, gPar cI (u8.2 6) tZ, gPar cI (u8.2 7) tZ, gLet cI u10 lZ, gNum cI u12 lZ, [(q13, .inl (cI, 7, .inl (fun _ => 0)))]]) C dX5_init_75 inw_X5 tyX5 tyX5_ok nmX5 rfl 0 0 6 rfl rfl (Nat.le_of_ble_eq_true rfl) rfl fl_X5_43 rfl hin2 rfl fd_A rfl rfl (Nat.le_of_ble_eq_true rfl) rfl rfl ?_
  refine g_fl (gs' := WX5 cI cQ a0 (u2, u4, u6, u8.1, u8.2, u10, u12, q13).1 (u2, u4, u6, u8.1, u8.2, u10, u12, q13).2.1 (u2, u4, u6, u8.1, u8.2, u10, u12, q13).2.2.1 (u2, u4, u6, u8.1, u8.2, u10, u12, q13).2.2.2.1 (u2, u4, u6, u8.1, u8.2, u10, u12, q13).2.2.2.2.1 (u2, u4, u6, u8.1, u8.2, u10, u12, q13).2.2.2.2.2.1 (u2, u4, u6, u8.1, u8.2, u10, u12, q13).2.2.2.2.2.2.1 (u2, u4, u6, u8.1, u8.2, u10, u12, q13).2.2.2.2.2.2.2 tZ tZ tZ (0, 0) (fun _ => tZ) lZ lZ (fun _ => 0) 0) rfl ?_
  exact hret 78 (u2, u4, u6, u8.1, u8.2, u10, u12, q13) _ dX5_init_78 trivial
set_option maxRecDepth 100000 in
theorem c_X5_init (l : Launch) (D : va_G) (cI cQ : ClassId) (a0 : Nat) (sz : Nat) : Met l yX5_init (wsY yX5_init cX5_init 1 none) (rmL 3 62 636 53) (xP D (tyL cI cQ) [.ref a0] [[(a0, .inr (4, [.null, .null, .null, .null, .null, .null, .null, .int 0]))]] sz True) (xQv D (tyL cI cQ) (fun (u : (Nat → Nat) × (Nat → Nat) × (Nat → Nat) × (Nat → Nat) × (Nat → Nat → Nat) × (Nat → Nat) × (Nat → Nat) × Nat) => True) (fun (u : (Nat → Nat) × (Nat → Nat) × (Nat → Nat) × (Nat → Nat) × (Nat → Nat → Nat) × (Nat → Nat) × (Nat → Nat) × Nat) => WX5 cI cQ a0 u.1 u.2.1 u.2.2.1 u.2.2.2.1 u.2.2.2.2.1 u.2.2.2.2.2.1 u.2.2.2.2.2.2.1 u.2.2.2.2.2.2.2 tZ tZ tZ (0, 0) (fun _ => tZ) lZ lZ (fun _ => 0) 0) (va_A [[(a0, .inr (4, [.null, .null, .null, .null, .null, .null, .null, .int 0]))]].flatten sz)) 62 636 (va_A [[(a0, .inr (4, [.null, .null, .null, .null, .null, .null, .null, .int 0]))]].flatten sz) :=
  Met_v pn_X5 (Nat.le_of_ble_eq_true rfl) (fun p e s mi below meth co A Q hnm C hret _ => w_X5_init a0 hnm C hret)
theorem kI_X5_init : Cond.instanceMethod yX5_init ∈ gTbl ∧ yX5_init.name = "<init>" ∧ Cond.initialized yX5_init.cls ∈ gTbl ∧ Cond.code yX5_init cX5_init 1 none ∈ gTbl ∧ (yX5_init.cls ≠ "java/lang/invoke/MethodHandle" ∧ yX5_init.cls ≠ "java/lang/invoke/VarHandle" ∧ (parseMethodDescriptor yX5_init.desc).map (fun d => d.parameters.length) = some 0) := ⟨im_X5_init, rfl, in_X5, cd_X5_init, (by decide +kernel)⟩
set_option maxHeartbeats 4000000 in
set_option maxRecDepth 100000 in
theorem w_X6_init {p : Program} {l : Launch} {e : Env} {s : State} {mi : MethodId} {args : Array Value} {below : List Frame} {meth : Method} {co : Code} {D : va_G} {cI cQ : ClassId} {A : Nat → Prop} {Q : State → Prop} (a0 : Nat) (hin2 : meth.name = "<init>") (C : xC p s mi args co cX6_init RX6 1 D (tyL cI cQ) A) (hret : ∀ (pc : Nat) (u : (Nat → Nat)) (lv : List (Nat × Value)), decode cX6_init pc = .ok (.return_, 1) → True → xG p l e (rmL 1 16 815 12) s mi args below meth co D A 1 Q 16 815 pc [] (WX6 cI a0 u tZ 0 lZ qZ (0, 0, none) 0 0 lZ 0 (fun _ => 0) (fun _ => 0) (fun _ => 0) (fun _ => 0) (fun _ => 0) (fun _ => 0) (fun _ => 0)) lv) : xG p l e (rmL 1 16 815 12) s mi args below meth co D A 1 Q 0 0 0 [] [[(a0, .inr (5, [.int 0, .null, .null, .null, .null, .int 0, .int 0, .int 0, .int 0, .int 0, .null, .int 0, .null, .int 0, .int 0, .int 0, .int 0, .null, .null, .null, .null, .null, .int 0, .int 0, .int 0, .null, .null, .null, .int 0, .null, .null, .int 0, .null, .int 0]))]] [(0, .ref a0)] := by
  refine g_aload_n C dX6_init_0 0 rfl rfl ?_
  refine g_objInit C dX6_init_1 ml_X6_1 ⟨Nat.le_of_ble_eq_true rfl, Nat.le_of_ble_eq_true rfl⟩ rfl ?_
  refine g_aload_n C dX6_init_4 0 rfl rfl ?_
  refine g_bipush (v := 9) C dX6_init_5 (by decide) rfl ?_
  refine g_newa (n := 9) (N' := 9) (kc' := 1) (ks' := 9) C dX6_init_7 0 rfl (by decide) (by decide) (Nat.le_of_ble_eq_true rfl) ⟨Nat.le_of_ble_eq_true rfl, Nat.le_of_ble_eq_true rfl⟩ rfl rfl rfl (fun q1 => ?_)
  refine g_putF (v := .ref q1) (ty := .array .int) (ci := 5) (gs' := [[(a0, .inr (5, [.int 0, .ref q1, .null, .null, .null, .int 0, .int 0, .int 0, .int 0, .int 0, .null, .int 0, .null, .int 0, .int 0, .int 0, .int 0, .null, .null, .null, .null, .null, .int 0, .int 0, .int 0, .null, .null, .null, .int 0, .null, .null, .int 0, .null, .int 0]))], [(q1, .inl (cI, 9, .inl (fun _ => 0)))]]) C dX6_init_9 inw_X6 tyX6 tyX6_ok nmX6 rfl 0 0 1 rfl rfl (Nat.le_of_ble_eq_true rfl) rfl fl_X6_7 rfl hin2 rfl fd_A rfl rfl (Nat.le_of_ble_eq_true rfl) rfl rfl ?_
  refine g_aload_n C dX6_init_12 0 rfl rfl ?_
  refine g_bipush (v := 9) C dX6_init_13 (by decide) rfl ?_
  refine g_newa (n := 9) (N' := 9) (kc' := 2) (ks' := 18) C dX6_init_15 0 rfl (by decide) (by decide) (Nat.le_of_ble_eq_true rfl) ⟨Nat.le_of_ble_eq_true rfl, Nat.le_of_ble_eq_true rfl⟩ rfl rfl rfl (fun q2 => ?_)
  refine g_putF (v := .ref q2) (ty := .array .int) (ci := 5) (gs' := [[(a0, .inr (5, [.int 0, .ref q1, .ref q2, .null, .null, .int 0, .int 0, .int 0, .int 0, .int 0, .null, .int 0, .null, .int 0, .int 0, .int 0, .int 0, .null, .null, .null, .null, .null, .int 0, .int 0, .int 0, .null, .null, .null, .int 0, .null, .null, .int 0, .null, .int 0]))], [(q1, .inl (cI, 9, .inl (fun _ => 0)))], [(q2, .inl (cI, 9, .inl (fun _ => 0)))]]) C dX6_init_17 inw_X6 tyX6 tyX6_ok nmX6 rfl 0 0 2 rfl rfl (Nat.le_of_ble_eq_true rfl) rfl fl_X6_13 rfl hin2 rfl fd_A rfl rfl (Nat.le_of_ble_eq_true rfl) rfl rfl ?_
  refine g_aload_n C dX6_init_20 0 rfl rfl ?_
  refine g_bipush (v := 9) C dX6_init_21 (by decide) rfl ?_
  refine g_newa (n := 9) (N' := 9) (kc' := 3) (ks' := 27) C dX6_init_23 0 rfl (by decide) (by decide) (Nat.le_of_ble_eq_true rfl) ⟨Nat.le_of_ble_eq_true rfl, Nat.le_of_ble_eq_true rfl⟩ rfl rfl rfl (fun q3 => ?_)
  refine g_putF (v := .ref q3) (ty := .array .int) (ci := 5) (gs' := [[(a0, .inr (5, [.int 0, .ref q1, .ref q2, .ref q3, .null, .int 0, .int 0, .int 0, .int 0, .int 0, .null, .int 0, .null, .int 0, .int 0, .int 0, .int 0, .null, .null, .null, .null, .null, .int 0, .int 0, .int 0, .null, .null, .null, .int 0, .null, .null, .int 0, .null, .int 0]))], [(q1, .inl (cI, 9, .inl (fun _ => 0)))], [(q2, .inl (cI, 9, .inl (fun _ => 0)))], [(q3, .inl (cI, 9, .inl (fun _ => 0)))]]) C dX6_init_25 inw_X6 tyX6 tyX6_ok nmX6 rfl 0 0 3 rfl rfl (Nat.le_of_ble_eq_true rfl) rfl fl_X6_16 rfl hin2 rfl fd_A rfl rfl (Nat.le_of_ble_eq_true rfl) rfl rfl ?_
  refine g_aload_n C dX6_init_28 0 rfl rfl ?_
  refine g_bipush (v := 9) C dX6_init_29 (by decide) rfl ?_
  refine g_newa (n := 9) (N' := 9) (kc' := 4) (ks' := 36) C dX6_init_31 0 rfl (by decide) (by decide) (Nat.le_of_ble_eq_true rfl) ⟨Nat.le_of_ble_eq_true rfl, Nat.le_of_ble_eq_true rfl⟩ rfl rfl rfl (fun q4 => ?_)
  refine g_putF (v := .ref q4) (ty := .array .int) (ci := 5) (gs' := [[(a0, .inr (5, [.int 0, .ref q1, .ref q2, .ref q3, .ref q4, .int 0, .int 0, .int 0, .int 0, .int 0, .null, .int 0, .null, .int 0, .int 0, .int 0, .int 0, .null, .null, .null, .null, .null, .int 0, .int 0, .int 0, .null, .null, .null, .int 0, .null, .null, .int 0, .null, .int 0]))], [(q1, .inl (cI, 9, .inl (fun _ => 0)))], [(q2, .inl (cI, 9, .inl (fun _ => 0)))], [(q3, .inl (cI, 9, .inl (fun _ => 0)))], [(q4, .inl (cI, 9, .inl (fun _ => 0)))]]) C dX6_init_33 inw_X6 tyX6 tyX6_ok nmX6 rfl 0 0 4 rfl rfl (Nat.le_of_ble_eq_true rfl) rfl fl_X6_19 rfl hin2 rfl fd_A rfl rfl (Nat.le_of_ble_eq_true rfl) rfl rfl ?_
  refine g_aload_n C dX6_init_36 0 rfl rfl ?_
  refine g_bipush (v := 7) C dX6_init_37 (by decide) rfl ?_
  refine g_newa (n := 7) (N' := 7) (kc' := 5) (ks' := 43) C dX6_init_39 0 rfl (by decide) (by decide) (Nat.le_of_ble_eq_true rfl) ⟨Nat.le_of_ble_eq_true rfl, Nat.le_of_ble_eq_true rfl⟩ rfl rfl rfl (fun q5 => ?_)
  refine g_putF (v := .ref q5) (ty := .array .int) (ci := 5) (gs' := [[(a0, .inr (5, [.int 0, .ref q1, .ref q2, .ref q3, .ref q4, .int 0, .int 0, .int 0, .int 0, .int 0, .ref q5, .int 0, .null, .int 0, .int 0, .int 0, .int 0, .null, .null, .null, .null, .null, .int 0, .int 0, .int 0, .null, .null, .null, .int 0, .null, .null, .int 0, .null, .int 0]))], [(q1, .inl (cI, 9, .inl (fun _ => 0)))], [(q2, .inl (cI, 9, .inl (fun _ => 0)))], [(q3, .inl (cI, 9, .inl (fun _ => 0)))], [(q4, .inl (cI, 9, .inl (fun _ => 0)))], [(q5, .inl (cI, 7, .inl (fun _ => 0)))]]) C dX6_init_41 inw_X6 tyX6 tyX6_ok nmX6 rfl 0 0 10 rfl rfl (Nat.le_of_ble_eq_true rfl) rfl fl_X6_22 rfl hin2 rfl fd_A rfl rfl (Nat.le_of_ble_eq_true rfl) rfl rfl ?_
  refine g_aload_n C dX6_init_44 0 rfl rfl ?_
  refine g_bipush (v := 96) C dX6_init_45 (by decide) rfl ?_
  refine g_newa (n := 96) (N' := 96) (kc' := 6) (ks' := 139) C dX6_init_47 0 rfl (by decide) (by decide) (Nat.le_of_ble_eq_true rfl) ⟨Nat.le_of_ble_eq_true rfl, Nat.le_of_ble_eq_true rfl⟩ rfl rfl rfl (fun q6 => ?_)
  refine g_putF (v := .ref q6) (ty := .array .int) (ci := 5) (gs' := [[(a0, .inr (5, [.int 0, .ref q1, .ref q2, .ref q3, .ref q4, .int 0, .int 0, .int 0, .int 0, .int 0, .ref q5, .int 0, .ref q6, .int 0, .int 0, .int 0, .int 0, .null, .null, .null, .null, .null, .int 0, .int 0, .int 0, .null, .null, .null, .int 0, .null, .null, .int 0, .null, .int 0]))], [(q1, .inl (cI, 9, .inl (fun _ => 0)))], [(q2, .inl (cI, 9, .inl (fun _ => 0)))], [(q3, .inl (cI, 9, .inl (fun _ => 0)))], [(q4, .inl (cI, 9, .inl (fun _ => 0)))], [(q5, .inl (cI, 7, .inl (fun _ => 0)))], [(q6, .inl (cI, 96, .inl (fun _ => 0)))]]) C dX6_init_49 inw_X6 tyX6 tyX6_ok nmX6 rfl 0 0 12 rfl rfl (Nat.le_of_ble_eq_true rfl) rfl fl_X6_25 rfl hin2 rfl fd_A rfl rfl (Nat.le_of_ble_eq_true rfl) rfl rfl ?_
  refine g_aload_n C dX6_init_52 0 rfl rfl ?_
  refine g_bipush (v := 49) C dX6_init_53 (by decide) rfl ?_
  refine g_newa (n := 49) (N' := 49) (kc' := 7) (ks' := 188) C dX6_init_55 0 rfl (by decide) (by decide) (Nat.le_of_ble_eq_true rfl) ⟨Nat.le_of_ble_eq_true rfl, Nat.le_of_ble_eq_true rfl⟩ rfl rfl rfl (fun q7 => ?_)
  refine g_putF (v := .ref q7) (ty := .array .int) (ci := 5) (gs' := [[(a0, .inr (5, [.int 0, .ref q1, .ref q2, .ref q3, .ref q4, .int 0, .int 0, .int 0, .int 0, .int 0, .ref q5, .int 0, .ref q6, .int 0, .int 0, .int 0, .int 0, .ref q7, .null, .null, .null, .null, .int 0, .int 0, .int 0, .null, .null, .null, .int 0, .null, .null, .int 0, .null, .int 0]))], [(q1, .inl (cI, 9, .inl (fun _ => 0)))], [(q2, .inl (cI, 9, .inl (fun _ => 0)))], [(q3, .inl (cI, 9, .inl (fun _ => 0)))], [(q4, .inl (cI, 9, .inl (fun _ => 0)))], [(q5, .inl (cI, 7, .inl (fun _ => 0)))], [(q6, .inl (cI, 96, .inl (fun _ => 0)))], [(q7, .inl (cI, 49, .inl (fun _ => 0)))]]) C dX6_init_57 inw_X6 tyX6 tyX6_ok nmX6 rfl 0 0 17 rfl rfl (Nat.le_of_ble_eq_true rfl) rfl fl_X6_28 rfl hin2 rfl fd_A rfl rfl (Nat.le_of_ble_eq_true rfl) rfl rfl ?_
  refine g_aload_n C dX6_init_60 0 rfl rfl ?_
  refine g_bipush (v := 49) C dX6_init_61 (by decide) rfl ?_
  refine g_newa (n := 49) (N' := 49) (kc' := 8) (ks' := 237) C dX6_init_63 0 rfl (by decide) (by decide) (Nat.le_of_ble_eq_true rfl) ⟨Nat.le_of_ble_eq_true rfl, Nat.le_of_ble_eq_true rfl⟩ rfl rfl rfl (fun q8 => ?_)
  refine g_putF (v := .ref q8) (ty := .array .int) (ci := 5) (gs' := [[(a0, .inr (5, [.int 0, .ref q1, .ref q2, .ref q3, .ref q4, .int 0, .int 0, .int 0, .int 0, .int 0, .ref q5, .int 0, .ref q6, .int 0, .int 0, .int 0, .int 0, .ref q7, .ref q8, .null, .null, .null, .int 0, .int 0, .int 0, .null, .null, .null, .int 0, .null, .null, .int 0, .null, .int 0]))], [(q1, .inl (cI, 9, .inl (fun _ => 0)))], [(q2, .inl (cI, 9, .inl (fun _ => 0)))], [(q3, .inl (cI, 9, .inl (fun _ => 0)))], [(q4, .inl (cI, 9, .inl (fun _ => 0)))], [(q5, .inl (cI, 7, .inl (fun _ => 0)))], [(q6, .inl (cI, 96, .inl (fun _ => 0)))], [(q7, .inl (cI, 49, .inl (fun _ => 0)))], [(q8, .inl (cI, 49, .inl (fun _ => 0)))]]) C dX6_init_65 inw_X6 tyX6 tyX6_ok nmX6 rfl 0 0 18 rfl rfl (Nat.le_of_ble_eq_true rfl) rfl fl_X6_31 rfl hin2 rfl fd_A rfl rfl (Nat.le_of_ble_eq_true rfl) rfl rfl ?_
  refine g_aload_n C dX6_init_68 0 rfl rfl ?_
  refine g_bipush (v := 98) C dX6_init_69 (by decide) rfl ?_
  refine g_newa (n := 98) (N' := 98) (kc' := 9) (ks' := 335) C dX6_init_71 0 rfl (by decide) (by decide) (Nat.le_of_ble_eq_true rfl) ⟨Nat.le_of_ble_eq_true rfl, Nat.le_of_ble_eq_true rfl⟩ rfl rfl rfl (fun q9 => ?_)
  refine g_putF (v := .ref q9) (ty := .array .int) (ci := 5) (gs' := [[(a0, .inr (5, [.int 0, .ref q1, .ref q2, .ref q3, .ref q4, .int 0, .int 0, .int 0, .int 0, .int 0, .ref q5, .int 0, .ref q6, .int 0, .int 0, .int 0, .int 0, .ref q7, .ref q8, .ref q9, .null, .null, .int 0, .int 0, .int 0, .null, .null, .null, .int 0, .null, .null, .int 0, .null, .int 0]))], [(q1, .inl (cI, 9, .inl (fun _ => 0)))], [(q2, .inl (cI, 9, .inl (fun _ => 0)))], [(q3, .inl (cI, 9, .inl (fun _ => 0)))], [(q4, .inl (cI, 9, .inl (fun _ => 0)))], [(q5, .inl (cI, 7, .inl (fun _ => 0)))], [(q6, .inl (cI, 96, .inl (fun _ => 0)))], [(q7, .inl (cI, 49, .inl (fun _ => 0)))], [(q8, .inl (cI, 49, .inl (fun _ => 0)))], [(q9, .inl (cI, 98, .inl (fun _ => 0)))]]) C dX6_init_73 inw_X6 tyX6 tyX6_ok nmX6 rfl 0 0 19 rfl rfl (Nat.le_of_ble_eq_true rfl) rfl fl_X6_34 rfl hin2 rfl fd_A rfl rfl (Nat.le_of_ble_eq_true rfl) rfl rfl ?_
  refine g_aload_n C dX6_init_76 0 rfl rfl ?_
  refine g_bipush (v := 41) C dX6_init_77 (by decide) rfl ?_
  refine g_newa (n := 41) (N' := 41) (kc' := 10) (ks' := 376) C dX6_init_79 0 rfl (by decide) (by decide) (Nat.le_of_ble_eq_true rfl) ⟨Nat.le_of_ble_eq_true rfl, Nat.le_of_ble_eq_true rfl⟩ rfl rfl rfl (fun q10 => ?_)
  refine g_putF (v := .ref q10) (ty := .array .int) (ci := 5) (gs' := [[(a0, .inr (5, [.int 0, .ref q1, .ref q2, .ref q3, .ref q4, .int 0, .int 0, .int 0, .int 0, .int 0, .ref q5, .int 0, .ref q6, .int 0, .int 0, .int 0, .int 0, .ref q7, .ref q8, .ref q9, .ref q10, .null, .int 0, .int 0, .int 0, .null, .null, .null, .int 0, .null, .null, .int 0, .null, .int 0]))], [(q1, .inl (cI, 9, .inl (fun _ => 0)))], [(q2, .inl (cI, 9, .inl (fun _ => 0)))], [(q3, .inl (cI, 9, .inl (fun _ => 0)))], [(q4, .inl (cI, 9, .inl (fun _ => 0)))], [(q5, .inl (cI, 7, .inl (fun _ => 0)))], [(q6, .inl (cI, 96, .inl (fun _ => 0)))], [(q7, .inl (cI, 49, .inl (fun _ => 0)))], [(q8, .inl (cI, 49, .inl (fun _ => 0)))], [(q9, .inl (cI, 98, .inl (fun _ => 0)))], [(q10, .inl (cI, 41, .inl (fun _ => 0)))]]) C dX6_init_81 inw_X6 tyX6 tyX6_ok nmX6 rfl 0 0 20 rfl rfl (Nat.le_of_ble_eq_true rfl) rfl fl_X6_37 rfl hin2 rfl fd_A rfl rfl (Nat.le_of_ble_eq_true rfl) rfl rfl ?_
  refine g_aload_n C dX6_init_84 0 rfl rfl ?_
  refine g_bipush (v := 41) C dX6_init_85 (by decide) rfl ?_
  refine g_newa (n := 41) (N' := 41) (kc' := 11) (ks' := 417) C dX6_init_87 0 rfl (by decide) (by decide) (Nat.le_of_ble_eq_true rfl) ⟨Nat.le_of_ble_eq_true rfl, Nat.le_of_ble_eq_true rfl⟩ rfl rfl rfl (fun q11 => ?_)
  refine g_putF (v := .ref q11) (ty := .array .int) (ci := 5) (gs' := [[(a0, .inr (5, [.int 0, .ref q1, .ref q2, .ref q3, .ref q4, .int 0, .int 0, .int 0, .int 0, .int 0, .ref q5, .int 0, .ref q6, .int 0, .int 0, .int 0, .int 0, .ref q7, .ref q8, .ref q9, .ref q10, .ref q11, .int 0, .int 0, .int 0, .null, .null, .null, .int 0, .null, .null, .int 0, .null, .int 0]))], [(q1, .inl (cI, 9, .inl (fun _ => 0)))], [(q2, .inl (cI, 9, .inl (fun _ => 0)))], [(q3, .inl (cI, 9, .inl (fun _ => 0)))], [(q4, .inl (cI, 9, .inl (fun _ => 0)))], [(q5, .inl (cI, 7, .inl (fun _ => 0)))], [(q6, .inl (cI, 96, .inl (fun _ => 0)))], [(q7, .inl (cI, 49, .inl (fun _ => 0)))], [(q8, .inl (cI, 49, .inl (fun _ => 0)))], [(q9, .inl (cI, 98, .inl (fun _ => 0)))], [(q10, .inl (cI, 41, .inl (fun _ => 0)))], [(q11, .inl (cI, 41, .inl (fun _ => 0)))]]) C dX6_init_89 inw_X6 tyX6 tyX6_ok nmX6 rfl 0 0 21 rfl rfl (Nat.le_of_ble_eq_true rfl) rfl fl_X6_40 rfl hin2 rfl fd_A rfl rfl (Nat.le_of_ble_eq_true rfl) rfl rfl ?_
  refine g_aload_n C dX6_init_92 0 rfl rfl ?_
  refine g_sipush (v := 328) C dX6_init_93 (by decide) rfl ?_
  refine g_newa (n := 328) (N' := 328) (kc' := 12) (ks' := 745) C dX6_init_96 0 rfl (by decide) (by decide) (Nat.le_of_ble_eq_true rfl) ⟨Nat.le_of_ble_eq_true rfl, Nat.le_of_ble_eq_true rfl⟩ rfl rfl rfl (fun q12 => ?_)
  refine g_putF (v := .ref q12) (ty := .array .int) (ci := 5) (gs' := [[(a0, .inr (5, [.int 0, .ref q1, .ref q2, .ref q3, .ref q4, .int 0, .int 0, .int 0, .int 0, .int 0, .ref q5, .int 0, .ref q6, .int 0, .int 0, .int 0, .int 0, .ref q7, .ref q8, .ref q9, .ref q10, .ref q11, .int 0, .int 0, .int 0, .null, .ref q12, .null, .int 0, .null, .null, .int 0, .null, .int 0]))], [(q1, .inl (cI, 9, .inl (fun _ => 0)))], [(q2, .inl (cI, 9, .inl (fun _ => 0)))], [(q3, .inl (cI, 9, .inl (fun _ => 0)))], [(q4, .inl (cI, 9, .inl (fun _ => 0)))], [(q5, .inl (cI, 7, .inl (fun _ => 0)))], [(q6, .inl (cI, 96, .inl (fun _ => 0)))], [(q7, .inl (cI, 49, .inl (fun _ => 0)))], [(q8, .inl (cI, 49, .inl (fun _ => 0)))], [(q9, .inl (cI, 98, .inl (fun _ => 0)))], [(q10, .inl (cI, 41, .inl (fun _ => 0)))], [(q11, .inl (cI, 41, .inl (fun _ => 0)))], [(q12, .inl (cI, 328, .inl (fun _ => 0)))]]) C dX6_init_98 inw_X6 tyX6 tyX6_ok nmX6 rfl 0 0 26 rfl rfl (Nat.le_of_ble_eq_true rfl) rfl fl_X6_43 rfl hin2 rfl fd_A rfl rfl (Nat.le_of_ble_eq_true rfl) rfl rfl ?_
  refine g_aload_n C dX6_init_101 0 rfl rfl ?_
  refine g_bipush (v := 41) C dX6_init_102 (by decide) rfl ?_
  refine g_newa (n := 41) (N' := 41) (kc' := 13) (ks' := 786) C dX6_init_104 0 rfl (by decide) (by decide) (Nat.le_of_ble_eq_true rfl) ⟨Nat.le_of_ble_eq_true rfl, Nat.le_of_ble_eq_true rfl⟩ rfl rfl rfl (fun q13 => ?_)
  refine g_putF (v := .ref q13) (ty := .array .int) (ci := 5) (gs' := [[(a0, .inr (5, [.int 0, .ref q1, .ref q2, .ref q3, .ref q4, .int 0, .int 0, .int 0, .int 0, .int 0, .ref q5, .int 0, .ref q6, .int 0, .int 0, .int 0, .int 0, .ref q7, .ref q8, .ref q9, .ref q10, .ref q11, .int 0, .int 0, .int 0, .null, .ref q12, .ref q13, .int 0, .null, .null, .int 0, .null, .int 0]))], [(q1, .inl (cI, 9, .inl (fun _ => 0)))], [(q2, .inl (cI, 9, .inl (fun _ => 0)))], [(q3, .inl (cI, 9, .inl (fun _ => 0)))], [(q4, .inl (cI, 9, .inl (fun _ => 0)))], [(q5, .inl (cI, 7, .inl (fun _ => 0)))], [(q6, .inl (cI, 96, .inl (fun _ => 0)))], [(q7, .inl (cI, 49, .inl (fun _ => 0)))], [(q8, .inl (cI, 49, .inl (fun _ => 0)))], [(q9, .inl (cI, 98, .inl (fun _ => 0)))], [(q10, .inl (cI, 41, .inl (fun _ => 0)))], [(q11, .inl (cI, 41, .inl (fun _ => 0)))], [(q12, .inl (cI, 328, .inl (fun _ => 0)))], [(q13, .inl (cI, 41, .inl (fun _ => 0)))]]) C dX6_init_106 inw_X6 tyX6 tyX6_ok nmX6 rfl 0 0 27 rfl rfl (Nat.le_of_ble_eq_true rfl) rfl fl_X6_46 rfl hin2 rfl fd_A rfl rfl (Nat.le_of_ble_eq_true rfl) rfl rfl ?_
  refine g_aload_n C dX6_init_109 0 rfl rfl ?_
  refine g_bipush (v := 9) C dX6_init_110 (by decide) rfl ?_
  refine g_newa (n := 9) (N' := 9) (kc' := 14) (ks' := 795) C dX6_init_112 0 rfl (by decide) (by decide) (Nat.le_of_ble_eq_true rfl) ⟨Nat.le_of_ble_eq_true rfl, Nat.le_of_ble_eq_true rfl⟩ rfl rfl rfl (fun q14 => ?_)
  refine g_putF (v := .ref q14) (ty := .array .int) (ci := 5) (gs' := [[(a0, .inr (5, [.int 0, .ref q1, .ref q2, .ref q3, .ref q4, .int 0, .int 0, .int 0, .int 0, .int 0, .ref q5, .int 0, .ref q6, .int 0, .int 0, .int 0, .int 0, .ref q7, .ref q8, .ref q9, .ref q10, .ref q11, .int 0, .int 0, .int 0, .null, .ref q12, .ref q13, .int 0, .ref q14, .null, .int 0, .null, .int 0]))], [(q1, .inl (cI, 9, .inl (fun _ => 0)))], [(q2, .inl (cI, 9, .inl (fun _ => 0)))], [(q3, .inl (cI, 9, .inl (fun _ => 0)))], [(q4, .inl (cI, 9, .inl (fun _ => 0)))], [(q5, .inl (cI, 7, .inl (fun _ => 0)))], [(q6, .inl (cI, 96, .inl (fun _ => 0)))], [(q7, .inl (cI, 49, .inl (fun _ => 0)))], [(q8, .inl (cI, 49, .inl (fun _ => 0)))], [(q9, .inl (cI, 98, .inl (fun _ => 0)))], [(q10, .inl (cI, 41, .inl (fun _ => 0)))], [(q11, .inl (cI, 41, .inl (fun _ => 0)))], [(q12, .inl (cI, 328, .inl (fun _ => 0)))], [(q13, .inl (cI, 41, .inl (fun _ => 0)))], [(q14, .inl (cI, 9, .inl (fun _ => 0)))]]) C dX6_init_114 inw_X6 tyX6 tyX6_ok nmX6 rfl 0 0 29 rfl rfl (Nat.le_of_ble_eq_true rfl) rfl fl_X6_49 rfl hin2 rfl fd_A rfl rfl (Nat.le_of_ble_eq_true rfl) rfl rfl ?_
  refine g_aload_n C dX6_init_117 0 rfl rfl ?_
  refine g_bipush (v := 12) C dX6_init_118 (by decide) rfl ?_
  refine g_newa (n := 12) (N' := 12) (kc' := 15) (ks' := 807) C dX6_init_120 0 rfl (by decide) (by decide) (Nat.le_of_ble_eq_true rfl) ⟨Nat.le_of_ble_eq_true rfl, Nat.le_of_ble_eq_true rfl⟩ rfl rfl rfl (fun q15 => ?_)
  refine g_putF (v := .ref q15) (ty := .array .int) (ci := 5) (gs' := [[(a0, .inr (5, [.int 0, .ref q1, .ref q2, .ref q3, .ref q4, .int 0, .int 0, .int 0, .int 0, .int 0, .ref q5, .int 0, .ref q6, .int 0, .int 0, .int 0, .int 0, .ref q7, .ref q8, .ref q9, .ref q10, .ref q11, .int 0, .int 0, .int 0, .null, .ref q12, .ref q13, .int 0, .ref q14, .ref q15, .int 0, .null, .int 0]))], [(q1, .inl (cI, 9, .inl (fun _ => 0)))], [(q2, .inl (cI, 9, .inl (fun _ => 0)))], [(q3, .inl (cI, 9, .inl (fun _ => 0)))], [(q4, .inl (cI, 9, .inl (fun _ => 0)))], [(q5, .inl (cI, 7, .inl (fun _ => 0)))], [(q6, .inl (cI, 96, .inl (fun _ => 0)))], [(q7, .inl (cI, 49, .inl (fun _ => 0)))], [(q8, .inl (cI, 49, .inl (fun _ => 0)))], [(q9, .inl (cI, 98, .inl (fun _ => 0)))], [(q10, .inl (cI, 41, .inl (fun _ => 0)))], [(q11, .inl (cI, 41, .inl (fun _ => 0)))], [(q12, .inl (cI, 328, .inl (fun _ => 0)))], [(q13, .inl (cI, 41, .inl (fun _ => 0)))], [(q14, .inl (cI, 9, .inl (fun _ => 0)))], [(q15, .inl (cI, 12, .inl (fun _ => 0)))]]) C dX6_init_122 inw_X6 tyX6 tyX6_ok nmX6 rfl 0 0 30 rfl rfl (Nat.le_of_ble_eq_true rfl) rfl fl_X6_52 rfl hin2 rfl fd_A rfl rfl (Nat.le_of_ble_eq_true rfl) rfl rfl ?_
  refine g_aload_n C dX6_init_125 0 rfl rfl ?_
  refine g_bipush (v := 8) C dX6_init_126 (by decide) rfl ?_
  refine g_newa (n := 8) (N' := 8) (kc' := 16) (ks' := 815) C dX6_init_128 0 rfl (by decide) (by decide) (Nat.le_of_ble_eq_true rfl) ⟨Nat.le_of_ble_eq_true rfl, Nat.le_of_ble_eq_true rfl⟩ rfl rfl rfl (fun q16 => ?_)
  refine g_putF (v := .ref q16) (ty := .array .int) (ci := 5) (gs' := [[(a0, .inr (5, [.int 0, .ref q1, .ref q2, .ref q3, .ref q4, .int 0, .int 0, .int 0, .int 0, .int 0, .ref q5, .int 0, .ref q6, .int 0, .int 0, .int 0, .int 0, .ref q7, .ref q8, .ref q9, .ref q10, .ref q11, .int 0, .int 0, .int 0, .null, .ref q12, .ref q13, .int 0, .ref q14, .ref q15, .int 0, .ref q16, .int 0]))], [(q1, .inl (cI, 9, .inl (fun _ => 0)))], [(q2, .inl (cI, 9, .inl (fun _ => 0)))], [(q3, .inl (cI, 9, .inl (fun _ => 0)))], [(q4, .inl (cI, 9, .inl (fun _ => 0)))], [(q5, .inl (cI, 7, .inl (fun _ => 0)))], [(q6, .inl (cI, 96, .inl (fun _ => 0)))], [(q7, .inl (cI, 49, .inl (fun _ => 0)))], [(q8, .inl (cI, 49, .inl (fun _ => 0)))], [(q9, .inl (cI, 98, .inl (fun _ => 0)))], [(q10, .inl (cI, 41, .inl (fun _ => 0)))], [(q11, .inl (cI, 41, .inl (fun _ => 0)))], [(q12, .inl (cI, 328, .inl (fun _ => 0)))], [(q13, .inl (cI, 41, .inl (fun _ => 0)))], [(q14, .inl (cI, 9, .inl (fun _ => 0)))], [(q15, .inl (cI, 12, .inl (fun _ => 0)))], [(q16, .inl (cI, 8, .inl (fun _ => 0)))]]) C dX6_init_130 inw_X6 tyX6 tyX6_ok nmX6 rfl 0 0 32 rfl rfl (Nat.le_of_ble_eq_true rfl) rfl fl_X6_55 rfl hin2 rfl fd_A rfl rfl (Nat.le_of_ble_eq_true rfl) rfl rfl ?_
  refine g_aload_n C dX6_init_133 0 rfl rfl ?_
  refine g_iconst (v := 0) C dX6_init_134 rfl rfl ?_
  refine g_put (v' := .int 0) (ty := .int) (ci := 5) (gs' := [[(a0, .inr (5, [.int 0, .ref q1, .ref q2, .ref q3, .ref q4, .int 0, .int 0, .int 0, .int 0, .int 0, .ref q5, .int 0, .ref q6, .int 0, .int 0, .int 0, .int 0, .ref q7, .ref q8, .ref q9, .ref q10, .ref q11, .int 0, .int 0, .int 0, .null, .ref q12, .ref q13, .int 0, .ref q14, .ref q15, .int 0, .ref q16, .int 0]))], [(q1, .inl (cI, 9, .inl (fun _ => 0)))], [(q2, .inl (cI, 9, .inl (fun _ => 0)))], [(q3, .inl (cI, 9, .inl (fun _ => 0)))], [(q4, .inl (cI, 9, .inl (fun _ => 0)))], [(q5, .inl (cI, 7, .inl (fun _ => 0)))], [(q6, .inl (cI, 96, .inl (fun _ => 0)))], [(q7, .inl (cI, 49, .inl (fun _ => 0)))], [(q8, .inl (cI, 49, .inl (fun _ => 0)))], [(q9, .inl (cI, 98, .inl (fun _ => 0)))], [(q10, .inl (cI, 41, .inl (fun _ => 0)))], [(q11, .inl (cI, 41, .inl (fun _ => 0)))], [(q12, .inl (cI, 328, .inl (fun _ => 0)))], [(q13, .inl (cI, 41, .inl (fun _ => 0)))], [(q14, .inl (cI, 9, .inl (fun _ => 0)))], [(q15, .inl (cI, 12, .inl (fun _ => 0)))], [(q16, .inl (cI, 8, .inl (fun _ => 0)))]]) C dX6_init_135 inw_X6 tyX6 tyX6_ok nmX6 rfl 0 0 9 rfl rfl (Nat.le_of_ble_eq_true rfl) rfl fl_X6_58 rfl fd_I rfl rfl rfl (Nat.le_of_ble_eq_true rfl) rfl rfl ?_
  refine g_perm (gs' := WX6 cI a0 (adr [q1, q2, q3, q4, q5, q6, q7, q8, q9, q10, q11, q12, q13, q14, q15, q16]) tZ 0 lZ qZ (0, 0, none) 0 0 lZ 0 (fun _ => 0) (fun _ => 0) (fun _ => 0) (fun _ => 0) (fun _ => 0) (fun _ => 0) (fun _ => 0)) (perm_idx [0, 1, 2, 3, 4, 6, 7, 8, 9, 15, 5, 10, 11, 12, 13, 14, 16] pmi_0_1_2_3_4_6_7_8_9_15_5_10_11_12_13_14_16 rfl) ?_
  exact hret 138 (adr [q1, q2, q3, q4, q5, q6, q7, q8, q9, q10, q11, q12, q13, q14, q15, q16]) _ dX6_init_138 trivial
set_option maxRecDepth 100000 in
theorem c_X6_init (l : Launch) (D : va_G) (cI cQ : ClassId) (a0 : Nat) (sz : Nat) : Met l yX6_init (wsY yX6_init cX6_init 1 none) (rmL 1 16 815 12) (xP D (tyL cI cQ) [.ref a0] [[(a0, .inr (5, [.int 0, .null, .null, .null, .null, .int 0, .int 0, .int 0, .int 0, .int 0, .null, .int 0, .null, .int 0, .int 0, .int 0, .int 0, .null, .null, .null, .null, .null, .int 0, .int 0, .int 0, .null, .null, .null, .int 0, .null, .null, .int 0, .null, .int 0]))]] sz True) (xQv D (tyL cI cQ) (fun (u : (Nat → Nat)) => True) (fun (u : (Nat → Nat)) => WX6 cI a0 u tZ 0 lZ qZ (0, 0, none) 0 0 lZ 0 (fun _ => 0) (fun _ => 0) (fun _ => 0) (fun _ => 0) (fun _ => 0) (fun _ => 0) (fun _ => 0)) (va_A [[(a0, .inr (5, [.int 0, .null, .null, .null, .null, .int 0, .int 0, .int 0, .int 0, .int 0, .null, .int 0, .null, .int 0, .int 0, .int 0, .int 0, .null, .null, .null, .null, .null, .int 0, .int 0, .int 0, .null, .null, .null, .int 0, .null, .null, .int 0, .null, .int 0]))]].flatten sz)) 16 815 (va_A [[(a0, .inr (5, [.int 0, .null, .null, .null, .null, .int 0, .int 0, .int 0, .int 0, .int 0, .null, .int 0, .null, .int 0, .int 0, .int 0, .int 0, .null, .null, .null, .null, .null, .int 0, .int 0, .int 0, .null, .null, .null, .int 0, .null, .null, .int 0, .null, .int 0]))]].flatten sz) :=
  Met_v pn_X6 (Nat.le_of_ble_eq_true rfl) (fun p e s mi below meth co A Q hnm C hret _ => w_X6_init a0 hnm C hret)
theorem kI_X6_init : Cond.instanceMethod yX6_init ∈ gTbl ∧ yX6_init.name = "<init>" ∧ Cond.initialized yX6_init.cls ∈ gTbl ∧ Cond.code yX6_init cX6_init 1 none ∈ gTbl ∧ (yX6_init.cls ≠ "java/lang/invoke/MethodHandle" ∧ yX6_init.cls ≠ "java/lang/invoke/VarHandle" ∧ (parseMethodDescriptor yX6_init.desc).map (fun d => d.parameters.length) = some 0) := ⟨im_X6_init, rfl, in_X6, cd_X6_init, (by decide +kernel)⟩
