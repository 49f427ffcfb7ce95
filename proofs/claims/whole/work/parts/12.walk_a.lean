theorem fd_I : parseFieldDescriptor "I" = some .int := by decide +kernel
theorem fd_Z : parseFieldDescriptor "Z" = some .boolean := by decide +kernel
theorem fd_A : parseFieldDescriptor "[I" = some (.array .int) := by decide +kernel
theorem pn_X0 : plainName RX0 = true := by decide +kernel
theorem pn_X1 : plainName RX1 = true := by decide +kernel
theorem pn_X2 : plainName RX2 = true := by decide +kernel
theorem pn_X3 : plainName RX3 = true := by decide +kernel
theorem pn_X4 : plainName RX4 = true := by decide +kernel
theorem pn_X5 : plainName RX5 = true := by decide +kernel
theorem pn_X6 : plainName RX6 = true := by decide +kernel
theorem pn_J6 : plainName RJ6 = true := by decide +kernel
theorem pma_ : ([] : List Nat).isPerm (List.range 0) = true := by decide +kernel
theorem pma_0 : ([0] : List Nat).isPerm (List.range 1) = true := by decide +kernel
set_option maxRecDepth 100000 in
def p_X0_stands (p1 : Int32) (post : Int32 → Prop) : Prop := ((p1 = 2 → post (1 : Int32)) ∧ (¬ p1 = 2 → ((p1 = 5 → post (3 : Int32)) ∧ (¬ p1 = 5 → post (0 : Int32)))))
set_option maxHeartbeats 4000000 in
set_option maxRecDepth 100000 in
theorem w_X0_stands {p : Program} {l : Launch} {e : Env} {s : State} {mi : MethodId} {args : Array Value} {below : List Frame} {meth : Method} {co : Code} {D : va_G} {cI cQ : ClassId} {A : Nat → Prop} {Q : State → Prop} (p1 : Int32) {post : Int32 → Prop} (C : xC p s mi args co cX0_stands RX0 1 D (tyL cI cQ) A) (hret : ∀ (pc : Nat) (r : Int32) (u : Unit) (lv : List (Nat × Value)), decode cX0_stands pc = .ok (.ireturn, 1) → post r → xG p l e (rmL 0 0 0 0) s mi args below meth co D A 1 Q 0 0 pc [.int r] [] lv) (hw : p_X0_stands p1 post) : xG p l e (rmL 0 0 0 0) s mi args below meth co D A 1 Q 0 0 0 [] [] [(0, .int p1)] := by
  unfold p_X0_stands at hw
  try dsimp only at hw
  show xG p l e (rmL 0 0 0 0) s mi args below meth co D A 1 Q 0 0 0 [] [] [(0, .int p1)]
  refine g_iload_n C dX0_stands_0 0 rfl rfl ?_
  rcases Classical.em (p1 = 2) with hs1_0 | hs1_0
  · replace hw := hw.1 hs1_0
    refine g_lsw (pc' := 28) C dX0_stands_1 (by decide) (by first | (rw [hs1_0]; done) | (rw [hs1_0]; rfl)) (by decide) ?_
    refine g_iconst (v := 1) C dX0_stands_28 rfl rfl ?_
    exact hret 29 (1 : Int32) () _ dX0_stands_29 hw
  · replace hw := hw.2 hs1_0
    rcases Classical.em (p1 = 5) with hs1_1 | hs1_1
    · replace hw := hw.1 hs1_1
      refine g_lsw (pc' := 30) C dX0_stands_1 (by decide) (by first | (rw [hs1_1]; done) | (rw [hs1_1]; rfl)) (by decide) ?_
      refine g_iconst (v := 3) C dX0_stands_30 rfl rfl ?_
      exact hret 31 (3 : Int32) () _ dX0_stands_31 hw
    · replace hw := hw.2 hs1_1
      refine g_lsw (off := 31) (pc' := 32) C dX0_stands_1 (by decide) (by show Op.lookupswitch.offset [(2, 27), (5, 29)] 31 _ = 31; rw [lv_osw hs1_0 (by decide), lv_osw hs1_1 (by decide)]; rfl) (by decide) ?_
      refine g_iconst (v := 0) C dX0_stands_32 rfl rfl ?_
      exact hret 33 (0 : Int32) () _ dX0_stands_33 hw
set_option maxRecDepth 100000 in
theorem c_X0_stands (l : Launch) (D : va_G) (cI cQ : ClassId) (p1 : Int32) (post : Int32 → Prop) (sz : Nat) : Met l yX0_stands (wsY yX0_stands cX0_stands 1 (some .int)) (rmL 0 0 0 0) (xP D (tyL cI cQ) [.int p1] [] sz (p_X0_stands p1 post)) (xQi D (tyL cI cQ) (fun (r : Int32) (_ : Unit) => post r) (fun (u : Unit) => []) (va_A [].flatten sz)) 0 0 (va_A [].flatten sz) :=
  Met_i pn_X0 (Nat.le_of_ble_eq_true rfl) (fun p e s mi below meth co A Q _ C hret hw => w_X0_stands p1 C hret hw)
theorem kS_X0_stands : Cond.static yX0_stands ∈ gTbl ∧ Cond.initialized yX0_stands.cls ∈ gTbl ∧ Cond.code yX0_stands cX0_stands 1 (some .int) ∈ gTbl ∧ (yX0_stands.cls ≠ "java/lang/invoke/MethodHandle" ∧ yX0_stands.cls ≠ "java/lang/invoke/VarHandle" ∧ (parseMethodDescriptor yX0_stands.desc).map (fun d => d.parameters.length) = some 1) := ⟨sm_X0_stands, in_X0, cd_X0_stands, (by decide +kernel)⟩
set_option maxRecDepth 100000 in
def p_X0_wouldLet (p1 : Int32) (p2 : Int32) (p3 : Int32) (post : Int32 → Prop) : Prop := ((p1 = 1 → post p3) ∧ (¬ p1 = 1 → ((p1 = 2 → post (p3 / (2 : Int32))) ∧ (¬ p1 = 2 → ((p1 = 3 → ((p3 ≤ p2 → post p3) ∧ (¬ p3 ≤ p2 → post p2))) ∧ (¬ p1 = 3 → ((p1 = 4 → ((p3 ≤ p2 → post (0 : Int32)) ∧ (¬ p3 ≤ p2 → post (p3 - p2)))) ∧ (¬ p1 = 4 → ((p1 = 5 → post ((p3 / (2 : Int32)) / (2 : Int32))) ∧ (¬ p1 = 5 → post ((p3 + (1 : Int32)) / (2 : Int32))))))))))))
set_option maxHeartbeats 4000000 in
set_option maxRecDepth 100000 in
theorem w_X0_wouldLet {p : Program} {l : Launch} {e : Env} {s : State} {mi : MethodId} {args : Array Value} {below : List Frame} {meth : Method} {co : Code} {D : va_G} {cI cQ : ClassId} {A : Nat → Prop} {Q : State → Prop} (p1 : Int32) (p2 : Int32) (p3 : Int32) {post : Int32 → Prop} (C : xC p s mi args co cX0_wouldLet RX0 3 D (tyL cI cQ) A) (hret : ∀ (pc : Nat) (r : Int32) (u : Unit) (lv : List (Nat × Value)), decode cX0_wouldLet pc = .ok (.ireturn, 1) → post r → xG p l e (rmL 0 0 0 0) s mi args below meth co D A 3 Q 0 0 pc [.int r] [] lv) (hw : p_X0_wouldLet p1 p2 p3 post) : xG p l e (rmL 0 0 0 0) s mi args below meth co D A 3 Q 0 0 0 [] [] [(0, .int p1), (1, .int p2), (2, .int p3)] := by
  unfold p_X0_wouldLet at hw
  try dsimp only at hw
  show xG p l e (rmL 0 0 0 0) s mi args below meth co D A 3 Q 0 0 0 [] [] [(0, .int p1), (1, .int p2), (2, .int p3)]
  refine g_iload_n C dX0_wouldLet_0 0 rfl rfl ?_
  rcases Classical.em (p1 = 1) with hs1_0 | hs1_0
  · replace hw := hw.1 hs1_0
    refine g_tswIn (pc' := 36) C dX0_wouldLet_1 1 hs1_0 (by decide) (by decide) rfl (by decide) ?_
    refine g_iload_n C dX0_wouldLet_36 2 rfl rfl ?_
    exact hret 37 p3 () _ dX0_wouldLet_37 hw
  · replace hw := hw.2 hs1_0
    rcases Classical.em (p1 = 2) with hs1_1 | hs1_1
    · replace hw := hw.1 hs1_1
      refine g_tswIn (pc' := 38) C dX0_wouldLet_1 2 hs1_1 (by decide) (by decide) rfl (by decide) ?_
      refine g_iload_n C dX0_wouldLet_38 2 rfl rfl ?_
      refine g_iconst (v := 2) C dX0_wouldLet_39 rfl rfl ?_
      refine g_idiv C dX0_wouldLet_40 (by decide) rfl ?_
      exact hret 41 (p3 / (2 : Int32)) () _ dX0_wouldLet_41 hw
    · replace hw := hw.2 hs1_1
      rcases Classical.em (p1 = 3) with hs1_2 | hs1_2
      · replace hw := hw.1 hs1_2
        refine g_tswIn (pc' := 42) C dX0_wouldLet_1 3 hs1_2 (by decide) (by decide) rfl (by decide) ?_
        refine g_iload_n C dX0_wouldLet_42 1 rfl rfl ?_
        refine g_iload_n C dX0_wouldLet_43 2 rfl rfl ?_
        refine g_icmp_ge (tgt := 51) C dX0_wouldLet_44 (by decide) rfl hw (fun _ hw => ?_) (fun _ hw => ?_)
        · refine g_iload_n C dX0_wouldLet_51 2 rfl rfl ?_
          exact hret 52 p3 () _ dX0_wouldLet_52 hw
        · refine g_iload_n C dX0_wouldLet_47 1 rfl rfl ?_
          refine g_goto (pc' := 52) C dX0_wouldLet_48 (by decide) rfl ?_
          exact hret 52 p2 () _ dX0_wouldLet_52 hw
      · replace hw := hw.2 hs1_2
        rcases Classical.em (p1 = 4) with hs1_3 | hs1_3
        · replace hw := hw.1 hs1_3
          refine g_tswIn (pc' := 53) C dX0_wouldLet_1 4 hs1_3 (by decide) (by decide) rfl (by decide) ?_
          refine g_iload_n C dX0_wouldLet_53 1 rfl rfl ?_
          refine g_iload_n C dX0_wouldLet_54 2 rfl rfl ?_
          refine g_icmp_ge (tgt := 64) C dX0_wouldLet_55 (by decide) rfl hw (fun _ hw => ?_) (fun _ hw => ?_)
          · refine g_iconst (v := 0) C dX0_wouldLet_64 rfl rfl ?_
            exact hret 65 (0 : Int32) () _ dX0_wouldLet_65 hw
          · refine g_iload_n C dX0_wouldLet_58 2 rfl rfl ?_
            refine g_iload_n C dX0_wouldLet_59 1 rfl rfl ?_
            refine g_isub C dX0_wouldLet_60 rfl ?_
            refine g_goto (pc' := 65) C dX0_wouldLet_61 (by decide) rfl ?_
            exact hret 65 (p3 - p2) () _ dX0_wouldLet_65 hw
        · replace hw := hw.2 hs1_3
          rcases Classical.em (p1 = 5) with hs1_4 | hs1_4
          · replace hw := hw.1 hs1_4
            refine g_tswIn (pc' := 66) C dX0_wouldLet_1 5 hs1_4 (by decide) (by decide) rfl (by decide) ?_
            refine g_iload_n C dX0_wouldLet_66 2 rfl rfl ?_
            refine g_iconst (v := 2) C dX0_wouldLet_67 rfl rfl ?_
            refine g_idiv C dX0_wouldLet_68 (by decide) rfl ?_
            refine g_iconst (v := 2) C dX0_wouldLet_69 rfl rfl ?_
            refine g_idiv C dX0_wouldLet_70 (by decide) rfl ?_
            exact hret 71 ((p3 / (2 : Int32)) / (2 : Int32)) () _ dX0_wouldLet_71 hw
          · replace hw := hw.2 hs1_4
            have ht1 : (p1).toInt < 1 ∨ 5 < (p1).toInt := by
              have q0 := lv_neT (a := 1) hs1_0 (by decide)
              have q1 := lv_neT (a := 2) hs1_1 (by decide)
              have q2 := lv_neT (a := 3) hs1_2 (by decide)
              have q3 := lv_neT (a := 4) hs1_3 (by decide)
              have q4 := lv_neT (a := 5) hs1_4 (by decide)
              omega
            refine g_tswOut (pc' := 72) C dX0_wouldLet_1 ht1 (by decide) ?_
            refine g_iload_n C dX0_wouldLet_72 2 rfl rfl ?_
            refine g_iconst (v := 1) C dX0_wouldLet_73 rfl rfl ?_
            refine g_iadd C dX0_wouldLet_74 rfl ?_
            refine g_iconst (v := 2) C dX0_wouldLet_75 rfl rfl ?_
            refine g_idiv C dX0_wouldLet_76 (by decide) rfl ?_
            exact hret 77 ((p3 + (1 : Int32)) / (2 : Int32)) () _ dX0_wouldLet_77 hw
set_option maxRecDepth 100000 in
theorem c_X0_wouldLet (l : Launch) (D : va_G) (cI cQ : ClassId) (p1 : Int32) (p2 : Int32) (p3 : Int32) (post : Int32 → Prop) (sz : Nat) : Met l yX0_wouldLet (wsY yX0_wouldLet cX0_wouldLet 3 (some .int)) (rmL 0 0 0 0) (xP D (tyL cI cQ) [.int p1, .int p2, .int p3] [] sz (p_X0_wouldLet p1 p2 p3 post)) (xQi D (tyL cI cQ) (fun (r : Int32) (_ : Unit) => post r) (fun (u : Unit) => []) (va_A [].flatten sz)) 0 0 (va_A [].flatten sz) :=
  Met_i pn_X0 (Nat.le_of_ble_eq_true rfl) (fun p e s mi below meth co A Q _ C hret hw => w_X0_wouldLet p1 p2 p3 C hret hw)
theorem kS_X0_wouldLet : Cond.static yX0_wouldLet ∈ gTbl ∧ Cond.initialized yX0_wouldLet.cls ∈ gTbl ∧ Cond.code yX0_wouldLet cX0_wouldLet 3 (some .int) ∈ gTbl ∧ (yX0_wouldLet.cls ≠ "java/lang/invoke/MethodHandle" ∧ yX0_wouldLet.cls ≠ "java/lang/invoke/VarHandle" ∧ (parseMethodDescriptor yX0_wouldLet.desc).map (fun d => d.parameters.length) = some 3) := ⟨sm_X0_wouldLet, in_X0, cd_X0_wouldLet, (by decide +kernel)⟩
set_option maxRecDepth 100000 in
def p_X0_letsThrough (p1 : Int32) (p2 : Int32) (p3 : Int32) (post : Int32 → Prop) : Prop := p_X0_stands p1 (fun (r1 : Int32) => jn (fun (z3 : Int32) => (fun (x2 : Int32) => p_X0_wouldLet p1 p2 p3 (fun (r4 : Int32) => ((x2 ≤ r4 → post x2) ∧ (¬ x2 ≤ r4 → post r4)))) z3) (fun J3 => ((p3 ≤ r1 → J3 (0 : Int32)) ∧ (¬ p3 ≤ r1 → p_X0_stands p1 (fun (r5 : Int32) => J3 (p3 - r5))))))
set_option maxHeartbeats 4000000 in
set_option maxRecDepth 100000 in
theorem w_X0_letsThrough {p : Program} {l : Launch} {e : Env} {s : State} {mi : MethodId} {args : Array Value} {below : List Frame} {meth : Method} {co : Code} {D : va_G} {cI cQ : ClassId} {A : Nat → Prop} {Q : State → Prop} (p1 : Int32) (p2 : Int32) (p3 : Int32) {post : Int32 → Prop} (C : xC p s mi args co cX0_letsThrough RX0 5 D (tyL cI cQ) A) (hret : ∀ (pc : Nat) (r : Int32) (u : Unit) (lv : List (Nat × Value)), decode cX0_letsThrough pc = .ok (.ireturn, 1) → post r → xG p l e (rmL 1 0 0 22) s mi args below meth co D A 5 Q 0 0 pc [.int r] [] lv) (hw : p_X0_letsThrough p1 p2 p3 post) : xG p l e (rmL 1 0 0 22) s mi args below meth co D A 5 Q 0 0 0 [] [] [(0, .int p1), (1, .int p2), (2, .int p3)] := by
  unfold p_X0_letsThrough at hw
  try dsimp only at hw
  show xG p l e (rmL 1 0 0 22) s mi args below meth co D A 5 Q 0 0 0 [] [] [(0, .int p1), (1, .int p2), (2, .int p3)]
  refine g_iload_n C dX0_letsThrough_0 2 rfl rfl ?_
  refine g_iload_n C dX0_letsThrough_1 0 rfl rfl ?_
  refine g_callSi (As := [.int p1]) (gr := []) C (c_X0_stands l D cI cQ   p1 _) dX0_letsThrough_2 ⟨ml_X0_7, kS_X0_stands⟩ ⟨Nat.le_of_ble_eq_true rfl, Nat.le_of_ble_eq_true rfl⟩ ⟨Nat.le_refl _, Nat.le_refl _⟩ [] 0 rfl pma_ rfl rfl rfl (Nat.le_of_ble_eq_true rfl) rfl (fun (u : Unit) => []) [] 0 (fun _ => rfl) pma_ (fun _ => rfl) hw (fun r1 u1 hw => ?_)
  refine jn_el hw (fun (z3 : Int32) => (fun (x2 : Int32) => xG p l e (rmL 1 0 0 22) s mi args below meth co D A 5 Q 0 0 18 [.int x2] [] [(0, .int p1), (1, .int p2), (2, .int p3)]) z3) ?_ ?_
  · rintro x2 hw
    show xG p l e (rmL 1 0 0 22) s mi args below meth co D A 5 Q 0 0 18 [.int x2] [] [(0, .int p1), (1, .int p2), (2, .int p3)]
    refine g_istore_n (v := x2) C dX0_letsThrough_18 rfl (Nat.le_of_ble_eq_true rfl) (lv' := [(3, .int x2), (0, .int p1), (1, .int p2), (2, .int p3)]) rfl rfl ?_
    refine g_iload_n C dX0_letsThrough_19 1 rfl rfl ?_
    refine g_iload_n C dX0_letsThrough_20 2 rfl rfl ?_
    refine g_iload_n C dX0_letsThrough_21 3 rfl rfl ?_
    refine g_callSi (As := [.int p1, .int p2, .int p3]) (gr := []) C (c_X0_wouldLet l D cI cQ   p1 p2 p3 _) dX0_letsThrough_22 ⟨ml_X0_13, kS_X0_wouldLet⟩ ⟨Nat.le_of_ble_eq_true rfl, Nat.le_of_ble_eq_true rfl⟩ ⟨Nat.le_refl _, Nat.le_refl _⟩ [] 0 rfl pma_ rfl rfl rfl (Nat.le_of_ble_eq_true rfl) rfl (fun (u : Unit) => []) [] 0 (fun _ => rfl) pma_ (fun _ => rfl) hw (fun r4 u4 hw => ?_)
    refine g_istore (v := r4) C dX0_letsThrough_25 rfl (Nat.le_of_ble_eq_true rfl) (lv' := [(4, .int r4), (3, .int x2), (0, .int p1), (1, .int p2), (2, .int p3)]) rfl rfl ?_
    refine g_iload C dX0_letsThrough_27 0 rfl rfl ?_
    refine g_iload_n C dX0_letsThrough_29 1 rfl rfl ?_
    refine g_icmp_ge (tgt := 38) C dX0_letsThrough_30 (by decide) rfl hw (fun _ hw => ?_) (fun _ hw => ?_)
    · refine g_iload_n C dX0_letsThrough_38 1 rfl rfl ?_
      exact hret 39 x2 () _ dX0_letsThrough_39 hw
    · refine g_iload C dX0_letsThrough_33 0 rfl rfl ?_
      refine g_goto (pc' := 39) C dX0_letsThrough_35 (by decide) rfl ?_
      exact hret 39 r4 () _ dX0_letsThrough_39 hw
  · intro J3 hJ3 hw
    refine g_icmp_le (tgt := 17) C dX0_letsThrough_5 (by decide) rfl hw (fun _ hw => ?_) (fun _ hw => ?_)
    · refine g_iconst (v := 0) C dX0_letsThrough_17 rfl rfl ?_
      exact hJ3 (0 : Int32) hw
    · refine g_iload_n C dX0_letsThrough_8 2 rfl rfl ?_
      refine g_iload_n C dX0_letsThrough_9 0 rfl rfl ?_
      refine g_callSi (As := [.int p1]) (gr := []) C (c_X0_stands l D cI cQ   p1 _) dX0_letsThrough_10 ⟨ml_X0_7, kS_X0_stands⟩ ⟨Nat.le_of_ble_eq_true rfl, Nat.le_of_ble_eq_true rfl⟩ ⟨Nat.le_refl _, Nat.le_refl _⟩ [] 0 rfl pma_ rfl rfl rfl (Nat.le_of_ble_eq_true rfl) rfl (fun (u : Unit) => []) [] 0 (fun _ => rfl) pma_ (fun _ => rfl) hw (fun r5 u5 hw => ?_)
      refine g_isub C dX0_letsThrough_13 rfl ?_
      refine g_goto (pc' := 18) C dX0_letsThrough_14 (by decide) rfl ?_
      exact hJ3 (p3 - r5) hw
set_option maxRecDepth 100000 in
theorem c_X0_letsThrough (l : Launch) (D : va_G) (cI cQ : ClassId) (p1 : Int32) (p2 : Int32) (p3 : Int32) (post : Int32 → Prop) (sz : Nat) : Met l yX0_letsThrough (wsY yX0_letsThrough cX0_letsThrough 5 (some .int)) (rmL 1 0 0 22) (xP D (tyL cI cQ) [.int p1, .int p2, .int p3] [] sz (p_X0_letsThrough p1 p2 p3 post)) (xQi D (tyL cI cQ) (fun (r : Int32) (_ : Unit) => post r) (fun (u : Unit) => []) (va_A [].flatten sz)) 0 0 (va_A [].flatten sz) :=
  Met_i pn_X0 (Nat.le_of_ble_eq_true rfl) (fun p e s mi below meth co A Q _ C hret hw => w_X0_letsThrough p1 p2 p3 C hret hw)
theorem kS_X0_letsThrough : Cond.static yX0_letsThrough ∈ gTbl ∧ Cond.initialized yX0_letsThrough.cls ∈ gTbl ∧ Cond.code yX0_letsThrough cX0_letsThrough 5 (some .int) ∈ gTbl ∧ (yX0_letsThrough.cls ≠ "java/lang/invoke/MethodHandle" ∧ yX0_letsThrough.cls ≠ "java/lang/invoke/VarHandle" ∧ (parseMethodDescriptor yX0_letsThrough.desc).map (fun d => d.parameters.length) = some 3) := ⟨sm_X0_letsThrough, in_X0, cd_X0_letsThrough, (by decide +kernel)⟩
set_option maxRecDepth 100000 in
def p_X0_adds (p1 : Int32) (p2 : Int32) (post : Int32 → Prop) : Prop := ((p1 = 1 → post p2) ∧ (¬ p1 = 1 → ((p1 = 2 → post (3 : Int32)) ∧ (¬ p1 = 2 → ((p1 = 3 → post (0 : Int32)) ∧ (¬ p1 = 3 → ((p1 = 4 → post (p2 / (2 : Int32))) ∧ (¬ p1 = 4 → ((p1 = 5 → post ((3 : Int32) + p2)) ∧ (¬ p1 = 5 → post (1 : Int32)))))))))))
set_option maxHeartbeats 4000000 in
set_option maxRecDepth 100000 in
theorem w_X0_adds {p : Program} {l : Launch} {e : Env} {s : State} {mi : MethodId} {args : Array Value} {below : List Frame} {meth : Method} {co : Code} {D : va_G} {cI cQ : ClassId} {A : Nat → Prop} {Q : State → Prop} (p1 : Int32) (p2 : Int32) {post : Int32 → Prop} (C : xC p s mi args co cX0_adds RX0 2 D (tyL cI cQ) A) (hret : ∀ (pc : Nat) (r : Int32) (u : Unit) (lv : List (Nat × Value)), decode cX0_adds pc = .ok (.ireturn, 1) → post r → xG p l e (rmL 0 0 0 0) s mi args below meth co D A 2 Q 0 0 pc [.int r] [] lv) (hw : p_X0_adds p1 p2 post) : xG p l e (rmL 0 0 0 0) s mi args below meth co D A 2 Q 0 0 0 [] [] [(0, .int p1), (1, .int p2)] := by
  unfold p_X0_adds at hw
  try dsimp only at hw
  show xG p l e (rmL 0 0 0 0) s mi args below meth co D A 2 Q 0 0 0 [] [] [(0, .int p1), (1, .int p2)]
  refine g_iload_n C dX0_adds_0 0 rfl rfl ?_
  rcases Classical.em (p1 = 1) with hs1_0 | hs1_0
  · replace hw := hw.1 hs1_0
    refine g_tswIn (pc' := 36) C dX0_adds_1 1 hs1_0 (by decide) (by decide) rfl (by decide) ?_
    refine g_iload_n C dX0_adds_36 1 rfl rfl ?_
    exact hret 37 p2 () _ dX0_adds_37 hw
  · replace hw := hw.2 hs1_0
    rcases Classical.em (p1 = 2) with hs1_1 | hs1_1
    · replace hw := hw.1 hs1_1
      refine g_tswIn (pc' := 38) C dX0_adds_1 2 hs1_1 (by decide) (by decide) rfl (by decide) ?_
      refine g_iconst (v := 3) C dX0_adds_38 rfl rfl ?_
      exact hret 39 (3 : Int32) () _ dX0_adds_39 hw
    · replace hw := hw.2 hs1_1
      rcases Classical.em (p1 = 3) with hs1_2 | hs1_2
      · replace hw := hw.1 hs1_2
        refine g_tswIn (pc' := 40) C dX0_adds_1 3 hs1_2 (by decide) (by decide) rfl (by decide) ?_
        refine g_iconst (v := 0) C dX0_adds_40 rfl rfl ?_
        exact hret 41 (0 : Int32) () _ dX0_adds_41 hw
      · replace hw := hw.2 hs1_2
        rcases Classical.em (p1 = 4) with hs1_3 | hs1_3
        · replace hw := hw.1 hs1_3
          refine g_tswIn (pc' := 42) C dX0_adds_1 4 hs1_3 (by decide) (by decide) rfl (by decide) ?_
          refine g_iload_n C dX0_adds_42 1 rfl rfl ?_
          refine g_iconst (v := 2) C dX0_adds_43 rfl rfl ?_
          refine g_idiv C dX0_adds_44 (by decide) rfl ?_
          exact hret 45 (p2 / (2 : Int32)) () _ dX0_adds_45 hw
        · replace hw := hw.2 hs1_3
          rcases Classical.em (p1 = 5) with hs1_4 | hs1_4
          · replace hw := hw.1 hs1_4
            refine g_tswIn (pc' := 46) C dX0_adds_1 5 hs1_4 (by decide) (by decide) rfl (by decide) ?_
            refine g_iconst (v := 3) C dX0_adds_46 rfl rfl ?_
            refine g_iload_n C dX0_adds_47 1 rfl rfl ?_
            refine g_iadd C dX0_adds_48 rfl ?_
            exact hret 49 ((3 : Int32) + p2) () _ dX0_adds_49 hw
          · replace hw := hw.2 hs1_4
            have ht1 : (p1).toInt < 1 ∨ 5 < (p1).toInt := by
              have q0 := lv_neT (a := 1) hs1_0 (by decide)
              have q1 := lv_neT (a := 2) hs1_1 (by decide)
              have q2 := lv_neT (a := 3) hs1_2 (by decide)
              have q3 := lv_neT (a := 4) hs1_3 (by decide)
              have q4 := lv_neT (a := 5) hs1_4 (by decide)
              omega
            refine g_tswOut (pc' := 50) C dX0_adds_1 ht1 (by decide) ?_
            refine g_iconst (v := 1) C dX0_adds_50 rfl rfl ?_
            exact hret 51 (1 : Int32) () _ dX0_adds_51 hw
set_option maxRecDepth 100000 in
theorem c_X0_adds (l : Launch) (D : va_G) (cI cQ : ClassId) (p1 : Int32) (p2 : Int32) (post : Int32 → Prop) (sz : Nat) : Met l yX0_adds (wsY yX0_adds cX0_adds 2 (some .int)) (rmL 0 0 0 0) (xP D (tyL cI cQ) [.int p1, .int p2] [] sz (p_X0_adds p1 p2 post)) (xQi D (tyL cI cQ) (fun (r : Int32) (_ : Unit) => post r) (fun (u : Unit) => []) (va_A [].flatten sz)) 0 0 (va_A [].flatten sz) :=
  Met_i pn_X0 (Nat.le_of_ble_eq_true rfl) (fun p e s mi below meth co A Q _ C hret hw => w_X0_adds p1 p2 C hret hw)
theorem kS_X0_adds : Cond.static yX0_adds ∈ gTbl ∧ Cond.initialized yX0_adds.cls ∈ gTbl ∧ Cond.code yX0_adds cX0_adds 2 (some .int) ∈ gTbl ∧ (yX0_adds.cls ≠ "java/lang/invoke/MethodHandle" ∧ yX0_adds.cls ≠ "java/lang/invoke/VarHandle" ∧ (parseMethodDescriptor yX0_adds.desc).map (fun d => d.parameters.length) = some 2) := ⟨sm_X0_adds, in_X0, cd_X0_adds, (by decide +kernel)⟩
set_option maxRecDepth 100000 in
def p_X1_size (t : LT) (post : Int32 → Prop) : Prop := (fun (t_ar : F1) (t_sz : Int32) => post t_sz) t.1 t.2
set_option maxHeartbeats 4000000 in
set_option maxRecDepth 100000 in
theorem w_X1_size {p : Program} {l : Launch} {e : Env} {s : State} {mi : MethodId} {args : Array Value} {below : List Frame} {meth : Method} {co : Code} {D : va_G} {cI cQ : ClassId} {A : Nat → Prop} {Q : State → Prop} (a : Nat → Nat) (t : LT) {post : Int32 → Prop} (C : xC p s mi args co cX1_size RX1 1 D (tyL cI cQ) A) (hret : ∀ (pc : Nat) (r : Int32) (u : Unit) (lv : List (Nat × Value)), decode cX1_size pc = .ok (.ireturn, 1) → post r → xG p l e (rmL 0 0 0 0) s mi args below meth co D A 1 Q 0 0 pc [.int r] [gLet cI a t] lv) (hw : p_X1_size t post) : xG p l e (rmL 0 0 0 0) s mi args below meth co D A 1 Q 0 0 0 [] [gLet cI a t] [(0, .ref (a 0))] := by
  unfold p_X1_size at hw
  obtain ⟨t_ar, t_sz⟩ := t
  try dsimp only at hw
  show xG p l e (rmL 0 0 0 0) s mi args below meth co D A 1 Q 0 0 0 [] [gLet cI a (t_ar, t_sz)] [(0, .ref (a 0))]
  refine g_aload_n C dX1_size_0 0 rfl rfl ?_
  refine g_get (v := .int t_sz) (ci := 0) C dX1_size_1 inw_X1 rfl 0 0 1 rfl rfl (Nat.le_of_ble_eq_true rfl) rfl fl_X1_15 rfl rfl ?_
  exact hret 4 t_sz () _ dX1_size_4 hw
set_option maxRecDepth 100000 in
theorem c_X1_size (l : Launch) (D : va_G) (cI cQ : ClassId) (a : Nat → Nat) (t : LT) (post : Int32 → Prop) (sz : Nat) : Met l yX1_size (wsY yX1_size cX1_size 1 (some .int)) (rmL 0 0 0 0) (xP D (tyL cI cQ) [.ref (a 0)] [gLet cI a t] sz (p_X1_size t post)) (xQi D (tyL cI cQ) (fun (r : Int32) (_ : Unit) => post r) (fun (u : Unit) => [gLet cI a t]) (va_A [gLet cI a t].flatten sz)) 0 0 (va_A [gLet cI a t].flatten sz) :=
  Met_i pn_X1 (Nat.le_of_ble_eq_true rfl) (fun p e s mi below meth co A Q _ C hret hw => w_X1_size a t C hret hw)
theorem kV_X1_size : Cond.instanceMethod yX1_size ∈ gTbl ∧ Cond.selects yX1_size.cls yX1_size yX1_size ∈ gTbl ∧ Cond.initialized yX1_size.cls ∈ gTbl ∧ Cond.code yX1_size cX1_size 1 (some .int) ∈ gTbl ∧ (yX1_size.cls ≠ "java/lang/invoke/MethodHandle" ∧ yX1_size.cls ≠ "java/lang/invoke/VarHandle" ∧ (parseMethodDescriptor yX1_size.desc).map (fun d => d.parameters.length) = some 0) := ⟨im_X1_size, sl_X1_size, in_X1, cd_X1_size, (by decide +kernel)⟩
set_option maxRecDepth 100000 in
def p_X1_drop (t : LT) (post : LT → Prop) : Prop := (fun (t_ar : F1) (t_sz : Int32) => post (t_ar, (0 : Int32))) t.1 t.2
set_option maxHeartbeats 4000000 in
set_option maxRecDepth 100000 in
theorem w_X1_drop {p : Program} {l : Launch} {e : Env} {s : State} {mi : MethodId} {args : Array Value} {below : List Frame} {meth : Method} {co : Code} {D : va_G} {cI cQ : ClassId} {A : Nat → Prop} {Q : State → Prop} (a : Nat → Nat) (t : LT) {post : LT → Prop} (C : xC p s mi args co cX1_drop RX1 1 D (tyL cI cQ) A) (hret : ∀ (pc : Nat) (u : LT) (lv : List (Nat × Value)), decode cX1_drop pc = .ok (.return_, 1) → post u → xG p l e (rmL 0 0 0 0) s mi args below meth co D A 1 Q 0 0 pc [] [gLet cI a u] lv) (hw : p_X1_drop t post) : xG p l e (rmL 0 0 0 0) s mi args below meth co D A 1 Q 0 0 0 [] [gLet cI a t] [(0, .ref (a 0))] := by
  unfold p_X1_drop at hw
  obtain ⟨t_ar, t_sz⟩ := t
  try dsimp only at hw
  show xG p l e (rmL 0 0 0 0) s mi args below meth co D A 1 Q 0 0 0 [] [gLet cI a (t_ar, t_sz)] [(0, .ref (a 0))]
  refine g_aload_n C dX1_drop_0 0 rfl rfl ?_
  refine g_iconst (v := 0) C dX1_drop_1 rfl rfl ?_
  refine g_put (v' := .int (0 : Int32)) (ty := .int) (ci := 0) (gs' := [gLet cI a (t_ar, (0 : Int32))]) C dX1_drop_2 inw_X1 tyX1 tyX1_ok nmX1 rfl 0 0 1 rfl rfl (Nat.le_of_ble_eq_true rfl) rfl fl_X1_15 rfl fd_I rfl rfl rfl (Nat.le_of_ble_eq_true rfl) rfl rfl ?_
  exact hret 5 (t_ar, (0 : Int32)) _ dX1_drop_5 hw
set_option maxRecDepth 100000 in
theorem c_X1_drop (l : Launch) (D : va_G) (cI cQ : ClassId) (a : Nat → Nat) (t : LT) (post : LT → Prop) (sz : Nat) : Met l yX1_drop (wsY yX1_drop cX1_drop 1 none) (rmL 0 0 0 0) (xP D (tyL cI cQ) [.ref (a 0)] [gLet cI a t] sz (p_X1_drop t post)) (xQv D (tyL cI cQ) post (fun (u : LT) => [gLet cI a u]) (va_A [gLet cI a t].flatten sz)) 0 0 (va_A [gLet cI a t].flatten sz) :=
  Met_v pn_X1 (Nat.le_of_ble_eq_true rfl) (fun p e s mi below meth co A Q _ C hret hw => w_X1_drop a t C hret hw)
theorem kV_X1_drop : Cond.instanceMethod yX1_drop ∈ gTbl ∧ Cond.selects yX1_drop.cls yX1_drop yX1_drop ∈ gTbl ∧ Cond.initialized yX1_drop.cls ∈ gTbl ∧ Cond.code yX1_drop cX1_drop 1 none ∈ gTbl ∧ (yX1_drop.cls ≠ "java/lang/invoke/MethodHandle" ∧ yX1_drop.cls ≠ "java/lang/invoke/VarHandle" ∧ (parseMethodDescriptor yX1_drop.desc).map (fun d => d.parameters.length) = some 0) := ⟨im_X1_drop, sl_X1_drop, in_X1, cd_X1_drop, (by decide +kernel)⟩
set_option maxRecDepth 100000 in
def p_X1_add (t : LT) (p1 : Int32) (post : Int32 → LT → Prop) : Prop := (fun (t_ar : F1) (t_sz : Int32) => ((t_sz < (96 : Int32) → (vp_in t_sz 96 ∧ nm (upd t_ar (t_sz).toNatClampNeg p1) (fun (t_ar1 : F1) => nm ((t_sz + (1 : Int32)) : Int32) (fun (v2 : Int32) => post (1 : Int32) (t_ar1, v2))))) ∧ (¬ t_sz < (96 : Int32) → post (0 : Int32) (t_ar, t_sz)))) t.1 t.2
set_option maxHeartbeats 4000000 in
set_option maxRecDepth 100000 in
theorem w_X1_add {p : Program} {l : Launch} {e : Env} {s : State} {mi : MethodId} {args : Array Value} {below : List Frame} {meth : Method} {co : Code} {D : va_G} {cI cQ : ClassId} {A : Nat → Prop} {Q : State → Prop} (a : Nat → Nat) (t : LT) (p1 : Int32) {post : Int32 → LT → Prop} (C : xC p s mi args co cX1_add RX1 2 D (tyL cI cQ) A) (hret : ∀ (pc : Nat) (r : Int32) (u : LT) (lv : List (Nat × Value)), decode cX1_add pc = .ok (.ireturn, 1) → bz r → post r u → xG p l e (rmL 0 0 0 0) s mi args below meth co D A 2 Q 0 0 pc [.int r] [gLet cI a u] lv) (hw : p_X1_add t p1 post) : xG p l e (rmL 0 0 0 0) s mi args below meth co D A 2 Q 0 0 0 [] [gLet cI a t] [(0, .ref (a 0)), (1, .int p1)] := by
  unfold p_X1_add at hw
  obtain ⟨t_ar, t_sz⟩ := t
  try dsimp only at hw
  show xG p l e (rmL 0 0 0 0) s mi args below meth co D A 2 Q 0 0 0 [] [gLet cI a (t_ar, t_sz)] [(0, .ref (a 0)), (1, .int p1)]
  refine g_aload_n C dX1_add_0 0 rfl rfl ?_
  refine g_get (v := .int t_sz) (ci := 0) C dX1_add_1 inw_X1 rfl 0 0 1 rfl rfl (Nat.le_of_ble_eq_true rfl) rfl fl_X1_15 rfl rfl ?_
  refine g_bipush (v := 96) C dX1_add_4 (by decide) rfl ?_
  refine g_icmp_lt (tgt := 11) C dX1_add_6 (by decide) rfl hw (fun _ hw => ?_) (fun _ hw => ?_)
  · refine g_aload_n C dX1_add_11 0 rfl rfl ?_
    refine g_get (v := .ref (a 1)) (ci := 0) C dX1_add_12 inw_X1 rfl 0 0 0 rfl rfl (Nat.le_of_ble_eq_true rfl) rfl fl_X1_9 rfl rfl ?_
    refine g_aload_n C dX1_add_15 0 rfl rfl ?_
    refine g_get (v := .int t_sz) (ci := 0) C dX1_add_16 inw_X1 rfl 0 0 1 rfl rfl (Nat.le_of_ble_eq_true rfl) rfl fl_X1_15 rfl rfl ?_
    refine g_iload_n C dX1_add_19 1 rfl rfl ?_
    have hi20 := hw.1
    refine nm_el hw.2 (fun t_ar1 et_ar1 hw => ?_)
    refine g_iast (f := t_ar) (f' := t_ar1) (gs' := [gLet cI a (t_ar1, t_sz)]) C dX1_add_20 0 1 rfl rfl 0 rfl hi20 et_ar1.symm rfl rfl ?_
    refine g_aload_n C dX1_add_21 0 rfl rfl ?_
    refine g_dup C dX1_add_22 rfl rfl ?_
    refine g_get (v := .int t_sz) (ci := 0) C dX1_add_23 inw_X1 rfl 0 0 1 rfl rfl (Nat.le_of_ble_eq_true rfl) rfl fl_X1_15 rfl rfl ?_
    refine g_iconst (v := 1) C dX1_add_26 rfl rfl ?_
    refine g_iadd C dX1_add_27 rfl ?_
    refine nm_el hw (fun v2 ev2 hw => ?_)
    refine g_put (v' := .int v2) (ty := .int) (ci := 0) (gs' := [gLet cI a (t_ar1, v2)]) C dX1_add_28 inw_X1 tyX1 tyX1_ok nmX1 rfl 0 0 1 rfl rfl (Nat.le_of_ble_eq_true rfl) rfl fl_X1_15 rfl fd_I (congrArg Value.int ev2.symm) rfl rfl (Nat.le_of_ble_eq_true rfl) rfl rfl ?_
    refine g_iconst (v := 1) C dX1_add_31 rfl rfl ?_
    exact hret 32 (1 : Int32) (t_ar1, v2) _ dX1_add_32 ⟨rfl, rfl⟩ hw
  · refine g_iconst (v := 0) C dX1_add_9 rfl rfl ?_
    exact hret 10 (0 : Int32) (t_ar, t_sz) _ dX1_add_10 ⟨rfl, rfl⟩ hw
set_option maxRecDepth 100000 in
theorem c_X1_add (l : Launch) (D : va_G) (cI cQ : ClassId) (a : Nat → Nat) (t : LT) (p1 : Int32) (post : Int32 → LT → Prop) (sz : Nat) : Met l yX1_add (wsY yX1_add cX1_add 2 (some .boolean)) (rmL 0 0 0 0) (xP D (tyL cI cQ) [.ref (a 0), .int p1] [gLet cI a t] sz (p_X1_add t p1 post)) (xQi D (tyL cI cQ) post (fun (u : LT) => [gLet cI a u]) (va_A [gLet cI a t].flatten sz)) 0 0 (va_A [gLet cI a t].flatten sz) :=
  Met_z pn_X1 (Nat.le_of_ble_eq_true rfl) (fun p e s mi below meth co A Q _ C hret hw => w_X1_add a t p1 C hret hw)
theorem kV_X1_add : Cond.instanceMethod yX1_add ∈ gTbl ∧ Cond.selects yX1_add.cls yX1_add yX1_add ∈ gTbl ∧ Cond.initialized yX1_add.cls ∈ gTbl ∧ Cond.code yX1_add cX1_add 2 (some .boolean) ∈ gTbl ∧ (yX1_add.cls ≠ "java/lang/invoke/MethodHandle" ∧ yX1_add.cls ≠ "java/lang/invoke/VarHandle" ∧ (parseMethodDescriptor yX1_add.desc).map (fun d => d.parameters.length) = some 1) := ⟨im_X1_add, sl_X1_add, in_X1, cd_X1_add, (by decide +kernel)⟩
set_option maxRecDepth 100000 in
def p_X1_at (t : LT) (p1 : Int32) (post : Int32 → Prop) : Prop := (fun (t_ar : F1) (t_sz : Int32) => ((p1 < 0 → post (-1 : Int32)) ∧ (¬ p1 < 0 → ((t_sz ≤ p1 → post (-1 : Int32)) ∧ (¬ t_sz ≤ p1 → (vp_in p1 96 ∧ post (t_ar (p1).toNatClampNeg))))))) t.1 t.2
set_option maxHeartbeats 4000000 in
set_option maxRecDepth 100000 in
theorem w_X1_at {p : Program} {l : Launch} {e : Env} {s : State} {mi : MethodId} {args : Array Value} {below : List Frame} {meth : Method} {co : Code} {D : va_G} {cI cQ : ClassId} {A : Nat → Prop} {Q : State → Prop} (a : Nat → Nat) (t : LT) (p1 : Int32) {post : Int32 → Prop} (C : xC p s mi args co cX1_at RX1 2 D (tyL cI cQ) A) (hret : ∀ (pc : Nat) (r : Int32) (u : Unit) (lv : List (Nat × Value)), decode cX1_at pc = .ok (.ireturn, 1) → post r → xG p l e (rmL 0 0 0 0) s mi args below meth co D A 2 Q 0 0 pc [.int r] [gLet cI a t] lv) (hw : p_X1_at t p1 post) : xG p l e (rmL 0 0 0 0) s mi args below meth co D A 2 Q 0 0 0 [] [gLet cI a t] [(0, .ref (a 0)), (1, .int p1)] := by
  unfold p_X1_at at hw
  obtain ⟨t_ar, t_sz⟩ := t
  try dsimp only at hw
  show xG p l e (rmL 0 0 0 0) s mi args below meth co D A 2 Q 0 0 0 [] [gLet cI a (t_ar, t_sz)] [(0, .ref (a 0)), (1, .int p1)]
  refine g_iload_n C dX1_at_0 1 rfl rfl ?_
  refine g_if_lt (tgt := 21) C dX1_at_1 (by decide) rfl hw (fun _ hw => ?_) (fun _ hw => ?_)
  · refine g_iconst (v := -1) C dX1_at_21 (by decide) rfl ?_
    exact hret 22 (-1 : Int32) () _ dX1_at_22 hw
  · refine g_iload_n C dX1_at_4 1 rfl rfl ?_
    refine g_aload_n C dX1_at_5 0 rfl rfl ?_
    refine g_get (v := .int t_sz) (ci := 0) C dX1_at_6 inw_X1 rfl 0 0 1 rfl rfl (Nat.le_of_ble_eq_true rfl) rfl fl_X1_15 rfl rfl ?_
    refine g_icmp_ge (tgt := 21) C dX1_at_9 (by decide) rfl hw (fun _ hw => ?_) (fun _ hw => ?_)
    · refine g_iconst (v := -1) C dX1_at_21 (by decide) rfl ?_
      exact hret 22 (-1 : Int32) () _ dX1_at_22 hw
    · refine g_aload_n C dX1_at_12 0 rfl rfl ?_
      refine g_get (v := .ref (a 1)) (ci := 0) C dX1_at_13 inw_X1 rfl 0 0 0 rfl rfl (Nat.le_of_ble_eq_true rfl) rfl fl_X1_9 rfl rfl ?_
      refine g_iload_n C dX1_at_16 1 rfl rfl ?_
      have hi17 := hw.1
      replace hw := hw.2
      refine g_iald (f := t_ar) C dX1_at_17 0 1 rfl rfl 0 rfl hi17 rfl ?_
      refine g_goto (pc' := 22) C dX1_at_18 (by decide) rfl ?_
      exact hret 22 (t_ar (p1).toNatClampNeg) () _ dX1_at_22 hw
set_option maxRecDepth 100000 in
theorem c_X1_at (l : Launch) (D : va_G) (cI cQ : ClassId) (a : Nat → Nat) (t : LT) (p1 : Int32) (post : Int32 → Prop) (sz : Nat) : Met l yX1_at (wsY yX1_at cX1_at 2 (some .int)) (rmL 0 0 0 0) (xP D (tyL cI cQ) [.ref (a 0), .int p1] [gLet cI a t] sz (p_X1_at t p1 post)) (xQi D (tyL cI cQ) (fun (r : Int32) (_ : Unit) => post r) (fun (u : Unit) => [gLet cI a t]) (va_A [gLet cI a t].flatten sz)) 0 0 (va_A [gLet cI a t].flatten sz) :=
  Met_i pn_X1 (Nat.le_of_ble_eq_true rfl) (fun p e s mi below meth co A Q _ C hret hw => w_X1_at a t p1 C hret hw)
theorem kV_X1_at : Cond.instanceMethod yX1_at ∈ gTbl ∧ Cond.selects yX1_at.cls yX1_at yX1_at ∈ gTbl ∧ Cond.initialized yX1_at.cls ∈ gTbl ∧ Cond.code yX1_at cX1_at 2 (some .int) ∈ gTbl ∧ (yX1_at.cls ≠ "java/lang/invoke/MethodHandle" ∧ yX1_at.cls ≠ "java/lang/invoke/VarHandle" ∧ (parseMethodDescriptor yX1_at.desc).map (fun d => d.parameters.length) = some 1) := ⟨im_X1_at, sl_X1_at, in_X1, cd_X1_at, (by decide +kernel)⟩
set_option maxRecDepth 100000 in
def p_X1_isDigit (p1 : Int32) (post : Int32 → Prop) : Prop := ((p1 < (48 : Int32) → post (0 : Int32)) ∧ (¬ p1 < (48 : Int32) → (((57 : Int32) < p1 → post (0 : Int32)) ∧ (¬ (57 : Int32) < p1 → post (1 : Int32)))))
set_option maxHeartbeats 4000000 in
set_option maxRecDepth 100000 in
theorem w_X1_isDigit {p : Program} {l : Launch} {e : Env} {s : State} {mi : MethodId} {args : Array Value} {below : List Frame} {meth : Method} {co : Code} {D : va_G} {cI cQ : ClassId} {A : Nat → Prop} {Q : State → Prop} (p1 : Int32) {post : Int32 → Prop} (C : xC p s mi args co cX1_isDigit RX1 1 D (tyL cI cQ) A) (hret : ∀ (pc : Nat) (r : Int32) (u : Unit) (lv : List (Nat × Value)), decode cX1_isDigit pc = .ok (.ireturn, 1) → bz r → post r → xG p l e (rmL 0 0 0 0) s mi args below meth co D A 1 Q 0 0 pc [.int r] [] lv) (hw : p_X1_isDigit p1 post) : xG p l e (rmL 0 0 0 0) s mi args below meth co D A 1 Q 0 0 0 [] [] [(0, .int p1)] := by
  unfold p_X1_isDigit at hw
  try dsimp only at hw
  show xG p l e (rmL 0 0 0 0) s mi args below meth co D A 1 Q 0 0 0 [] [] [(0, .int p1)]
  refine g_iload_n C dX1_isDigit_0 0 rfl rfl ?_
  refine g_bipush (v := 48) C dX1_isDigit_1 (by decide) rfl ?_
  refine g_icmp_lt (tgt := 16) C dX1_isDigit_3 (by decide) rfl hw (fun _ hw => ?_) (fun _ hw => ?_)
  · refine g_iconst (v := 0) C dX1_isDigit_16 rfl rfl ?_
    exact hret 17 (0 : Int32) () _ dX1_isDigit_17 ⟨rfl, rfl⟩ hw
  · refine g_iload_n C dX1_isDigit_6 0 rfl rfl ?_
    refine g_bipush (v := 57) C dX1_isDigit_7 (by decide) rfl ?_
    refine g_icmp_gt (tgt := 16) C dX1_isDigit_9 (by decide) rfl hw (fun _ hw => ?_) (fun _ hw => ?_)
    · refine g_iconst (v := 0) C dX1_isDigit_16 rfl rfl ?_
      exact hret 17 (0 : Int32) () _ dX1_isDigit_17 ⟨rfl, rfl⟩ hw
    · refine g_iconst (v := 1) C dX1_isDigit_12 rfl rfl ?_
      refine g_goto (pc' := 17) C dX1_isDigit_13 (by decide) rfl ?_
      exact hret 17 (1 : Int32) () _ dX1_isDigit_17 ⟨rfl, rfl⟩ hw
set_option maxRecDepth 100000 in
theorem c_X1_isDigit (l : Launch) (D : va_G) (cI cQ : ClassId) (p1 : Int32) (post : Int32 → Prop) (sz : Nat) : Met l yX1_isDigit (wsY yX1_isDigit cX1_isDigit 1 (some .boolean)) (rmL 0 0 0 0) (xP D (tyL cI cQ) [.int p1] [] sz (p_X1_isDigit p1 post)) (xQi D (tyL cI cQ) (fun (r : Int32) (_ : Unit) => post r) (fun (u : Unit) => []) (va_A [].flatten sz)) 0 0 (va_A [].flatten sz) :=
  Met_z pn_X1 (Nat.le_of_ble_eq_true rfl) (fun p e s mi below meth co A Q _ C hret hw => w_X1_isDigit p1 C hret hw)
theorem kS_X1_isDigit : Cond.static yX1_isDigit ∈ gTbl ∧ Cond.initialized yX1_isDigit.cls ∈ gTbl ∧ Cond.code yX1_isDigit cX1_isDigit 1 (some .boolean) ∈ gTbl ∧ (yX1_isDigit.cls ≠ "java/lang/invoke/MethodHandle" ∧ yX1_isDigit.cls ≠ "java/lang/invoke/VarHandle" ∧ (parseMethodDescriptor yX1_isDigit.desc).map (fun d => d.parameters.length) = some 1) := ⟨sm_X1_isDigit, in_X1, cd_X1_isDigit, (by decide +kernel)⟩
set_option maxRecDepth 100000 in
def p_X1_digitAt (t : LT) (p1 : Int32) (post : Int32 → Prop) : Prop := (fun (t_ar : F1) (t_sz : Int32) => p_X1_at (t_ar, t_sz) p1 (fun (r1 : Int32) => p_X1_isDigit r1 (fun (r2 : Int32) => ((r2 = 0 → post (-1 : Int32)) ∧ (¬ r2 = 0 → post (r1 - (48 : Int32))))))) t.1 t.2
set_option maxHeartbeats 4000000 in
set_option maxRecDepth 100000 in
theorem w_X1_digitAt {p : Program} {l : Launch} {e : Env} {s : State} {mi : MethodId} {args : Array Value} {below : List Frame} {meth : Method} {co : Code} {D : va_G} {cI cQ : ClassId} {A : Nat → Prop} {Q : State → Prop} (a : Nat → Nat) (t : LT) (p1 : Int32) {post : Int32 → Prop} (C : xC p s mi args co cX1_digitAt RX1 3 D (tyL cI cQ) A) (hret : ∀ (pc : Nat) (r : Int32) (u : Unit) (lv : List (Nat × Value)), decode cX1_digitAt pc = .ok (.ireturn, 1) → post r → xG p l e (rmL 1 0 0 21) s mi args below meth co D A 3 Q 0 0 pc [.int r] [gLet cI a t] lv) (hw : p_X1_digitAt t p1 post) : xG p l e (rmL 1 0 0 21) s mi args below meth co D A 3 Q 0 0 0 [] [gLet cI a t] [(0, .ref (a 0)), (1, .int p1)] := by
  unfold p_X1_digitAt at hw
  obtain ⟨t_ar, t_sz⟩ := t
  try dsimp only at hw
  show xG p l e (rmL 1 0 0 21) s mi args below meth co D A 3 Q 0 0 0 [] [gLet cI a (t_ar, t_sz)] [(0, .ref (a 0)), (1, .int p1)]
  refine g_aload_n C dX1_digitAt_0 0 rfl rfl ?_
  refine g_iload_n C dX1_digitAt_1 1 rfl rfl ?_
  refine g_callVi (As := [.int p1]) (gr := []) C (c_X1_at l D cI cQ a (t_ar, t_sz) p1 _) dX1_digitAt_2 ⟨ml_X1_19, kV_X1_at⟩ ⟨Nat.le_of_ble_eq_true rfl, Nat.le_of_ble_eq_true rfl⟩ ⟨Nat.le_refl _, Nat.le_refl _⟩ rfl rfl 0 0 rfl rfl [0] 1 rfl pma_0 rfl rfl rfl (Nat.le_of_ble_eq_true rfl) rfl (fun (u : Unit) => [gLet cI a (t_ar, t_sz)]) [0] 1 (fun _ => rfl) pma_0 (fun _ => rfl) hw (fun r1 u1 hw => ?_)
  refine g_istore_n (v := r1) C dX1_digitAt_5 rfl (Nat.le_of_ble_eq_true rfl) (lv' := [(2, .int r1), (0, .ref (a 0)), (1, .int p1)]) rfl rfl ?_
  refine g_iload_n C dX1_digitAt_6 0 rfl rfl ?_
  refine g_callSi (As := [.int r1]) (gr := [gLet cI a (t_ar, t_sz)]) C (c_X1_isDigit l D cI cQ   r1 _) dX1_digitAt_7 ⟨ml_X1_23, kS_X1_isDigit⟩ ⟨Nat.le_of_ble_eq_true rfl, Nat.le_of_ble_eq_true rfl⟩ ⟨Nat.le_refl _, Nat.le_refl _⟩ [0] 1 rfl pma_0 rfl rfl rfl (Nat.le_of_ble_eq_true rfl) rfl (fun (u : Unit) => [gLet cI a (t_ar, t_sz)]) [0] 1 (fun _ => rfl) pma_0 (fun _ => rfl) hw (fun r2 u2 hw => ?_)
  refine g_if_eq (tgt := 20) C dX1_digitAt_10 (by decide) rfl hw (fun _ hw => ?_) (fun _ hw => ?_)
  · refine g_iconst (v := -1) C dX1_digitAt_20 (by decide) rfl ?_
    exact hret 21 (-1 : Int32) () _ dX1_digitAt_21 hw
  · refine g_iload_n C dX1_digitAt_13 0 rfl rfl ?_
    refine g_bipush (v := 48) C dX1_digitAt_14 (by decide) rfl ?_
    refine g_isub C dX1_digitAt_16 rfl ?_
    refine g_goto (pc' := 21) C dX1_digitAt_17 (by decide) rfl ?_
    exact hret 21 (r1 - (48 : Int32)) () _ dX1_digitAt_21 hw
set_option maxRecDepth 100000 in
theorem c_X1_digitAt (l : Launch) (D : va_G) (cI cQ : ClassId) (a : Nat → Nat) (t : LT) (p1 : Int32) (post : Int32 → Prop) (sz : Nat) : Met l yX1_digitAt (wsY yX1_digitAt cX1_digitAt 3 (some .int)) (rmL 1 0 0 21) (xP D (tyL cI cQ) [.ref (a 0), .int p1] [gLet cI a t] sz (p_X1_digitAt t p1 post)) (xQi D (tyL cI cQ) (fun (r : Int32) (_ : Unit) => post r) (fun (u : Unit) => [gLet cI a t]) (va_A [gLet cI a t].flatten sz)) 0 0 (va_A [gLet cI a t].flatten sz) :=
  Met_i pn_X1 (Nat.le_of_ble_eq_true rfl) (fun p e s mi below meth co A Q _ C hret hw => w_X1_digitAt a t p1 C hret hw)
theorem kV_X1_digitAt : Cond.instanceMethod yX1_digitAt ∈ gTbl ∧ Cond.selects yX1_digitAt.cls yX1_digitAt yX1_digitAt ∈ gTbl ∧ Cond.initialized yX1_digitAt.cls ∈ gTbl ∧ Cond.code yX1_digitAt cX1_digitAt 3 (some .int) ∈ gTbl ∧ (yX1_digitAt.cls ≠ "java/lang/invoke/MethodHandle" ∧ yX1_digitAt.cls ≠ "java/lang/invoke/VarHandle" ∧ (parseMethodDescriptor yX1_digitAt.desc).map (fun d => d.parameters.length) = some 1) := ⟨im_X1_digitAt, sl_X1_digitAt, in_X1, cd_X1_digitAt, (by decide +kernel)⟩
set_option maxRecDepth 100000 in
def p_X1_beginsAt (t : LT) (p1 : Int32) (post : Int32 → Prop) : Prop := (fun (t_ar : F1) (t_sz : Int32) => ((p1 = 0 → post (1 : Int32)) ∧ (¬ p1 = 0 → p_X1_at (t_ar, t_sz) (p1 - (1 : Int32)) (fun (r1 : Int32) => ((r1 = (59 : Int32) → post (1 : Int32)) ∧ (¬ r1 = (59 : Int32) → post (0 : Int32))))))) t.1 t.2
set_option maxHeartbeats 4000000 in
set_option maxRecDepth 100000 in
theorem w_X1_beginsAt {p : Program} {l : Launch} {e : Env} {s : State} {mi : MethodId} {args : Array Value} {below : List Frame} {meth : Method} {co : Code} {D : va_G} {cI cQ : ClassId} {A : Nat → Prop} {Q : State → Prop} (a : Nat → Nat) (t : LT) (p1 : Int32) {post : Int32 → Prop} (C : xC p s mi args co cX1_beginsAt RX1 2 D (tyL cI cQ) A) (hret : ∀ (pc : Nat) (r : Int32) (u : Unit) (lv : List (Nat × Value)), decode cX1_beginsAt pc = .ok (.ireturn, 1) → bz r → post r → xG p l e (rmL 1 0 0 21) s mi args below meth co D A 2 Q 0 0 pc [.int r] [gLet cI a t] lv) (hw : p_X1_beginsAt t p1 post) : xG p l e (rmL 1 0 0 21) s mi args below meth co D A 2 Q 0 0 0 [] [gLet cI a t] [(0, .ref (a 0)), (1, .int p1)] := by
  unfold p_X1_beginsAt at hw
  obtain ⟨t_ar, t_sz⟩ := t
  try dsimp only at hw
  show xG p l e (rmL 1 0 0 21) s mi args below meth co D A 2 Q 0 0 0 [] [gLet cI a (t_ar, t_sz)] [(0, .ref (a 0)), (1, .int p1)]
  refine g_iload_n C dX1_beginsAt_0 1 rfl rfl ?_
  refine g_if_eq (tgt := 16) C dX1_beginsAt_1 (by decide) rfl hw (fun _ hw => ?_) (fun _ hw => ?_)
  · refine g_iconst (v := 1) C dX1_beginsAt_16 rfl rfl ?_
    refine g_goto (pc' := 21) C dX1_beginsAt_17 (by decide) rfl ?_
    exact hret 21 (1 : Int32) () _ dX1_beginsAt_21 ⟨rfl, rfl⟩ hw
  · refine g_aload_n C dX1_beginsAt_4 0 rfl rfl ?_
    refine g_iload_n C dX1_beginsAt_5 1 rfl rfl ?_
    refine g_iconst (v := 1) C dX1_beginsAt_6 rfl rfl ?_
    refine g_isub C dX1_beginsAt_7 rfl ?_
    refine g_callVi (As := [.int (p1 - (1 : Int32))]) (gr := []) C (c_X1_at l D cI cQ a (t_ar, t_sz) (p1 - (1 : Int32)) _) dX1_beginsAt_8 ⟨ml_X1_19, kV_X1_at⟩ ⟨Nat.le_of_ble_eq_true rfl, Nat.le_of_ble_eq_true rfl⟩ ⟨Nat.le_refl _, Nat.le_refl _⟩ rfl rfl 0 0 rfl rfl [0] 1 rfl pma_0 rfl rfl rfl (Nat.le_of_ble_eq_true rfl) rfl (fun (u : Unit) => [gLet cI a (t_ar, t_sz)]) [0] 1 (fun _ => rfl) pma_0 (fun _ => rfl) hw (fun r1 u1 hw => ?_)
    refine g_bipush (v := 59) C dX1_beginsAt_11 (by decide) rfl ?_
    refine g_icmp_ne (tgt := 20) C dX1_beginsAt_13 (by decide) rfl hw (fun _ hw => ?_) (fun _ hw => ?_)
    · refine g_iconst (v := 0) C dX1_beginsAt_20 rfl rfl ?_
      exact hret 21 (0 : Int32) () _ dX1_beginsAt_21 ⟨rfl, rfl⟩ hw
    · refine g_iconst (v := 1) C dX1_beginsAt_16 rfl rfl ?_
      refine g_goto (pc' := 21) C dX1_beginsAt_17 (by decide) rfl ?_
      exact hret 21 (1 : Int32) () _ dX1_beginsAt_21 ⟨rfl, rfl⟩ hw
set_option maxRecDepth 100000 in
theorem c_X1_beginsAt (l : Launch) (D : va_G) (cI cQ : ClassId) (a : Nat → Nat) (t : LT) (p1 : Int32) (post : Int32 → Prop) (sz : Nat) : Met l yX1_beginsAt (wsY yX1_beginsAt cX1_beginsAt 2 (some .boolean)) (rmL 1 0 0 21) (xP D (tyL cI cQ) [.ref (a 0), .int p1] [gLet cI a t] sz (p_X1_beginsAt t p1 post)) (xQi D (tyL cI cQ) (fun (r : Int32) (_ : Unit) => post r) (fun (u : Unit) => [gLet cI a t]) (va_A [gLet cI a t].flatten sz)) 0 0 (va_A [gLet cI a t].flatten sz) :=
  Met_z pn_X1 (Nat.le_of_ble_eq_true rfl) (fun p e s mi below meth co A Q _ C hret hw => w_X1_beginsAt a t p1 C hret hw)
theorem kV_X1_beginsAt : Cond.instanceMethod yX1_beginsAt ∈ gTbl ∧ Cond.selects yX1_beginsAt.cls yX1_beginsAt yX1_beginsAt ∈ gTbl ∧ Cond.initialized yX1_beginsAt.cls ∈ gTbl ∧ Cond.code yX1_beginsAt cX1_beginsAt 2 (some .boolean) ∈ gTbl ∧ (yX1_beginsAt.cls ≠ "java/lang/invoke/MethodHandle" ∧ yX1_beginsAt.cls ≠ "java/lang/invoke/VarHandle" ∧ (parseMethodDescriptor yX1_beginsAt.desc).map (fun d => d.parameters.length) = some 1) := ⟨im_X1_beginsAt, sl_X1_beginsAt, in_X1, cd_X1_beginsAt, (by decide +kernel)⟩
set_option maxRecDepth 100000 in
def p_X1_digitsBehind (p1 : Int32) (post : Int32 → Prop) : Prop := ((p1 = 98 → post (1 : Int32)) ∧ (¬ p1 = 98 → ((p1 = 99 → post (0 : Int32)) ∧ (¬ p1 = 99 → ((p1 = 100 → post (2 : Int32)) ∧ (¬ p1 = 100 → ((p1 = 110 → post (2 : Int32)) ∧ (¬ p1 = 110 → ((p1 = 118 → post (3 : Int32)) ∧ (¬ p1 = 118 → ((p1 = 120 → post (2 : Int32)) ∧ (¬ p1 = 120 → post (-1 : Int32)))))))))))))
set_option maxHeartbeats 4000000 in
set_option maxRecDepth 100000 in
theorem w_X1_digitsBehind {p : Program} {l : Launch} {e : Env} {s : State} {mi : MethodId} {args : Array Value} {below : List Frame} {meth : Method} {co : Code} {D : va_G} {cI cQ : ClassId} {A : Nat → Prop} {Q : State → Prop} (p1 : Int32) {post : Int32 → Prop} (C : xC p s mi args co cX1_digitsBehind RX1 1 D (tyL cI cQ) A) (hret : ∀ (pc : Nat) (r : Int32) (u : Unit) (lv : List (Nat × Value)), decode cX1_digitsBehind pc = .ok (.ireturn, 1) → post r → xG p l e (rmL 0 0 0 0) s mi args below meth co D A 1 Q 0 0 pc [.int r] [] lv) (hw : p_X1_digitsBehind p1 post) : xG p l e (rmL 0 0 0 0) s mi args below meth co D A 1 Q 0 0 0 [] [] [(0, .int p1)] := by
  unfold p_X1_digitsBehind at hw
  try dsimp only at hw
  show xG p l e (rmL 0 0 0 0) s mi args below meth co D A 1 Q 0 0 0 [] [] [(0, .int p1)]
  refine g_iload_n C dX1_digitsBehind_0 0 rfl rfl ?_
  rcases Classical.em (p1 = 98) with hs1_0 | hs1_0
  · replace hw := hw.1 hs1_0
    refine g_lsw (pc' := 62) C dX1_digitsBehind_1 (by decide) (by first | (rw [hs1_0]; done) | (rw [hs1_0]; rfl)) (by decide) ?_
    refine g_iconst (v := 1) C dX1_digitsBehind_62 rfl rfl ?_
    exact hret 63 (1 : Int32) () _ dX1_digitsBehind_63 hw
  · replace hw := hw.2 hs1_0
    rcases Classical.em (p1 = 99) with hs1_1 | hs1_1
    · replace hw := hw.1 hs1_1
      refine g_lsw (pc' := 60) C dX1_digitsBehind_1 (by decide) (by first | (rw [hs1_1]; done) | (rw [hs1_1]; rfl)) (by decide) ?_
      refine g_iconst (v := 0) C dX1_digitsBehind_60 rfl rfl ?_
      exact hret 61 (0 : Int32) () _ dX1_digitsBehind_61 hw
    · replace hw := hw.2 hs1_1
      rcases Classical.em (p1 = 100) with hs1_2 | hs1_2
      · replace hw := hw.1 hs1_2
        refine g_lsw (pc' := 64) C dX1_digitsBehind_1 (by decide) (by first | (rw [hs1_2]; done) | (rw [hs1_2]; rfl)) (by decide) ?_
        refine g_iconst (v := 2) C dX1_digitsBehind_64 rfl rfl ?_
        exact hret 65 (2 : Int32) () _ dX1_digitsBehind_65 hw
      · replace hw := hw.2 hs1_2
        rcases Classical.em (p1 = 110) with hs1_3 | hs1_3
        · replace hw := hw.1 hs1_3
          refine g_lsw (pc' := 64) C dX1_digitsBehind_1 (by decide) (by first | (rw [hs1_3]; done) | (rw [hs1_3]; rfl)) (by decide) ?_
          refine g_iconst (v := 2) C dX1_digitsBehind_64 rfl rfl ?_
          exact hret 65 (2 : Int32) () _ dX1_digitsBehind_65 hw
        · replace hw := hw.2 hs1_3
          rcases Classical.em (p1 = 118) with hs1_4 | hs1_4
          · replace hw := hw.1 hs1_4
            refine g_lsw (pc' := 66) C dX1_digitsBehind_1 (by decide) (by first | (rw [hs1_4]; done) | (rw [hs1_4]; rfl)) (by decide) ?_
            refine g_iconst (v := 3) C dX1_digitsBehind_66 rfl rfl ?_
            exact hret 67 (3 : Int32) () _ dX1_digitsBehind_67 hw
          · replace hw := hw.2 hs1_4
            rcases Classical.em (p1 = 120) with hs1_5 | hs1_5
            · replace hw := hw.1 hs1_5
              refine g_lsw (pc' := 64) C dX1_digitsBehind_1 (by decide) (by first | (rw [hs1_5]; done) | (rw [hs1_5]; rfl)) (by decide) ?_
              refine g_iconst (v := 2) C dX1_digitsBehind_64 rfl rfl ?_
              exact hret 65 (2 : Int32) () _ dX1_digitsBehind_65 hw
            · replace hw := hw.2 hs1_5
              refine g_lsw (off := 67) (pc' := 68) C dX1_digitsBehind_1 (by decide) (by show Op.lookupswitch.offset [(98, 61), (99, 59), (100, 63), (110, 63), (118, 65), (120, 63)] 67 _ = 67; rw [lv_osw hs1_0 (by decide), lv_osw hs1_1 (by decide), lv_osw hs1_2 (by decide), lv_osw hs1_3 (by decide), lv_osw hs1_4 (by decide), lv_osw hs1_5 (by decide)]; rfl) (by decide) ?_
              refine g_iconst (v := -1) C dX1_digitsBehind_68 (by decide) rfl ?_
              exact hret 69 (-1 : Int32) () _ dX1_digitsBehind_69 hw
set_option maxRecDepth 100000 in
theorem c_X1_digitsBehind (l : Launch) (D : va_G) (cI cQ : ClassId) (p1 : Int32) (post : Int32 → Prop) (sz : Nat) : Met l yX1_digitsBehind (wsY yX1_digitsBehind cX1_digitsBehind 1 (some .int)) (rmL 0 0 0 0) (xP D (tyL cI cQ) [.int p1] [] sz (p_X1_digitsBehind p1 post)) (xQi D (tyL cI cQ) (fun (r : Int32) (_ : Unit) => post r) (fun (u : Unit) => []) (va_A [].flatten sz)) 0 0 (va_A [].flatten sz) :=
  Met_i pn_X1 (Nat.le_of_ble_eq_true rfl) (fun p e s mi below meth co A Q _ C hret hw => w_X1_digitsBehind p1 C hret hw)
theorem kS_X1_digitsBehind : Cond.static yX1_digitsBehind ∈ gTbl ∧ Cond.initialized yX1_digitsBehind.cls ∈ gTbl ∧ Cond.code yX1_digitsBehind cX1_digitsBehind 1 (some .int) ∈ gTbl ∧ (yX1_digitsBehind.cls ≠ "java/lang/invoke/MethodHandle" ∧ yX1_digitsBehind.cls ≠ "java/lang/invoke/VarHandle" ∧ (parseMethodDescriptor yX1_digitsBehind.desc).map (fun d => d.parameters.length) = some 1) := ⟨sm_X1_digitsBehind, in_X1, cd_X1_digitsBehind, (by decide +kernel)⟩
set_option maxRecDepth 100000 in
def p_X1_firstFault (t : LT) (post : Int32 → Prop) : Prop := (fun (t_ar : F1) (t_sz : Int32) => lpN (fun (K3 : (Int32 × Int32) → Prop) (z3 : Int32 × Int32) => (fun (x1 : Int32) (x2 : Int32) => ((t_sz ≤ x2 → ((t_sz ≤ 0 → post t_sz) ∧ (¬ t_sz ≤ 0 → ((x1 = (-1 : Int32) → post (-1 : Int32)) ∧ (¬ x1 = (-1 : Int32) → post t_sz))))) ∧ (¬ t_sz ≤ x2 → (vp_in x2 96 ∧ nm ((t_ar (x2).toNatClampNeg) : Int32) (fun (v4 : Int32) => ((x1 = (-1 : Int32) → p_X1_digitsBehind v4 (fun (r6 : Int32) => (((0 : Int32) ≤ r6 → K3 (r6, (x2 + 1))) ∧ (¬ (0 : Int32) ≤ r6 → post x2)))) ∧ (¬ x1 = (-1 : Int32) → ((x1 ≤ 0 → ((v4 = (59 : Int32) → K3 ((-1 : Int32), (x2 + 1))) ∧ (¬ v4 = (59 : Int32) → post x2))) ∧ (¬ x1 ≤ 0 → p_X1_isDigit v4 (fun (r5 : Int32) => ((r5 = 0 → post x2) ∧ (¬ r5 = 0 → K3 ((x1 + (-1)), (x2 + 1)))))))))))))) z3.1 z3.2) 1000 ((-1 : Int32), (0 : Int32))) t.1 t.2
set_option maxHeartbeats 4000000 in
set_option maxRecDepth 100000 in
theorem w_X1_firstFault {p : Program} {l : Launch} {e : Env} {s : State} {mi : MethodId} {args : Array Value} {below : List Frame} {meth : Method} {co : Code} {D : va_G} {cI cQ : ClassId} {A : Nat → Prop} {Q : State → Prop} (a : Nat → Nat) (t : LT) {post : Int32 → Prop} (C : xC p s mi args co cX1_firstFault RX1 4 D (tyL cI cQ) A) (hret : ∀ (pc : Nat) (r : Int32) (u : Unit) (lv : List (Nat × Value)), decode cX1_firstFault pc = .ok (.ireturn, 1) → post r → xG p l e (rmL 1 0 0 20) s mi args below meth co D A 4 Q 0 0 pc [.int r] [gLet cI a t] lv) (hw : p_X1_firstFault t post) : xG p l e (rmL 1 0 0 20) s mi args below meth co D A 4 Q 0 0 0 [] [gLet cI a t] [(0, .ref (a 0))] := by
  unfold p_X1_firstFault at hw
  obtain ⟨t_ar, t_sz⟩ := t
  try dsimp only at hw
  show xG p l e (rmL 1 0 0 20) s mi args below meth co D A 4 Q 0 0 0 [] [gLet cI a (t_ar, t_sz)] [(0, .ref (a 0))]
  refine g_iconst (v := -1) C dX1_firstFault_0 (by decide) rfl ?_
  refine g_istore_n (v := (-1 : Int32)) C dX1_firstFault_1 rfl (Nat.le_of_ble_eq_true rfl) (lv' := [(1, .int (-1 : Int32)), (0, .ref (a 0))]) rfl rfl ?_
  refine g_iconst (v := 0) C dX1_firstFault_2 rfl rfl ?_
  refine g_istore_n (v := (0 : Int32)) C dX1_firstFault_3 rfl (Nat.le_of_ble_eq_true rfl) (lv' := [(2, .int (0 : Int32)), (1, .int (-1 : Int32)), (0, .ref (a 0))]) rfl rfl ?_
  refine g_lv [2, 1, 0] rfl ?_
  refine lpN_ind (G := (fun (z3 : Int32 × Int32) => (fun (x1 : Int32) (x2 : Int32) => xG p l e (rmL 1 0 0 20) s mi args below meth co D A 4 Q 0 0 4 [] [gLet cI a (t_ar, t_sz)] [(0, .ref (a 0)), (1, .int x1), (2, .int x2)]) z3.1 z3.2)) ?_ 1000 ((-1 : Int32), (0 : Int32)) hw
  rintro K3 ⟨x1, x2⟩ ih3 hw
  show xG p l e (rmL 1 0 0 20) s mi args below meth co D A 4 Q 0 0 4 [] [gLet cI a (t_ar, t_sz)] [(0, .ref (a 0)), (1, .int x1), (2, .int x2)]
  refine g_iload_n C dX1_firstFault_4 2 rfl rfl ?_
  refine g_aload_n C dX1_firstFault_5 0 rfl rfl ?_
  refine g_get (v := .int t_sz) (ci := 0) C dX1_firstFault_6 inw_X1 rfl 0 0 1 rfl rfl (Nat.le_of_ble_eq_true rfl) rfl fl_X1_15 rfl rfl ?_
  refine g_icmp_ge (tgt := 70) C dX1_firstFault_9 (by decide) rfl hw (fun _ hw => ?_) (fun _ hw => ?_)
  · refine g_aload_n C dX1_firstFault_70 0 rfl rfl ?_
    refine g_get (v := .int t_sz) (ci := 0) C dX1_firstFault_71 inw_X1 rfl 0 0 1 rfl rfl (Nat.le_of_ble_eq_true rfl) rfl fl_X1_15 rfl rfl ?_
    refine g_if_le (tgt := 86) C dX1_firstFault_74 (by decide) rfl hw (fun _ hw => ?_) (fun _ hw => ?_)
    · refine g_aload_n C dX1_firstFault_86 0 rfl rfl ?_
      refine g_get (v := .int t_sz) (ci := 0) C dX1_firstFault_87 inw_X1 rfl 0 0 1 rfl rfl (Nat.le_of_ble_eq_true rfl) rfl fl_X1_15 rfl rfl ?_
      exact hret 90 t_sz () _ dX1_firstFault_90 hw
    · refine g_iload_n C dX1_firstFault_77 1 rfl rfl ?_
      refine g_iconst (v := -1) C dX1_firstFault_78 (by decide) rfl ?_
      refine g_icmp_ne (tgt := 86) C dX1_firstFault_79 (by decide) rfl hw (fun _ hw => ?_) (fun _ hw => ?_)
      · refine g_aload_n C dX1_firstFault_86 0 rfl rfl ?_
        refine g_get (v := .int t_sz) (ci := 0) C dX1_firstFault_87 inw_X1 rfl 0 0 1 rfl rfl (Nat.le_of_ble_eq_true rfl) rfl fl_X1_15 rfl rfl ?_
        exact hret 90 t_sz () _ dX1_firstFault_90 hw
      · refine g_iconst (v := -1) C dX1_firstFault_82 (by decide) rfl ?_
        refine g_goto (pc' := 90) C dX1_firstFault_83 (by decide) rfl ?_
        exact hret 90 (-1 : Int32) () _ dX1_firstFault_90 hw
  · refine g_aload_n C dX1_firstFault_12 0 rfl rfl ?_
    refine g_get (v := .ref (a 1)) (ci := 0) C dX1_firstFault_13 inw_X1 rfl 0 0 0 rfl rfl (Nat.le_of_ble_eq_true rfl) rfl fl_X1_9 rfl rfl ?_
    refine g_iload_n C dX1_firstFault_16 2 rfl rfl ?_
    have hi17 := hw.1
    replace hw := hw.2
    refine g_iald (f := t_ar) C dX1_firstFault_17 0 1 rfl rfl 0 rfl hi17 rfl ?_
    refine nm_el hw (fun v4 ev4 hw => ?_)
    refine g_istore_n (v := v4) C dX1_firstFault_18 ev4.symm (Nat.le_of_ble_eq_true rfl) (lv' := [(3, .int v4), (0, .ref (a 0)), (1, .int x1), (2, .int x2)]) rfl rfl ?_
    refine g_iload_n C dX1_firstFault_19 2 rfl rfl ?_
    refine g_iconst (v := -1) C dX1_firstFault_20 (by decide) rfl ?_
    refine g_icmp_ne (tgt := 35) C dX1_firstFault_21 (by decide) rfl hw (fun _ hw => ?_) (fun _ hw => ?_)
    · refine g_iload_n C dX1_firstFault_35 2 rfl rfl ?_
      refine g_if_le (tgt := 54) C dX1_firstFault_36 (by decide) rfl hw (fun _ hw => ?_) (fun _ hw => ?_)
      · refine g_iload_n C dX1_firstFault_54 0 rfl rfl ?_
        refine g_bipush (v := 59) C dX1_firstFault_55 (by decide) rfl ?_
        refine g_icmp_eq (tgt := 62) C dX1_firstFault_57 (by decide) rfl hw (fun _ hw => ?_) (fun _ hw => ?_)
        · refine g_iconst (v := -1) C dX1_firstFault_62 (by decide) rfl ?_
          refine g_istore_n (v := (-1 : Int32)) C dX1_firstFault_63 rfl (Nat.le_of_ble_eq_true rfl) (lv' := [(1, .int (-1 : Int32)), (3, .int v4), (0, .ref (a 0)), (2, .int x2)]) rfl rfl ?_
          refine g_iinc (v := (x2 + 1)) (j := 3) C dX1_firstFault_64 rfl rfl (Nat.le_of_ble_eq_true rfl) (lv' := [(2, .int (x2 + 1)), (1, .int (-1 : Int32)), (3, .int v4), (0, .ref (a 0))]) rfl rfl ?_
          refine g_goto (pc' := 4) C dX1_firstFault_67 (by decide) rfl ?_
          refine g_lv [3, 1, 0] rfl ?_
          exact ih3 ((-1 : Int32), (x2 + 1)) hw
        · refine g_iload_n C dX1_firstFault_60 3 rfl rfl ?_
          exact hret 61 x2 () _ dX1_firstFault_61 hw
      · refine g_iload_n C dX1_firstFault_39 0 rfl rfl ?_
        refine g_callSi (As := [.int v4]) (gr := [gLet cI a (t_ar, t_sz)]) C (c_X1_isDigit l D cI cQ   v4 _) dX1_firstFault_40 ⟨ml_X1_23, kS_X1_isDigit⟩ ⟨Nat.le_of_ble_eq_true rfl, Nat.le_of_ble_eq_true rfl⟩ ⟨Nat.le_refl _, Nat.le_refl _⟩ [0] 1 rfl pma_0 rfl rfl rfl (Nat.le_of_ble_eq_true rfl) rfl (fun (u : Unit) => [gLet cI a (t_ar, t_sz)]) [0] 1 (fun _ => rfl) pma_0 (fun _ => rfl) hw (fun r5 u5 hw => ?_)
        refine g_if_ne (tgt := 48) C dX1_firstFault_43 (by decide) rfl hw (fun _ hw => ?_) (fun _ hw => ?_)
        · refine g_iinc (v := (x1 + (-1))) (j := 2) C dX1_firstFault_48 rfl (congrArg _ (by decide)) (Nat.le_of_ble_eq_true rfl) (lv' := [(1, .int (x1 + (-1))), (3, .int v4), (0, .ref (a 0)), (2, .int x2)]) rfl rfl ?_
          refine g_goto (pc' := 64) C dX1_firstFault_51 (by decide) rfl ?_
          refine g_iinc (v := (x2 + 1)) (j := 3) C dX1_firstFault_64 rfl rfl (Nat.le_of_ble_eq_true rfl) (lv' := [(2, .int (x2 + 1)), (1, .int (x1 + (-1))), (3, .int v4), (0, .ref (a 0))]) rfl rfl ?_
          refine g_goto (pc' := 4) C dX1_firstFault_67 (by decide) rfl ?_
          refine g_lv [3, 1, 0] rfl ?_
          exact ih3 ((x1 + (-1)), (x2 + 1)) hw
        · refine g_iload_n C dX1_firstFault_46 3 rfl rfl ?_
          exact hret 47 x2 () _ dX1_firstFault_47 hw
    · refine g_iload_n C dX1_firstFault_24 0 rfl rfl ?_
      refine g_callSi (As := [.int v4]) (gr := [gLet cI a (t_ar, t_sz)]) C (c_X1_digitsBehind l D cI cQ   v4 _) dX1_firstFault_25 ⟨ml_X1_27, kS_X1_digitsBehind⟩ ⟨Nat.le_of_ble_eq_true rfl, Nat.le_of_ble_eq_true rfl⟩ ⟨Nat.le_refl _, Nat.le_refl _⟩ [0] 1 rfl pma_0 rfl rfl rfl (Nat.le_of_ble_eq_true rfl) rfl (fun (u : Unit) => [gLet cI a (t_ar, t_sz)]) [0] 1 (fun _ => rfl) pma_0 (fun _ => rfl) hw (fun r6 u6 hw => ?_)
      refine g_istore_n (v := r6) C dX1_firstFault_28 rfl (Nat.le_of_ble_eq_true rfl) (lv' := [(1, .int r6), (3, .int v4), (0, .ref (a 0)), (2, .int x2)]) rfl rfl ?_
      refine g_iload_n C dX1_firstFault_29 0 rfl rfl ?_
      refine g_if_ge (tgt := 64) C dX1_firstFault_30 (by decide) rfl hw (fun _ hw => ?_) (fun _ hw => ?_)
      · refine g_iinc (v := (x2 + 1)) (j := 3) C dX1_firstFault_64 rfl rfl (Nat.le_of_ble_eq_true rfl) (lv' := [(2, .int (x2 + 1)), (1, .int r6), (3, .int v4), (0, .ref (a 0))]) rfl rfl ?_
        refine g_goto (pc' := 4) C dX1_firstFault_67 (by decide) rfl ?_
        refine g_lv [3, 1, 0] rfl ?_
        exact ih3 (r6, (x2 + 1)) hw
      · refine g_iload_n C dX1_firstFault_33 3 rfl rfl ?_
        exact hret 34 x2 () _ dX1_firstFault_34 hw
set_option maxRecDepth 100000 in
theorem c_X1_firstFault (l : Launch) (D : va_G) (cI cQ : ClassId) (a : Nat → Nat) (t : LT) (post : Int32 → Prop) (sz : Nat) : Met l yX1_firstFault (wsY yX1_firstFault cX1_firstFault 4 (some .int)) (rmL 1 0 0 20) (xP D (tyL cI cQ) [.ref (a 0)] [gLet cI a t] sz (p_X1_firstFault t post)) (xQi D (tyL cI cQ) (fun (r : Int32) (_ : Unit) => post r) (fun (u : Unit) => [gLet cI a t]) (va_A [gLet cI a t].flatten sz)) 0 0 (va_A [gLet cI a t].flatten sz) :=
  Met_i pn_X1 (Nat.le_of_ble_eq_true rfl) (fun p e s mi below meth co A Q _ C hret hw => w_X1_firstFault a t C hret hw)
theorem kV_X1_firstFault : Cond.instanceMethod yX1_firstFault ∈ gTbl ∧ Cond.selects yX1_firstFault.cls yX1_firstFault yX1_firstFault ∈ gTbl ∧ Cond.initialized yX1_firstFault.cls ∈ gTbl ∧ Cond.code yX1_firstFault cX1_firstFault 4 (some .int) ∈ gTbl ∧ (yX1_firstFault.cls ≠ "java/lang/invoke/MethodHandle" ∧ yX1_firstFault.cls ≠ "java/lang/invoke/VarHandle" ∧ (parseMethodDescriptor yX1_firstFault.desc).map (fun d => d.parameters.length) = some 0) := ⟨im_X1_firstFault, sl_X1_firstFault, in_X1, cd_X1_firstFault, (by decide +kernel)⟩
set_option maxRecDepth 100000 in
def p_X2_size (t : LT) (post : Int32 → Prop) : Prop := (fun (t_ar : F1) (t_sz : Int32) => post t_sz) t.1 t.2
set_option maxHeartbeats 4000000 in
set_option maxRecDepth 100000 in
theorem w_X2_size {p : Program} {l : Launch} {e : Env} {s : State} {mi : MethodId} {args : Array Value} {below : List Frame} {meth : Method} {co : Code} {D : va_G} {cI cQ : ClassId} {A : Nat → Prop} {Q : State → Prop} (a : Nat → Nat) (t : LT) {post : Int32 → Prop} (C : xC p s mi args co cX2_size RX2 1 D (tyL cI cQ) A) (hret : ∀ (pc : Nat) (r : Int32) (u : Unit) (lv : List (Nat × Value)), decode cX2_size pc = .ok (.ireturn, 1) → post r → xG p l e (rmL 0 0 0 0) s mi args below meth co D A 1 Q 0 0 pc [.int r] [gNum cI a t] lv) (hw : p_X2_size t post) : xG p l e (rmL 0 0 0 0) s mi args below meth co D A 1 Q 0 0 0 [] [gNum cI a t] [(0, .ref (a 0))] := by
  unfold p_X2_size at hw
  obtain ⟨t_ar, t_sz⟩ := t
  try dsimp only at hw
  show xG p l e (rmL 0 0 0 0) s mi args below meth co D A 1 Q 0 0 0 [] [gNum cI a (t_ar, t_sz)] [(0, .ref (a 0))]
  refine g_aload_n C dX2_size_0 0 rfl rfl ?_
  refine g_get (v := .int t_sz) (ci := 1) C dX2_size_1 inw_X2 rfl 0 0 1 rfl rfl (Nat.le_of_ble_eq_true rfl) rfl fl_X2_15 rfl rfl ?_
  exact hret 4 t_sz () _ dX2_size_4 hw
set_option maxRecDepth 100000 in
theorem c_X2_size (l : Launch) (D : va_G) (cI cQ : ClassId) (a : Nat → Nat) (t : LT) (post : Int32 → Prop) (sz : Nat) : Met l yX2_size (wsY yX2_size cX2_size 1 (some .int)) (rmL 0 0 0 0) (xP D (tyL cI cQ) [.ref (a 0)] [gNum cI a t] sz (p_X2_size t post)) (xQi D (tyL cI cQ) (fun (r : Int32) (_ : Unit) => post r) (fun (u : Unit) => [gNum cI a t]) (va_A [gNum cI a t].flatten sz)) 0 0 (va_A [gNum cI a t].flatten sz) :=
  Met_i pn_X2 (Nat.le_of_ble_eq_true rfl) (fun p e s mi below meth co A Q _ C hret hw => w_X2_size a t C hret hw)
theorem kV_X2_size : Cond.instanceMethod yX2_size ∈ gTbl ∧ Cond.selects yX2_size.cls yX2_size yX2_size ∈ gTbl ∧ Cond.initialized yX2_size.cls ∈ gTbl ∧ Cond.code yX2_size cX2_size 1 (some .int) ∈ gTbl ∧ (yX2_size.cls ≠ "java/lang/invoke/MethodHandle" ∧ yX2_size.cls ≠ "java/lang/invoke/VarHandle" ∧ (parseMethodDescriptor yX2_size.desc).map (fun d => d.parameters.length) = some 0) := ⟨im_X2_size, sl_X2_size, in_X2, cd_X2_size, (by decide +kernel)⟩
set_option maxRecDepth 100000 in
def p_X2_drop (t : LT) (post : LT → Prop) : Prop := (fun (t_ar : F1) (t_sz : Int32) => post (t_ar, (0 : Int32))) t.1 t.2
set_option maxHeartbeats 4000000 in
set_option maxRecDepth 100000 in
theorem w_X2_drop {p : Program} {l : Launch} {e : Env} {s : State} {mi : MethodId} {args : Array Value} {below : List Frame} {meth : Method} {co : Code} {D : va_G} {cI cQ : ClassId} {A : Nat → Prop} {Q : State → Prop} (a : Nat → Nat) (t : LT) {post : LT → Prop} (C : xC p s mi args co cX2_drop RX2 1 D (tyL cI cQ) A) (hret : ∀ (pc : Nat) (u : LT) (lv : List (Nat × Value)), decode cX2_drop pc = .ok (.return_, 1) → post u → xG p l e (rmL 0 0 0 0) s mi args below meth co D A 1 Q 0 0 pc [] [gNum cI a u] lv) (hw : p_X2_drop t post) : xG p l e (rmL 0 0 0 0) s mi args below meth co D A 1 Q 0 0 0 [] [gNum cI a t] [(0, .ref (a 0))] := by
  unfold p_X2_drop at hw
  obtain ⟨t_ar, t_sz⟩ := t
  try dsimp only at hw
  show xG p l e (rmL 0 0 0 0) s mi args below meth co D A 1 Q 0 0 0 [] [gNum cI a (t_ar, t_sz)] [(0, .ref (a 0))]
  refine g_aload_n C dX2_drop_0 0 rfl rfl ?_
  refine g_iconst (v := 0) C dX2_drop_1 rfl rfl ?_
  refine g_put (v' := .int (0 : Int32)) (ty := .int) (ci := 1) (gs' := [gNum cI a (t_ar, (0 : Int32))]) C dX2_drop_2 inw_X2 tyX2 tyX2_ok nmX2 rfl 0 0 1 rfl rfl (Nat.le_of_ble_eq_true rfl) rfl fl_X2_15 rfl fd_I rfl rfl rfl (Nat.le_of_ble_eq_true rfl) rfl rfl ?_
  exact hret 5 (t_ar, (0 : Int32)) _ dX2_drop_5 hw
set_option maxRecDepth 100000 in
theorem c_X2_drop (l : Launch) (D : va_G) (cI cQ : ClassId) (a : Nat → Nat) (t : LT) (post : LT → Prop) (sz : Nat) : Met l yX2_drop (wsY yX2_drop cX2_drop 1 none) (rmL 0 0 0 0) (xP D (tyL cI cQ) [.ref (a 0)] [gNum cI a t] sz (p_X2_drop t post)) (xQv D (tyL cI cQ) post (fun (u : LT) => [gNum cI a u]) (va_A [gNum cI a t].flatten sz)) 0 0 (va_A [gNum cI a t].flatten sz) :=
  Met_v pn_X2 (Nat.le_of_ble_eq_true rfl) (fun p e s mi below meth co A Q _ C hret hw => w_X2_drop a t C hret hw)
theorem kV_X2_drop : Cond.instanceMethod yX2_drop ∈ gTbl ∧ Cond.selects yX2_drop.cls yX2_drop yX2_drop ∈ gTbl ∧ Cond.initialized yX2_drop.cls ∈ gTbl ∧ Cond.code yX2_drop cX2_drop 1 none ∈ gTbl ∧ (yX2_drop.cls ≠ "java/lang/invoke/MethodHandle" ∧ yX2_drop.cls ≠ "java/lang/invoke/VarHandle" ∧ (parseMethodDescriptor yX2_drop.desc).map (fun d => d.parameters.length) = some 0) := ⟨im_X2_drop, sl_X2_drop, in_X2, cd_X2_drop, (by decide +kernel)⟩
set_option maxRecDepth 100000 in
def p_X2_add (t : LT) (p1 : Int32) (post : Int32 → LT → Prop) : Prop := (fun (t_ar : F1) (t_sz : Int32) => ((t_sz < (12 : Int32) → (vp_in t_sz 12 ∧ nm (upd t_ar (t_sz).toNatClampNeg p1) (fun (t_ar1 : F1) => nm ((t_sz + (1 : Int32)) : Int32) (fun (v2 : Int32) => post (1 : Int32) (t_ar1, v2))))) ∧ (¬ t_sz < (12 : Int32) → post (0 : Int32) (t_ar, t_sz)))) t.1 t.2
set_option maxHeartbeats 4000000 in
set_option maxRecDepth 100000 in
theorem w_X2_add {p : Program} {l : Launch} {e : Env} {s : State} {mi : MethodId} {args : Array Value} {below : List Frame} {meth : Method} {co : Code} {D : va_G} {cI cQ : ClassId} {A : Nat → Prop} {Q : State → Prop} (a : Nat → Nat) (t : LT) (p1 : Int32) {post : Int32 → LT → Prop} (C : xC p s mi args co cX2_add RX2 2 D (tyL cI cQ) A) (hret : ∀ (pc : Nat) (r : Int32) (u : LT) (lv : List (Nat × Value)), decode cX2_add pc = .ok (.ireturn, 1) → bz r → post r u → xG p l e (rmL 0 0 0 0) s mi args below meth co D A 2 Q 0 0 pc [.int r] [gNum cI a u] lv) (hw : p_X2_add t p1 post) : xG p l e (rmL 0 0 0 0) s mi args below meth co D A 2 Q 0 0 0 [] [gNum cI a t] [(0, .ref (a 0)), (1, .int p1)] := by
  unfold p_X2_add at hw
  obtain ⟨t_ar, t_sz⟩ := t
  try dsimp only at hw
  show xG p l e (rmL 0 0 0 0) s mi args below meth co D A 2 Q 0 0 0 [] [gNum cI a (t_ar, t_sz)] [(0, .ref (a 0)), (1, .int p1)]
  refine g_aload_n C dX2_add_0 0 rfl rfl ?_
  refine g_get (v := .int t_sz) (ci := 1) C dX2_add_1 inw_X2 rfl 0 0 1 rfl rfl (Nat.le_of_ble_eq_true rfl) rfl fl_X2_15 rfl rfl ?_
  refine g_bipush (v := 12) C dX2_add_4 (by decide) rfl ?_
  refine g_icmp_lt (tgt := 11) C dX2_add_6 (by decide) rfl hw (fun _ hw => ?_) (fun _ hw => ?_)
  · refine g_aload_n C dX2_add_11 0 rfl rfl ?_
    refine g_get (v := .ref (a 1)) (ci := 1) C dX2_add_12 inw_X2 rfl 0 0 0 rfl rfl (Nat.le_of_ble_eq_true rfl) rfl fl_X2_9 rfl rfl ?_
    refine g_aload_n C dX2_add_15 0 rfl rfl ?_
    refine g_get (v := .int t_sz) (ci := 1) C dX2_add_16 inw_X2 rfl 0 0 1 rfl rfl (Nat.le_of_ble_eq_true rfl) rfl fl_X2_15 rfl rfl ?_
    refine g_iload_n C dX2_add_19 1 rfl rfl ?_
    have hi20 := hw.1
    refine nm_el hw.2 (fun t_ar1 et_ar1 hw => ?_)
    refine g_iast (f := t_ar) (f' := t_ar1) (gs' := [gNum cI a (t_ar1, t_sz)]) C dX2_add_20 0 1 rfl rfl 0 rfl hi20 et_ar1.symm rfl rfl ?_
    refine g_aload_n C dX2_add_21 0 rfl rfl ?_
    refine g_dup C dX2_add_22 rfl rfl ?_
    refine g_get (v := .int t_sz) (ci := 1) C dX2_add_23 inw_X2 rfl 0 0 1 rfl rfl (Nat.le_of_ble_eq_true rfl) rfl fl_X2_15 rfl rfl ?_
    refine g_iconst (v := 1) C dX2_add_26 rfl rfl ?_
    refine g_iadd C dX2_add_27 rfl ?_
    refine nm_el hw (fun v2 ev2 hw => ?_)
    refine g_put (v' := .int v2) (ty := .int) (ci := 1) (gs' := [gNum cI a (t_ar1, v2)]) C dX2_add_28 inw_X2 tyX2 tyX2_ok nmX2 rfl 0 0 1 rfl rfl (Nat.le_of_ble_eq_true rfl) rfl fl_X2_15 rfl fd_I (congrArg Value.int ev2.symm) rfl rfl (Nat.le_of_ble_eq_true rfl) rfl rfl ?_
    refine g_iconst (v := 1) C dX2_add_31 rfl rfl ?_
    exact hret 32 (1 : Int32) (t_ar1, v2) _ dX2_add_32 ⟨rfl, rfl⟩ hw
  · refine g_iconst (v := 0) C dX2_add_9 rfl rfl ?_
    exact hret 10 (0 : Int32) (t_ar, t_sz) _ dX2_add_10 ⟨rfl, rfl⟩ hw
set_option maxRecDepth 100000 in
theorem c_X2_add (l : Launch) (D : va_G) (cI cQ : ClassId) (a : Nat → Nat) (t : LT) (p1 : Int32) (post : Int32 → LT → Prop) (sz : Nat) : Met l yX2_add (wsY yX2_add cX2_add 2 (some .boolean)) (rmL 0 0 0 0) (xP D (tyL cI cQ) [.ref (a 0), .int p1] [gNum cI a t] sz (p_X2_add t p1 post)) (xQi D (tyL cI cQ) post (fun (u : LT) => [gNum cI a u]) (va_A [gNum cI a t].flatten sz)) 0 0 (va_A [gNum cI a t].flatten sz) :=
  Met_z pn_X2 (Nat.le_of_ble_eq_true rfl) (fun p e s mi below meth co A Q _ C hret hw => w_X2_add a t p1 C hret hw)
theorem kV_X2_add : Cond.instanceMethod yX2_add ∈ gTbl ∧ Cond.selects yX2_add.cls yX2_add yX2_add ∈ gTbl ∧ Cond.initialized yX2_add.cls ∈ gTbl ∧ Cond.code yX2_add cX2_add 2 (some .boolean) ∈ gTbl ∧ (yX2_add.cls ≠ "java/lang/invoke/MethodHandle" ∧ yX2_add.cls ≠ "java/lang/invoke/VarHandle" ∧ (parseMethodDescriptor yX2_add.desc).map (fun d => d.parameters.length) = some 1) := ⟨im_X2_add, sl_X2_add, in_X2, cd_X2_add, (by decide +kernel)⟩
set_option maxRecDepth 100000 in
def p_X2_at (t : LT) (p1 : Int32) (post : Int32 → Prop) : Prop := (fun (t_ar : F1) (t_sz : Int32) => ((p1 < 0 → post (-1 : Int32)) ∧ (¬ p1 < 0 → ((t_sz ≤ p1 → post (-1 : Int32)) ∧ (¬ t_sz ≤ p1 → (vp_in p1 12 ∧ post (t_ar (p1).toNatClampNeg))))))) t.1 t.2
set_option maxHeartbeats 4000000 in
set_option maxRecDepth 100000 in
theorem w_X2_at {p : Program} {l : Launch} {e : Env} {s : State} {mi : MethodId} {args : Array Value} {below : List Frame} {meth : Method} {co : Code} {D : va_G} {cI cQ : ClassId} {A : Nat → Prop} {Q : State → Prop} (a : Nat → Nat) (t : LT) (p1 : Int32) {post : Int32 → Prop} (C : xC p s mi args co cX2_at RX2 2 D (tyL cI cQ) A) (hret : ∀ (pc : Nat) (r : Int32) (u : Unit) (lv : List (Nat × Value)), decode cX2_at pc = .ok (.ireturn, 1) → post r → xG p l e (rmL 0 0 0 0) s mi args below meth co D A 2 Q 0 0 pc [.int r] [gNum cI a t] lv) (hw : p_X2_at t p1 post) : xG p l e (rmL 0 0 0 0) s mi args below meth co D A 2 Q 0 0 0 [] [gNum cI a t] [(0, .ref (a 0)), (1, .int p1)] := by
  unfold p_X2_at at hw
  obtain ⟨t_ar, t_sz⟩ := t
  try dsimp only at hw
  show xG p l e (rmL 0 0 0 0) s mi args below meth co D A 2 Q 0 0 0 [] [gNum cI a (t_ar, t_sz)] [(0, .ref (a 0)), (1, .int p1)]
  refine g_iload_n C dX2_at_0 1 rfl rfl ?_
  refine g_if_lt (tgt := 21) C dX2_at_1 (by decide) rfl hw (fun _ hw => ?_) (fun _ hw => ?_)
  · refine g_iconst (v := -1) C dX2_at_21 (by decide) rfl ?_
    exact hret 22 (-1 : Int32) () _ dX2_at_22 hw
  · refine g_iload_n C dX2_at_4 1 rfl rfl ?_
    refine g_aload_n C dX2_at_5 0 rfl rfl ?_
    refine g_get (v := .int t_sz) (ci := 1) C dX2_at_6 inw_X2 rfl 0 0 1 rfl rfl (Nat.le_of_ble_eq_true rfl) rfl fl_X2_15 rfl rfl ?_
    refine g_icmp_ge (tgt := 21) C dX2_at_9 (by decide) rfl hw (fun _ hw => ?_) (fun _ hw => ?_)
    · refine g_iconst (v := -1) C dX2_at_21 (by decide) rfl ?_
      exact hret 22 (-1 : Int32) () _ dX2_at_22 hw
    · refine g_aload_n C dX2_at_12 0 rfl rfl ?_
      refine g_get (v := .ref (a 1)) (ci := 1) C dX2_at_13 inw_X2 rfl 0 0 0 rfl rfl (Nat.le_of_ble_eq_true rfl) rfl fl_X2_9 rfl rfl ?_
      refine g_iload_n C dX2_at_16 1 rfl rfl ?_
      have hi17 := hw.1
      replace hw := hw.2
      refine g_iald (f := t_ar) C dX2_at_17 0 1 rfl rfl 0 rfl hi17 rfl ?_
      refine g_goto (pc' := 22) C dX2_at_18 (by decide) rfl ?_
      exact hret 22 (t_ar (p1).toNatClampNeg) () _ dX2_at_22 hw
set_option maxRecDepth 100000 in
theorem c_X2_at (l : Launch) (D : va_G) (cI cQ : ClassId) (a : Nat → Nat) (t : LT) (p1 : Int32) (post : Int32 → Prop) (sz : Nat) : Met l yX2_at (wsY yX2_at cX2_at 2 (some .int)) (rmL 0 0 0 0) (xP D (tyL cI cQ) [.ref (a 0), .int p1] [gNum cI a t] sz (p_X2_at t p1 post)) (xQi D (tyL cI cQ) (fun (r : Int32) (_ : Unit) => post r) (fun (u : Unit) => [gNum cI a t]) (va_A [gNum cI a t].flatten sz)) 0 0 (va_A [gNum cI a t].flatten sz) :=
  Met_i pn_X2 (Nat.le_of_ble_eq_true rfl) (fun p e s mi below meth co A Q _ C hret hw => w_X2_at a t p1 C hret hw)
theorem kV_X2_at : Cond.instanceMethod yX2_at ∈ gTbl ∧ Cond.selects yX2_at.cls yX2_at yX2_at ∈ gTbl ∧ Cond.initialized yX2_at.cls ∈ gTbl ∧ Cond.code yX2_at cX2_at 2 (some .int) ∈ gTbl ∧ (yX2_at.cls ≠ "java/lang/invoke/MethodHandle" ∧ yX2_at.cls ≠ "java/lang/invoke/VarHandle" ∧ (parseMethodDescriptor yX2_at.desc).map (fun d => d.parameters.length) = some 1) := ⟨im_X2_at, sl_X2_at, in_X2, cd_X2_at, (by decide +kernel)⟩
set_option maxRecDepth 100000 in
def p_X3_become (t : PT) (to : PT) (post : PT → Prop) : Prop := (fun (t_kd : F1) (t_fg : F1) (t_hd : F1) (t_nx : F1) (t_bu : Int32) (t_st : Int32) (t_we : Int32) (t_cu : Int32) (t_ho : Int32) (t_dr : Int32) (to_kd : F1) (to_fg : F1) (to_hd : F1) (to_nx : F1) (to_bu : Int32) (to_st : Int32) (to_we : Int32) (to_cu : Int32) (to_ho : Int32) (to_dr : Int32) => nm (va_cpy to_kd t_kd ((0 : Int32)).toNatClampNeg ((0 : Int32)).toNatClampNeg ((9 : Int32)).toNatClampNeg) (fun (t_kd1 : F1) => nm (va_cpy to_fg t_fg ((0 : Int32)).toNatClampNeg ((0 : Int32)).toNatClampNeg ((9 : Int32)).toNatClampNeg) (fun (t_fg2 : F1) => nm (va_cpy to_hd t_hd ((0 : Int32)).toNatClampNeg ((0 : Int32)).toNatClampNeg ((9 : Int32)).toNatClampNeg) (fun (t_hd3 : F1) => nm (va_cpy to_nx t_nx ((0 : Int32)).toNatClampNeg ((0 : Int32)).toNatClampNeg ((9 : Int32)).toNatClampNeg) (fun (t_nx4 : F1) => post (t_kd1, t_fg2, t_hd3, t_nx4, to_bu, to_st, to_we, to_cu, to_ho, t_dr)))))) t.1 t.2.1 t.2.2.1 t.2.2.2.1 t.2.2.2.2.1 t.2.2.2.2.2.1 t.2.2.2.2.2.2.1 t.2.2.2.2.2.2.2.1 t.2.2.2.2.2.2.2.2.1 t.2.2.2.2.2.2.2.2.2 to.1 to.2.1 to.2.2.1 to.2.2.2.1 to.2.2.2.2.1 to.2.2.2.2.2.1 to.2.2.2.2.2.2.1 to.2.2.2.2.2.2.2.1 to.2.2.2.2.2.2.2.2.1 to.2.2.2.2.2.2.2.2.2
set_option maxHeartbeats 4000000 in
set_option maxRecDepth 100000 in
theorem w_X3_become {p : Program} {l : Launch} {e : Env} {s : State} {mi : MethodId} {args : Array Value} {below : List Frame} {meth : Method} {co : Code} {D : va_G} {cI cQ : ClassId} {A : Nat → Prop} {Q : State → Prop} (a : Nat → Nat) (ao : Nat → Nat) (t : PT) (to : PT) {post : PT → Prop} (C : xC p s mi args co cX3_become RX3 2 D (tyL cI cQ) A) (hret : ∀ (pc : Nat) (u : PT) (lv : List (Nat × Value)), decode cX3_become pc = .ok (.return_, 1) → post u → xG p l e (rmL 1 0 0 40) s mi args below meth co D A 2 Q 0 0 pc [] [gPar cI a u, gPar cI ao to] lv) (hw : p_X3_become t to post) : xG p l e (rmL 1 0 0 40) s mi args below meth co D A 2 Q 0 0 0 [] [gPar cI a t, gPar cI ao to] [(0, .ref (a 0)), (1, .ref (ao 0))] := by
  unfold p_X3_become at hw
  obtain ⟨t_kd, t_fg, t_hd, t_nx, t_bu, t_st, t_we, t_cu, t_ho, t_dr⟩ := t
  obtain ⟨to_kd, to_fg, to_hd, to_nx, to_bu, to_st, to_we, to_cu, to_ho, to_dr⟩ := to
  try dsimp only at hw
  show xG p l e (rmL 1 0 0 40) s mi args below meth co D A 2 Q 0 0 0 [] [gPar cI a (t_kd, t_fg, t_hd, t_nx, t_bu, t_st, t_we, t_cu, t_ho, t_dr), gPar cI ao (to_kd, to_fg, to_hd, to_nx, to_bu, to_st, to_we, to_cu, to_ho, to_dr)] [(0, .ref (a 0)), (1, .ref (ao 0))]
  refine g_aload_n C dX3_become_0 1 rfl rfl ?_
  refine g_ifnonnull (pc' := 5) C dX3_become_1 (by decide) rfl ?_
  refine g_aload_n C dX3_become_5 1 rfl rfl ?_
  refine g_get (v := .ref (ao 1)) (ci := 2) C dX3_become_6 inw_X3 rfl 1 0 0 rfl rfl (Nat.le_of_ble_eq_true rfl) rfl fl_X3_9 rfl rfl ?_
  refine g_iconst (v := 0) C dX3_become_9 rfl rfl ?_
  refine g_aload_n C dX3_become_10 0 rfl rfl ?_
  refine g_get (v := .ref (a 1)) (ci := 2) C dX3_become_11 inw_X3 rfl 0 0 0 rfl rfl (Nat.le_of_ble_eq_true rfl) rfl fl_X3_9 rfl rfl ?_
  refine g_iconst (v := 0) C dX3_become_14 rfl rfl ?_
  refine g_bipush (v := 9) C dX3_become_15 (by decide) rfl ?_
  refine nm_el hw (fun t_kd1 et_kd1 hw => ?_)
  refine g_copy (f := to_kd) (g := t_kd) (f' := t_kd1) (gs' := [gPar cI a (t_kd1, t_fg, t_hd, t_nx, t_bu, t_st, t_we, t_cu, t_ho, t_dr), gPar cI ao (to_kd, to_fg, to_hd, to_nx, to_bu, to_st, to_we, to_cu, to_ho, to_dr)]) C dX3_become_17 ml_X3_24 nv_arraycopy sm_arraycopy in_J10 1 1 0 1 rfl rfl rfl rfl 0 0 rfl rfl (by decide) (by decide) (by decide) (by decide) (by decide) ⟨Nat.le_of_ble_eq_true rfl, Nat.le_of_ble_eq_true rfl⟩ et_kd1.symm rfl rfl ?_
  refine g_aload_n C dX3_become_20 1 rfl rfl ?_
  refine g_get (v := .ref (ao 2)) (ci := 2) C dX3_become_21 inw_X3 rfl 1 0 1 rfl rfl (Nat.le_of_ble_eq_true rfl) rfl fl_X3_15 rfl rfl ?_
  refine g_iconst (v := 0) C dX3_become_24 rfl rfl ?_
  refine g_aload_n C dX3_become_25 0 rfl rfl ?_
  refine g_get (v := .ref (a 2)) (ci := 2) C dX3_become_26 inw_X3 rfl 0 0 1 rfl rfl (Nat.le_of_ble_eq_true rfl) rfl fl_X3_15 rfl rfl ?_
  refine g_iconst (v := 0) C dX3_become_29 rfl rfl ?_
  refine g_bipush (v := 9) C dX3_become_30 (by decide) rfl ?_
  refine nm_el hw (fun t_fg2 et_fg2 hw => ?_)
  refine g_copy (f := to_fg) (g := t_fg) (f' := t_fg2) (gs' := [gPar cI a (t_kd1, t_fg2, t_hd, t_nx, t_bu, t_st, t_we, t_cu, t_ho, t_dr), gPar cI ao (to_kd, to_fg, to_hd, to_nx, to_bu, to_st, to_we, to_cu, to_ho, to_dr)]) C dX3_become_32 ml_X3_24 nv_arraycopy sm_arraycopy in_J10 1 2 0 2 rfl rfl rfl rfl 0 0 rfl rfl (by decide) (by decide) (by decide) (by decide) (by decide) ⟨Nat.le_of_ble_eq_true rfl, Nat.le_of_ble_eq_true rfl⟩ et_fg2.symm rfl rfl ?_
  refine g_aload_n C dX3_become_35 1 rfl rfl ?_
  refine g_get (v := .ref (ao 3)) (ci := 2) C dX3_become_36 inw_X3 rfl 1 0 2 rfl rfl (Nat.le_of_ble_eq_true rfl) rfl fl_X3_18 rfl rfl ?_
  refine g_iconst (v := 0) C dX3_become_39 rfl rfl ?_
  refine g_aload_n C dX3_become_40 0 rfl rfl ?_
  refine g_get (v := .ref (a 3)) (ci := 2) C dX3_become_41 inw_X3 rfl 0 0 2 rfl rfl (Nat.le_of_ble_eq_true rfl) rfl fl_X3_18 rfl rfl ?_
  refine g_iconst (v := 0) C dX3_become_44 rfl rfl ?_
  refine g_bipush (v := 9) C dX3_become_45 (by decide) rfl ?_
  refine nm_el hw (fun t_hd3 et_hd3 hw => ?_)
  refine g_copy (f := to_hd) (g := t_hd) (f' := t_hd3) (gs' := [gPar cI a (t_kd1, t_fg2, t_hd3, t_nx, t_bu, t_st, t_we, t_cu, t_ho, t_dr), gPar cI ao (to_kd, to_fg, to_hd, to_nx, to_bu, to_st, to_we, to_cu, to_ho, to_dr)]) C dX3_become_47 ml_X3_24 nv_arraycopy sm_arraycopy in_J10 1 3 0 3 rfl rfl rfl rfl 0 0 rfl rfl (by decide) (by decide) (by decide) (by decide) (by decide) ⟨Nat.le_of_ble_eq_true rfl, Nat.le_of_ble_eq_true rfl⟩ et_hd3.symm rfl rfl ?_
  refine g_aload_n C dX3_become_50 1 rfl rfl ?_
  refine g_get (v := .ref (ao 4)) (ci := 2) C dX3_become_51 inw_X3 rfl 1 0 3 rfl rfl (Nat.le_of_ble_eq_true rfl) rfl fl_X3_21 rfl rfl ?_
  refine g_iconst (v := 0) C dX3_become_54 rfl rfl ?_
  refine g_aload_n C dX3_become_55 0 rfl rfl ?_
  refine g_get (v := .ref (a 4)) (ci := 2) C dX3_become_56 inw_X3 rfl 0 0 3 rfl rfl (Nat.le_of_ble_eq_true rfl) rfl fl_X3_21 rfl rfl ?_
  refine g_iconst (v := 0) C dX3_become_59 rfl rfl ?_
  refine g_bipush (v := 9) C dX3_become_60 (by decide) rfl ?_
  refine nm_el hw (fun t_nx4 et_nx4 hw => ?_)
  refine g_copy (f := to_nx) (g := t_nx) (f' := t_nx4) (gs' := [gPar cI a (t_kd1, t_fg2, t_hd3, t_nx4, t_bu, t_st, t_we, t_cu, t_ho, t_dr), gPar cI ao (to_kd, to_fg, to_hd, to_nx, to_bu, to_st, to_we, to_cu, to_ho, to_dr)]) C dX3_become_62 ml_X3_24 nv_arraycopy sm_arraycopy in_J10 1 4 0 4 rfl rfl rfl rfl 0 0 rfl rfl (by decide) (by decide) (by decide) (by decide) (by decide) ⟨Nat.le_of_ble_eq_true rfl, Nat.le_of_ble_eq_true rfl⟩ et_nx4.symm rfl rfl ?_
  refine g_aload_n C dX3_become_65 0 rfl rfl ?_
  refine g_aload_n C dX3_become_66 1 rfl rfl ?_
  refine g_get (v := .int to_bu) (ci := 2) C dX3_become_67 inw_X3 rfl 1 0 4 rfl rfl (Nat.le_of_ble_eq_true rfl) rfl fl_X3_30 rfl rfl ?_
  refine g_put (v' := .int to_bu) (ty := .int) (ci := 2) (gs' := [gPar cI a (t_kd1, t_fg2, t_hd3, t_nx4, to_bu, t_st, t_we, t_cu, t_ho, t_dr), gPar cI ao (to_kd, to_fg, to_hd, to_nx, to_bu, to_st, to_we, to_cu, to_ho, to_dr)]) C dX3_become_70 inw_X3 tyX3 tyX3_ok nmX3 rfl 0 0 4 rfl rfl (Nat.le_of_ble_eq_true rfl) rfl fl_X3_30 rfl fd_I rfl rfl rfl (Nat.le_of_ble_eq_true rfl) rfl rfl ?_
  refine g_aload_n C dX3_become_73 0 rfl rfl ?_
  refine g_aload_n C dX3_become_74 1 rfl rfl ?_
  refine g_get (v := .int to_st) (ci := 2) C dX3_become_75 inw_X3 rfl 1 0 5 rfl rfl (Nat.le_of_ble_eq_true rfl) rfl fl_X3_34 rfl rfl ?_
  refine g_put (v' := .int to_st) (ty := .int) (ci := 2) (gs' := [gPar cI a (t_kd1, t_fg2, t_hd3, t_nx4, to_bu, to_st, t_we, t_cu, t_ho, t_dr), gPar cI ao (to_kd, to_fg, to_hd, to_nx, to_bu, to_st, to_we, to_cu, to_ho, to_dr)]) C dX3_become_78 inw_X3 tyX3 tyX3_ok nmX3 rfl 0 0 5 rfl rfl (Nat.le_of_ble_eq_true rfl) rfl fl_X3_34 rfl fd_I rfl rfl rfl (Nat.le_of_ble_eq_true rfl) rfl rfl ?_
  refine g_aload_n C dX3_become_81 0 rfl rfl ?_
  refine g_aload_n C dX3_become_82 1 rfl rfl ?_
  refine g_get (v := .int to_we) (ci := 2) C dX3_become_83 inw_X3 rfl 1 0 6 rfl rfl (Nat.le_of_ble_eq_true rfl) rfl fl_X3_37 rfl rfl ?_
  refine g_put (v' := .int to_we) (ty := .int) (ci := 2) (gs' := [gPar cI a (t_kd1, t_fg2, t_hd3, t_nx4, to_bu, to_st, to_we, t_cu, t_ho, t_dr), gPar cI ao (to_kd, to_fg, to_hd, to_nx, to_bu, to_st, to_we, to_cu, to_ho, to_dr)]) C dX3_become_86 inw_X3 tyX3 tyX3_ok nmX3 rfl 0 0 6 rfl rfl (Nat.le_of_ble_eq_true rfl) rfl fl_X3_37 rfl fd_I rfl rfl rfl (Nat.le_of_ble_eq_true rfl) rfl rfl ?_
  refine g_aload_n C dX3_become_89 0 rfl rfl ?_
  refine g_aload_n C dX3_become_90 1 rfl rfl ?_
  refine g_get (v := .int to_cu) (ci := 2) C dX3_become_91 inw_X3 rfl 1 0 7 rfl rfl (Nat.le_of_ble_eq_true rfl) rfl fl_X3_40 rfl rfl ?_
  refine g_put (v' := .int to_cu) (ty := .int) (ci := 2) (gs' := [gPar cI a (t_kd1, t_fg2, t_hd3, t_nx4, to_bu, to_st, to_we, to_cu, t_ho, t_dr), gPar cI ao (to_kd, to_fg, to_hd, to_nx, to_bu, to_st, to_we, to_cu, to_ho, to_dr)]) C dX3_become_94 inw_X3 tyX3 tyX3_ok nmX3 rfl 0 0 7 rfl rfl (Nat.le_of_ble_eq_true rfl) rfl fl_X3_40 rfl fd_I rfl rfl rfl (Nat.le_of_ble_eq_true rfl) rfl rfl ?_
  refine g_aload_n C dX3_become_97 0 rfl rfl ?_
  refine g_aload_n C dX3_become_98 1 rfl rfl ?_
  refine g_get (v := .int to_ho) (ci := 2) C dX3_become_99 inw_X3 rfl 1 0 8 rfl rfl (Nat.le_of_ble_eq_true rfl) rfl fl_X3_43 rfl rfl ?_
  refine g_put (v' := .int to_ho) (ty := .int) (ci := 2) (gs' := [gPar cI a (t_kd1, t_fg2, t_hd3, t_nx4, to_bu, to_st, to_we, to_cu, to_ho, t_dr), gPar cI ao (to_kd, to_fg, to_hd, to_nx, to_bu, to_st, to_we, to_cu, to_ho, to_dr)]) C dX3_become_102 inw_X3 tyX3 tyX3_ok nmX3 rfl 0 0 8 rfl rfl (Nat.le_of_ble_eq_true rfl) rfl fl_X3_43 rfl fd_I rfl rfl rfl (Nat.le_of_ble_eq_true rfl) rfl rfl ?_
  exact hret 105 (t_kd1, t_fg2, t_hd3, t_nx4, to_bu, to_st, to_we, to_cu, to_ho, t_dr) _ dX3_become_105 hw
set_option maxRecDepth 100000 in
theorem c_X3_become (l : Launch) (D : va_G) (cI cQ : ClassId) (a : Nat → Nat) (ao : Nat → Nat) (t : PT) (to : PT) (post : PT → Prop) (sz : Nat) : Met l yX3_become (wsY yX3_become cX3_become 2 none) (rmL 1 0 0 40) (xP D (tyL cI cQ) [.ref (a 0), .ref (ao 0)] [gPar cI a t, gPar cI ao to] sz (p_X3_become t to post)) (xQv D (tyL cI cQ) post (fun (u : PT) => [gPar cI a u, gPar cI ao to]) (va_A [gPar cI a t, gPar cI ao to].flatten sz)) 0 0 (va_A [gPar cI a t, gPar cI ao to].flatten sz) :=
  Met_v pn_X3 (Nat.le_of_ble_eq_true rfl) (fun p e s mi below meth co A Q _ C hret hw => w_X3_become a ao t to C hret hw)
theorem kV_X3_become : Cond.instanceMethod yX3_become ∈ gTbl ∧ Cond.selects yX3_become.cls yX3_become yX3_become ∈ gTbl ∧ Cond.initialized yX3_become.cls ∈ gTbl ∧ Cond.code yX3_become cX3_become 2 none ∈ gTbl ∧ (yX3_become.cls ≠ "java/lang/invoke/MethodHandle" ∧ yX3_become.cls ≠ "java/lang/invoke/VarHandle" ∧ (parseMethodDescriptor yX3_become.desc).map (fun d => d.parameters.length) = some 1) := ⟨im_X3_become, sl_X3_become, in_X3, cd_X3_become, (by decide +kernel)⟩
set_option maxRecDepth 100000 in
def p_X3_there (t : PT) (p1 : Int32) (post : Int32 → Prop) : Prop := (fun (t_kd : F1) (t_fg : F1) (t_hd : F1) (t_nx : F1) (t_bu : Int32) (t_st : Int32) (t_we : Int32) (t_cu : Int32) (t_ho : Int32) (t_dr : Int32) => ((p1 < 0 → post (0 : Int32)) ∧ (¬ p1 < 0 → ((t_bu ≤ p1 → post (0 : Int32)) ∧ (¬ t_bu ≤ p1 → post (1 : Int32)))))) t.1 t.2.1 t.2.2.1 t.2.2.2.1 t.2.2.2.2.1 t.2.2.2.2.2.1 t.2.2.2.2.2.2.1 t.2.2.2.2.2.2.2.1 t.2.2.2.2.2.2.2.2.1 t.2.2.2.2.2.2.2.2.2
set_option maxHeartbeats 4000000 in
set_option maxRecDepth 100000 in
theorem w_X3_there {p : Program} {l : Launch} {e : Env} {s : State} {mi : MethodId} {args : Array Value} {below : List Frame} {meth : Method} {co : Code} {D : va_G} {cI cQ : ClassId} {A : Nat → Prop} {Q : State → Prop} (a : Nat → Nat) (t : PT) (p1 : Int32) {post : Int32 → Prop} (C : xC p s mi args co cX3_there RX3 2 D (tyL cI cQ) A) (hret : ∀ (pc : Nat) (r : Int32) (u : Unit) (lv : List (Nat × Value)), decode cX3_there pc = .ok (.ireturn, 1) → bz r → post r → xG p l e (rmL 0 0 0 0) s mi args below meth co D A 2 Q 0 0 pc [.int r] [gPar cI a t] lv) (hw : p_X3_there t p1 post) : xG p l e (rmL 0 0 0 0) s mi args below meth co D A 2 Q 0 0 0 [] [gPar cI a t] [(0, .ref (a 0)), (1, .int p1)] := by
  unfold p_X3_there at hw
  obtain ⟨t_kd, t_fg, t_hd, t_nx, t_bu, t_st, t_we, t_cu, t_ho, t_dr⟩ := t
  try dsimp only at hw
  show xG p l e (rmL 0 0 0 0) s mi args below meth co D A 2 Q 0 0 0 [] [gPar cI a (t_kd, t_fg, t_hd, t_nx, t_bu, t_st, t_we, t_cu, t_ho, t_dr)] [(0, .ref (a 0)), (1, .int p1)]
  refine g_iload_n C dX3_there_0 1 rfl rfl ?_
  refine g_if_lt (tgt := 16) C dX3_there_1 (by decide) rfl hw (fun _ hw => ?_) (fun _ hw => ?_)
  · refine g_iconst (v := 0) C dX3_there_16 rfl rfl ?_
    exact hret 17 (0 : Int32) () _ dX3_there_17 ⟨rfl, rfl⟩ hw
  · refine g_iload_n C dX3_there_4 1 rfl rfl ?_
    refine g_aload_n C dX3_there_5 0 rfl rfl ?_
    refine g_get (v := .int t_bu) (ci := 2) C dX3_there_6 inw_X3 rfl 0 0 4 rfl rfl (Nat.le_of_ble_eq_true rfl) rfl fl_X3_30 rfl rfl ?_
    refine g_icmp_ge (tgt := 16) C dX3_there_9 (by decide) rfl hw (fun _ hw => ?_) (fun _ hw => ?_)
    · refine g_iconst (v := 0) C dX3_there_16 rfl rfl ?_
      exact hret 17 (0 : Int32) () _ dX3_there_17 ⟨rfl, rfl⟩ hw
    · refine g_iconst (v := 1) C dX3_there_12 rfl rfl ?_
      refine g_goto (pc' := 17) C dX3_there_13 (by decide) rfl ?_
      exact hret 17 (1 : Int32) () _ dX3_there_17 ⟨rfl, rfl⟩ hw
set_option maxRecDepth 100000 in
theorem c_X3_there (l : Launch) (D : va_G) (cI cQ : ClassId) (a : Nat → Nat) (t : PT) (p1 : Int32) (post : Int32 → Prop) (sz : Nat) : Met l yX3_there (wsY yX3_there cX3_there 2 (some .boolean)) (rmL 0 0 0 0) (xP D (tyL cI cQ) [.ref (a 0), .int p1] [gPar cI a t] sz (p_X3_there t p1 post)) (xQi D (tyL cI cQ) (fun (r : Int32) (_ : Unit) => post r) (fun (u : Unit) => [gPar cI a t]) (va_A [gPar cI a t].flatten sz)) 0 0 (va_A [gPar cI a t].flatten sz) :=
  Met_z pn_X3 (Nat.le_of_ble_eq_true rfl) (fun p e s mi below meth co A Q _ C hret hw => w_X3_there a t p1 C hret hw)
theorem kV_X3_there : Cond.instanceMethod yX3_there ∈ gTbl ∧ Cond.selects yX3_there.cls yX3_there yX3_there ∈ gTbl ∧ Cond.initialized yX3_there.cls ∈ gTbl ∧ Cond.code yX3_there cX3_there 2 (some .boolean) ∈ gTbl ∧ (yX3_there.cls ≠ "java/lang/invoke/MethodHandle" ∧ yX3_there.cls ≠ "java/lang/invoke/VarHandle" ∧ (parseMethodDescriptor yX3_there.desc).map (fun d => d.parameters.length) = some 1) := ⟨im_X3_there, sl_X3_there, in_X3, cd_X3_there, (by decide +kernel)⟩
set_option maxRecDepth 100000 in
def p_X3_houses (t : PT) (post : Int32 → Prop) : Prop := (fun (t_kd : F1) (t_fg : F1) (t_hd : F1) (t_nx : F1) (t_bu : Int32) (t_st : Int32) (t_we : Int32) (t_cu : Int32) (t_ho : Int32) (t_dr : Int32) => post t_bu) t.1 t.2.1 t.2.2.1 t.2.2.2.1 t.2.2.2.2.1 t.2.2.2.2.2.1 t.2.2.2.2.2.2.1 t.2.2.2.2.2.2.2.1 t.2.2.2.2.2.2.2.2.1 t.2.2.2.2.2.2.2.2.2
set_option maxHeartbeats 4000000 in
set_option maxRecDepth 100000 in
theorem w_X3_houses {p : Program} {l : Launch} {e : Env} {s : State} {mi : MethodId} {args : Array Value} {below : List Frame} {meth : Method} {co : Code} {D : va_G} {cI cQ : ClassId} {A : Nat → Prop} {Q : State → Prop} (a : Nat → Nat) (t : PT) {post : Int32 → Prop} (C : xC p s mi args co cX3_houses RX3 1 D (tyL cI cQ) A) (hret : ∀ (pc : Nat) (r : Int32) (u : Unit) (lv : List (Nat × Value)), decode cX3_houses pc = .ok (.ireturn, 1) → post r → xG p l e (rmL 0 0 0 0) s mi args below meth co D A 1 Q 0 0 pc [.int r] [gPar cI a t] lv) (hw : p_X3_houses t post) : xG p l e (rmL 0 0 0 0) s mi args below meth co D A 1 Q 0 0 0 [] [gPar cI a t] [(0, .ref (a 0))] := by
  unfold p_X3_houses at hw
  obtain ⟨t_kd, t_fg, t_hd, t_nx, t_bu, t_st, t_we, t_cu, t_ho, t_dr⟩ := t
  try dsimp only at hw
  show xG p l e (rmL 0 0 0 0) s mi args below meth co D A 1 Q 0 0 0 [] [gPar cI a (t_kd, t_fg, t_hd, t_nx, t_bu, t_st, t_we, t_cu, t_ho, t_dr)] [(0, .ref (a 0))]
  refine g_aload_n C dX3_houses_0 0 rfl rfl ?_
  refine g_get (v := .int t_bu) (ci := 2) C dX3_houses_1 inw_X3 rfl 0 0 4 rfl rfl (Nat.le_of_ble_eq_true rfl) rfl fl_X3_30 rfl rfl ?_
  exact hret 4 t_bu () _ dX3_houses_4 hw
set_option maxRecDepth 100000 in
theorem c_X3_houses (l : Launch) (D : va_G) (cI cQ : ClassId) (a : Nat → Nat) (t : PT) (post : Int32 → Prop) (sz : Nat) : Met l yX3_houses (wsY yX3_houses cX3_houses 1 (some .int)) (rmL 0 0 0 0) (xP D (tyL cI cQ) [.ref (a 0)] [gPar cI a t] sz (p_X3_houses t post)) (xQi D (tyL cI cQ) (fun (r : Int32) (_ : Unit) => post r) (fun (u : Unit) => [gPar cI a t]) (va_A [gPar cI a t].flatten sz)) 0 0 (va_A [gPar cI a t].flatten sz) :=
  Met_i pn_X3 (Nat.le_of_ble_eq_true rfl) (fun p e s mi below meth co A Q _ C hret hw => w_X3_houses a t C hret hw)
theorem kV_X3_houses : Cond.instanceMethod yX3_houses ∈ gTbl ∧ Cond.selects yX3_houses.cls yX3_houses yX3_houses ∈ gTbl ∧ Cond.initialized yX3_houses.cls ∈ gTbl ∧ Cond.code yX3_houses cX3_houses 1 (some .int) ∈ gTbl ∧ (yX3_houses.cls ≠ "java/lang/invoke/MethodHandle" ∧ yX3_houses.cls ≠ "java/lang/invoke/VarHandle" ∧ (parseMethodDescriptor yX3_houses.desc).map (fun d => d.parameters.length) = some 0) := ⟨im_X3_houses, sl_X3_houses, in_X3, cd_X3_houses, (by decide +kernel)⟩
set_option maxRecDepth 100000 in
def p_X3_kindOf (t : PT) (p1 : Int32) (post : Int32 → Prop) : Prop := (fun (t_kd : F1) (t_fg : F1) (t_hd : F1) (t_nx : F1) (t_bu : Int32) (t_st : Int32) (t_we : Int32) (t_cu : Int32) (t_ho : Int32) (t_dr : Int32) => p_X3_there (t_kd, t_fg, t_hd, t_nx, t_bu, t_st, t_we, t_cu, t_ho, t_dr) p1 (fun (r1 : Int32) => ((r1 = 0 → post (0 : Int32)) ∧ (¬ r1 = 0 → (vp_in p1 9 ∧ post (t_kd (p1).toNatClampNeg)))))) t.1 t.2.1 t.2.2.1 t.2.2.2.1 t.2.2.2.2.1 t.2.2.2.2.2.1 t.2.2.2.2.2.2.1 t.2.2.2.2.2.2.2.1 t.2.2.2.2.2.2.2.2.1 t.2.2.2.2.2.2.2.2.2
set_option maxHeartbeats 4000000 in
set_option maxRecDepth 100000 in
theorem w_X3_kindOf {p : Program} {l : Launch} {e : Env} {s : State} {mi : MethodId} {args : Array Value} {below : List Frame} {meth : Method} {co : Code} {D : va_G} {cI cQ : ClassId} {A : Nat → Prop} {Q : State → Prop} (a : Nat → Nat) (t : PT) (p1 : Int32) {post : Int32 → Prop} (C : xC p s mi args co cX3_kindOf RX3 2 D (tyL cI cQ) A) (hret : ∀ (pc : Nat) (r : Int32) (u : Unit) (lv : List (Nat × Value)), decode cX3_kindOf pc = .ok (.ireturn, 1) → post r → xG p l e (rmL 1 0 0 21) s mi args below meth co D A 2 Q 0 0 pc [.int r] [gPar cI a t] lv) (hw : p_X3_kindOf t p1 post) : xG p l e (rmL 1 0 0 21) s mi args below meth co D A 2 Q 0 0 0 [] [gPar cI a t] [(0, .ref (a 0)), (1, .int p1)] := by
  unfold p_X3_kindOf at hw
  obtain ⟨t_kd, t_fg, t_hd, t_nx, t_bu, t_st, t_we, t_cu, t_ho, t_dr⟩ := t
  try dsimp only at hw
  show xG p l e (rmL 1 0 0 21) s mi args below meth co D A 2 Q 0 0 0 [] [gPar cI a (t_kd, t_fg, t_hd, t_nx, t_bu, t_st, t_we, t_cu, t_ho, t_dr)] [(0, .ref (a 0)), (1, .int p1)]
  refine g_aload_n C dX3_kindOf_0 0 rfl rfl ?_
  refine g_iload_n C dX3_kindOf_1 1 rfl rfl ?_
  refine g_callVi (As := [.int p1]) (gr := []) C (c_X3_there l D cI cQ a (t_kd, t_fg, t_hd, t_nx, t_bu, t_st, t_we, t_cu, t_ho, t_dr) p1 _) dX3_kindOf_2 ⟨ml_X3_46, kV_X3_there⟩ ⟨Nat.le_of_ble_eq_true rfl, Nat.le_of_ble_eq_true rfl⟩ ⟨Nat.le_refl _, Nat.le_refl _⟩ rfl rfl 0 0 rfl rfl [0] 1 rfl pma_0 rfl rfl rfl (Nat.le_of_ble_eq_true rfl) rfl (fun (u : Unit) => [gPar cI a (t_kd, t_fg, t_hd, t_nx, t_bu, t_st, t_we, t_cu, t_ho, t_dr)]) [0] 1 (fun _ => rfl) pma_0 (fun _ => rfl) hw (fun r1 u1 hw => ?_)
  refine g_if_eq (tgt := 17) C dX3_kindOf_5 (by decide) rfl hw (fun _ hw => ?_) (fun _ hw => ?_)
  · refine g_iconst (v := 0) C dX3_kindOf_17 rfl rfl ?_
    exact hret 18 (0 : Int32) () _ dX3_kindOf_18 hw
  · refine g_aload_n C dX3_kindOf_8 0 rfl rfl ?_
    refine g_get (v := .ref (a 1)) (ci := 2) C dX3_kindOf_9 inw_X3 rfl 0 0 0 rfl rfl (Nat.le_of_ble_eq_true rfl) rfl fl_X3_9 rfl rfl ?_
    refine g_iload_n C dX3_kindOf_12 1 rfl rfl ?_
    have hi13 := hw.1
    replace hw := hw.2
    refine g_iald (f := t_kd) C dX3_kindOf_13 0 1 rfl rfl 0 rfl hi13 rfl ?_
    refine g_goto (pc' := 18) C dX3_kindOf_14 (by decide) rfl ?_
    exact hret 18 (t_kd (p1).toNatClampNeg) () _ dX3_kindOf_18 hw
set_option maxRecDepth 100000 in
theorem c_X3_kindOf (l : Launch) (D : va_G) (cI cQ : ClassId) (a : Nat → Nat) (t : PT) (p1 : Int32) (post : Int32 → Prop) (sz : Nat) : Met l yX3_kindOf (wsY yX3_kindOf cX3_kindOf 2 (some .int)) (rmL 1 0 0 21) (xP D (tyL cI cQ) [.ref (a 0), .int p1] [gPar cI a t] sz (p_X3_kindOf t p1 post)) (xQi D (tyL cI cQ) (fun (r : Int32) (_ : Unit) => post r) (fun (u : Unit) => [gPar cI a t]) (va_A [gPar cI a t].flatten sz)) 0 0 (va_A [gPar cI a t].flatten sz) :=
  Met_i pn_X3 (Nat.le_of_ble_eq_true rfl) (fun p e s mi below meth co A Q _ C hret hw => w_X3_kindOf a t p1 C hret hw)
theorem kV_X3_kindOf : Cond.instanceMethod yX3_kindOf ∈ gTbl ∧ Cond.selects yX3_kindOf.cls yX3_kindOf yX3_kindOf ∈ gTbl ∧ Cond.initialized yX3_kindOf.cls ∈ gTbl ∧ Cond.code yX3_kindOf cX3_kindOf 2 (some .int) ∈ gTbl ∧ (yX3_kindOf.cls ≠ "java/lang/invoke/MethodHandle" ∧ yX3_kindOf.cls ≠ "java/lang/invoke/VarHandle" ∧ (parseMethodDescriptor yX3_kindOf.desc).map (fun d => d.parameters.length) = some 1) := ⟨im_X3_kindOf, sl_X3_kindOf, in_X3, cd_X3_kindOf, (by decide +kernel)⟩
set_option maxRecDepth 100000 in
def p_X3_figureOf (t : PT) (p1 : Int32) (post : Int32 → Prop) : Prop := (fun (t_kd : F1) (t_fg : F1) (t_hd : F1) (t_nx : F1) (t_bu : Int32) (t_st : Int32) (t_we : Int32) (t_cu : Int32) (t_ho : Int32) (t_dr : Int32) => p_X3_there (t_kd, t_fg, t_hd, t_nx, t_bu, t_st, t_we, t_cu, t_ho, t_dr) p1 (fun (r1 : Int32) => ((r1 = 0 → post (0 : Int32)) ∧ (¬ r1 = 0 → (vp_in p1 9 ∧ post (t_fg (p1).toNatClampNeg)))))) t.1 t.2.1 t.2.2.1 t.2.2.2.1 t.2.2.2.2.1 t.2.2.2.2.2.1 t.2.2.2.2.2.2.1 t.2.2.2.2.2.2.2.1 t.2.2.2.2.2.2.2.2.1 t.2.2.2.2.2.2.2.2.2
set_option maxHeartbeats 4000000 in
set_option maxRecDepth 100000 in
theorem w_X3_figureOf {p : Program} {l : Launch} {e : Env} {s : State} {mi : MethodId} {args : Array Value} {below : List Frame} {meth : Method} {co : Code} {D : va_G} {cI cQ : ClassId} {A : Nat → Prop} {Q : State → Prop} (a : Nat → Nat) (t : PT) (p1 : Int32) {post : Int32 → Prop} (C : xC p s mi args co cX3_figureOf RX3 2 D (tyL cI cQ) A) (hret : ∀ (pc : Nat) (r : Int32) (u : Unit) (lv : List (Nat × Value)), decode cX3_figureOf pc = .ok (.ireturn, 1) → post r → xG p l e (rmL 1 0 0 21) s mi args below meth co D A 2 Q 0 0 pc [.int r] [gPar cI a t] lv) (hw : p_X3_figureOf t p1 post) : xG p l e (rmL 1 0 0 21) s mi args below meth co D A 2 Q 0 0 0 [] [gPar cI a t] [(0, .ref (a 0)), (1, .int p1)] := by
  unfold p_X3_figureOf at hw
  obtain ⟨t_kd, t_fg, t_hd, t_nx, t_bu, t_st, t_we, t_cu, t_ho, t_dr⟩ := t
  try dsimp only at hw
  show xG p l e (rmL 1 0 0 21) s mi args below meth co D A 2 Q 0 0 0 [] [gPar cI a (t_kd, t_fg, t_hd, t_nx, t_bu, t_st, t_we, t_cu, t_ho, t_dr)] [(0, .ref (a 0)), (1, .int p1)]
  refine g_aload_n C dX3_figureOf_0 0 rfl rfl ?_
  refine g_iload_n C dX3_figureOf_1 1 rfl rfl ?_
  refine g_callVi (As := [.int p1]) (gr := []) C (c_X3_there l D cI cQ a (t_kd, t_fg, t_hd, t_nx, t_bu, t_st, t_we, t_cu, t_ho, t_dr) p1 _) dX3_figureOf_2 ⟨ml_X3_46, kV_X3_there⟩ ⟨Nat.le_of_ble_eq_true rfl, Nat.le_of_ble_eq_true rfl⟩ ⟨Nat.le_refl _, Nat.le_refl _⟩ rfl rfl 0 0 rfl rfl [0] 1 rfl pma_0 rfl rfl rfl (Nat.le_of_ble_eq_true rfl) rfl (fun (u : Unit) => [gPar cI a (t_kd, t_fg, t_hd, t_nx, t_bu, t_st, t_we, t_cu, t_ho, t_dr)]) [0] 1 (fun _ => rfl) pma_0 (fun _ => rfl) hw (fun r1 u1 hw => ?_)
  refine g_if_eq (tgt := 17) C dX3_figureOf_5 (by decide) rfl hw (fun _ hw => ?_) (fun _ hw => ?_)
  · refine g_iconst (v := 0) C dX3_figureOf_17 rfl rfl ?_
    exact hret 18 (0 : Int32) () _ dX3_figureOf_18 hw
  · refine g_aload_n C dX3_figureOf_8 0 rfl rfl ?_
    refine g_get (v := .ref (a 2)) (ci := 2) C dX3_figureOf_9 inw_X3 rfl 0 0 1 rfl rfl (Nat.le_of_ble_eq_true rfl) rfl fl_X3_15 rfl rfl ?_
    refine g_iload_n C dX3_figureOf_12 1 rfl rfl ?_
    have hi13 := hw.1
    replace hw := hw.2
    refine g_iald (f := t_fg) C dX3_figureOf_13 0 2 rfl rfl 0 rfl hi13 rfl ?_
    refine g_goto (pc' := 18) C dX3_figureOf_14 (by decide) rfl ?_
    exact hret 18 (t_fg (p1).toNatClampNeg) () _ dX3_figureOf_18 hw
set_option maxRecDepth 100000 in
theorem c_X3_figureOf (l : Launch) (D : va_G) (cI cQ : ClassId) (a : Nat → Nat) (t : PT) (p1 : Int32) (post : Int32 → Prop) (sz : Nat) : Met l yX3_figureOf (wsY yX3_figureOf cX3_figureOf 2 (some .int)) (rmL 1 0 0 21) (xP D (tyL cI cQ) [.ref (a 0), .int p1] [gPar cI a t] sz (p_X3_figureOf t p1 post)) (xQi D (tyL cI cQ) (fun (r : Int32) (_ : Unit) => post r) (fun (u : Unit) => [gPar cI a t]) (va_A [gPar cI a t].flatten sz)) 0 0 (va_A [gPar cI a t].flatten sz) :=
  Met_i pn_X3 (Nat.le_of_ble_eq_true rfl) (fun p e s mi below meth co A Q _ C hret hw => w_X3_figureOf a t p1 C hret hw)
theorem kV_X3_figureOf : Cond.instanceMethod yX3_figureOf ∈ gTbl ∧ Cond.selects yX3_figureOf.cls yX3_figureOf yX3_figureOf ∈ gTbl ∧ Cond.initialized yX3_figureOf.cls ∈ gTbl ∧ Cond.code yX3_figureOf cX3_figureOf 2 (some .int) ∈ gTbl ∧ (yX3_figureOf.cls ≠ "java/lang/invoke/MethodHandle" ∧ yX3_figureOf.cls ≠ "java/lang/invoke/VarHandle" ∧ (parseMethodDescriptor yX3_figureOf.desc).map (fun d => d.parameters.length) = some 1) := ⟨im_X3_figureOf, sl_X3_figureOf, in_X3, cd_X3_figureOf, (by decide +kernel)⟩
set_option maxRecDepth 100000 in
def p_X3_holdsOf (t : PT) (p1 : Int32) (post : Int32 → Prop) : Prop := (fun (t_kd : F1) (t_fg : F1) (t_hd : F1) (t_nx : F1) (t_bu : Int32) (t_st : Int32) (t_we : Int32) (t_cu : Int32) (t_ho : Int32) (t_dr : Int32) => p_X3_there (t_kd, t_fg, t_hd, t_nx, t_bu, t_st, t_we, t_cu, t_ho, t_dr) p1 (fun (r1 : Int32) => ((r1 = 0 → post (0 : Int32)) ∧ (¬ r1 = 0 → (vp_in p1 9 ∧ post (t_hd (p1).toNatClampNeg)))))) t.1 t.2.1 t.2.2.1 t.2.2.2.1 t.2.2.2.2.1 t.2.2.2.2.2.1 t.2.2.2.2.2.2.1 t.2.2.2.2.2.2.2.1 t.2.2.2.2.2.2.2.2.1 t.2.2.2.2.2.2.2.2.2
set_option maxHeartbeats 4000000 in
set_option maxRecDepth 100000 in
theorem w_X3_holdsOf {p : Program} {l : Launch} {e : Env} {s : State} {mi : MethodId} {args : Array Value} {below : List Frame} {meth : Method} {co : Code} {D : va_G} {cI cQ : ClassId} {A : Nat → Prop} {Q : State → Prop} (a : Nat → Nat) (t : PT) (p1 : Int32) {post : Int32 → Prop} (C : xC p s mi args co cX3_holdsOf RX3 2 D (tyL cI cQ) A) (hret : ∀ (pc : Nat) (r : Int32) (u : Unit) (lv : List (Nat × Value)), decode cX3_holdsOf pc = .ok (.ireturn, 1) → post r → xG p l e (rmL 1 0 0 21) s mi args below meth co D A 2 Q 0 0 pc [.int r] [gPar cI a t] lv) (hw : p_X3_holdsOf t p1 post) : xG p l e (rmL 1 0 0 21) s mi args below meth co D A 2 Q 0 0 0 [] [gPar cI a t] [(0, .ref (a 0)), (1, .int p1)] := by
  unfold p_X3_holdsOf at hw
  obtain ⟨t_kd, t_fg, t_hd, t_nx, t_bu, t_st, t_we, t_cu, t_ho, t_dr⟩ := t
  try dsimp only at hw
  show xG p l e (rmL 1 0 0 21) s mi args below meth co D A 2 Q 0 0 0 [] [gPar cI a (t_kd, t_fg, t_hd, t_nx, t_bu, t_st, t_we, t_cu, t_ho, t_dr)] [(0, .ref (a 0)), (1, .int p1)]
  refine g_aload_n C dX3_holdsOf_0 0 rfl rfl ?_
  refine g_iload_n C dX3_holdsOf_1 1 rfl rfl ?_
  refine g_callVi (As := [.int p1]) (gr := []) C (c_X3_there l D cI cQ a (t_kd, t_fg, t_hd, t_nx, t_bu, t_st, t_we, t_cu, t_ho, t_dr) p1 _) dX3_holdsOf_2 ⟨ml_X3_46, kV_X3_there⟩ ⟨Nat.le_of_ble_eq_true rfl, Nat.le_of_ble_eq_true rfl⟩ ⟨Nat.le_refl _, Nat.le_refl _⟩ rfl rfl 0 0 rfl rfl [0] 1 rfl pma_0 rfl rfl rfl (Nat.le_of_ble_eq_true rfl) rfl (fun (u : Unit) => [gPar cI a (t_kd, t_fg, t_hd, t_nx, t_bu, t_st, t_we, t_cu, t_ho, t_dr)]) [0] 1 (fun _ => rfl) pma_0 (fun _ => rfl) hw (fun r1 u1 hw => ?_)
  refine g_if_eq (tgt := 17) C dX3_holdsOf_5 (by decide) rfl hw (fun _ hw => ?_) (fun _ hw => ?_)
  · refine g_iconst (v := 0) C dX3_holdsOf_17 rfl rfl ?_
    exact hret 18 (0 : Int32) () _ dX3_holdsOf_18 hw
  · refine g_aload_n C dX3_holdsOf_8 0 rfl rfl ?_
    refine g_get (v := .ref (a 3)) (ci := 2) C dX3_holdsOf_9 inw_X3 rfl 0 0 2 rfl rfl (Nat.le_of_ble_eq_true rfl) rfl fl_X3_18 rfl rfl ?_
    refine g_iload_n C dX3_holdsOf_12 1 rfl rfl ?_
    have hi13 := hw.1
    replace hw := hw.2
    refine g_iald (f := t_hd) C dX3_holdsOf_13 0 3 rfl rfl 0 rfl hi13 rfl ?_
    refine g_goto (pc' := 18) C dX3_holdsOf_14 (by decide) rfl ?_
    exact hret 18 (t_hd (p1).toNatClampNeg) () _ dX3_holdsOf_18 hw
set_option maxRecDepth 100000 in
theorem c_X3_holdsOf (l : Launch) (D : va_G) (cI cQ : ClassId) (a : Nat → Nat) (t : PT) (p1 : Int32) (post : Int32 → Prop) (sz : Nat) : Met l yX3_holdsOf (wsY yX3_holdsOf cX3_holdsOf 2 (some .int)) (rmL 1 0 0 21) (xP D (tyL cI cQ) [.ref (a 0), .int p1] [gPar cI a t] sz (p_X3_holdsOf t p1 post)) (xQi D (tyL cI cQ) (fun (r : Int32) (_ : Unit) => post r) (fun (u : Unit) => [gPar cI a t]) (va_A [gPar cI a t].flatten sz)) 0 0 (va_A [gPar cI a t].flatten sz) :=
  Met_i pn_X3 (Nat.le_of_ble_eq_true rfl) (fun p e s mi below meth co A Q _ C hret hw => w_X3_holdsOf a t p1 C hret hw)
theorem kV_X3_holdsOf : Cond.instanceMethod yX3_holdsOf ∈ gTbl ∧ Cond.selects yX3_holdsOf.cls yX3_holdsOf yX3_holdsOf ∈ gTbl ∧ Cond.initialized yX3_holdsOf.cls ∈ gTbl ∧ Cond.code yX3_holdsOf cX3_holdsOf 2 (some .int) ∈ gTbl ∧ (yX3_holdsOf.cls ≠ "java/lang/invoke/MethodHandle" ∧ yX3_holdsOf.cls ≠ "java/lang/invoke/VarHandle" ∧ (parseMethodDescriptor yX3_holdsOf.desc).map (fun d => d.parameters.length) = some 1) := ⟨im_X3_holdsOf, sl_X3_holdsOf, in_X3, cd_X3_holdsOf, (by decide +kernel)⟩
set_option maxRecDepth 100000 in
def p_X3_nextOf (t : PT) (p1 : Int32) (post : Int32 → Prop) : Prop := (fun (t_kd : F1) (t_fg : F1) (t_hd : F1) (t_nx : F1) (t_bu : Int32) (t_st : Int32) (t_we : Int32) (t_cu : Int32) (t_ho : Int32) (t_dr : Int32) => p_X3_there (t_kd, t_fg, t_hd, t_nx, t_bu, t_st, t_we, t_cu, t_ho, t_dr) p1 (fun (r1 : Int32) => ((r1 = 0 → post (0 : Int32)) ∧ (¬ r1 = 0 → (vp_in p1 9 ∧ post (t_nx (p1).toNatClampNeg)))))) t.1 t.2.1 t.2.2.1 t.2.2.2.1 t.2.2.2.2.1 t.2.2.2.2.2.1 t.2.2.2.2.2.2.1 t.2.2.2.2.2.2.2.1 t.2.2.2.2.2.2.2.2.1 t.2.2.2.2.2.2.2.2.2
set_option maxHeartbeats 4000000 in
set_option maxRecDepth 100000 in
theorem w_X3_nextOf {p : Program} {l : Launch} {e : Env} {s : State} {mi : MethodId} {args : Array Value} {below : List Frame} {meth : Method} {co : Code} {D : va_G} {cI cQ : ClassId} {A : Nat → Prop} {Q : State → Prop} (a : Nat → Nat) (t : PT) (p1 : Int32) {post : Int32 → Prop} (C : xC p s mi args co cX3_nextOf RX3 2 D (tyL cI cQ) A) (hret : ∀ (pc : Nat) (r : Int32) (u : Unit) (lv : List (Nat × Value)), decode cX3_nextOf pc = .ok (.ireturn, 1) → post r → xG p l e (rmL 1 0 0 21) s mi args below meth co D A 2 Q 0 0 pc [.int r] [gPar cI a t] lv) (hw : p_X3_nextOf t p1 post) : xG p l e (rmL 1 0 0 21) s mi args below meth co D A 2 Q 0 0 0 [] [gPar cI a t] [(0, .ref (a 0)), (1, .int p1)] := by
  unfold p_X3_nextOf at hw
  obtain ⟨t_kd, t_fg, t_hd, t_nx, t_bu, t_st, t_we, t_cu, t_ho, t_dr⟩ := t
  try dsimp only at hw
  show xG p l e (rmL 1 0 0 21) s mi args below meth co D A 2 Q 0 0 0 [] [gPar cI a (t_kd, t_fg, t_hd, t_nx, t_bu, t_st, t_we, t_cu, t_ho, t_dr)] [(0, .ref (a 0)), (1, .int p1)]
  refine g_aload_n C dX3_nextOf_0 0 rfl rfl ?_
  refine g_iload_n C dX3_nextOf_1 1 rfl rfl ?_
  refine g_callVi (As := [.int p1]) (gr := []) C (c_X3_there l D cI cQ a (t_kd, t_fg, t_hd, t_nx, t_bu, t_st, t_we, t_cu, t_ho, t_dr) p1 _) dX3_nextOf_2 ⟨ml_X3_46, kV_X3_there⟩ ⟨Nat.le_of_ble_eq_true rfl, Nat.le_of_ble_eq_true rfl⟩ ⟨Nat.le_refl _, Nat.le_refl _⟩ rfl rfl 0 0 rfl rfl [0] 1 rfl pma_0 rfl rfl rfl (Nat.le_of_ble_eq_true rfl) rfl (fun (u : Unit) => [gPar cI a (t_kd, t_fg, t_hd, t_nx, t_bu, t_st, t_we, t_cu, t_ho, t_dr)]) [0] 1 (fun _ => rfl) pma_0 (fun _ => rfl) hw (fun r1 u1 hw => ?_)
  refine g_if_eq (tgt := 17) C dX3_nextOf_5 (by decide) rfl hw (fun _ hw => ?_) (fun _ hw => ?_)
  · refine g_iconst (v := 0) C dX3_nextOf_17 rfl rfl ?_
    exact hret 18 (0 : Int32) () _ dX3_nextOf_18 hw
  · refine g_aload_n C dX3_nextOf_8 0 rfl rfl ?_
    refine g_get (v := .ref (a 4)) (ci := 2) C dX3_nextOf_9 inw_X3 rfl 0 0 3 rfl rfl (Nat.le_of_ble_eq_true rfl) rfl fl_X3_21 rfl rfl ?_
    refine g_iload_n C dX3_nextOf_12 1 rfl rfl ?_
    have hi13 := hw.1
    replace hw := hw.2
    refine g_iald (f := t_nx) C dX3_nextOf_13 0 4 rfl rfl 0 rfl hi13 rfl ?_
    refine g_goto (pc' := 18) C dX3_nextOf_14 (by decide) rfl ?_
    exact hret 18 (t_nx (p1).toNatClampNeg) () _ dX3_nextOf_18 hw
set_option maxRecDepth 100000 in
theorem c_X3_nextOf (l : Launch) (D : va_G) (cI cQ : ClassId) (a : Nat → Nat) (t : PT) (p1 : Int32) (post : Int32 → Prop) (sz : Nat) : Met l yX3_nextOf (wsY yX3_nextOf cX3_nextOf 2 (some .int)) (rmL 1 0 0 21) (xP D (tyL cI cQ) [.ref (a 0), .int p1] [gPar cI a t] sz (p_X3_nextOf t p1 post)) (xQi D (tyL cI cQ) (fun (r : Int32) (_ : Unit) => post r) (fun (u : Unit) => [gPar cI a t]) (va_A [gPar cI a t].flatten sz)) 0 0 (va_A [gPar cI a t].flatten sz) :=
  Met_i pn_X3 (Nat.le_of_ble_eq_true rfl) (fun p e s mi below meth co A Q _ C hret hw => w_X3_nextOf a t p1 C hret hw)
theorem kV_X3_nextOf : Cond.instanceMethod yX3_nextOf ∈ gTbl ∧ Cond.selects yX3_nextOf.cls yX3_nextOf yX3_nextOf ∈ gTbl ∧ Cond.initialized yX3_nextOf.cls ∈ gTbl ∧ Cond.code yX3_nextOf cX3_nextOf 2 (some .int) ∈ gTbl ∧ (yX3_nextOf.cls ≠ "java/lang/invoke/MethodHandle" ∧ yX3_nextOf.cls ≠ "java/lang/invoke/VarHandle" ∧ (parseMethodDescriptor yX3_nextOf.desc).map (fun d => d.parameters.length) = some 1) := ⟨im_X3_nextOf, sl_X3_nextOf, in_X3, cd_X3_nextOf, (by decide +kernel)⟩
set_option maxRecDepth 100000 in
def p_X3_isBlocked (t : PT) (p1 : Int32) (post : Int32 → Prop) : Prop := (fun (t_kd : F1) (t_fg : F1) (t_hd : F1) (t_nx : F1) (t_bu : Int32) (t_st : Int32) (t_we : Int32) (t_cu : Int32) (t_ho : Int32) (t_dr : Int32) => p_X3_there (t_kd, t_fg, t_hd, t_nx, t_bu, t_st, t_we, t_cu, t_ho, t_dr) p1 (fun (r1 : Int32) => ((r1 = 0 → post (0 : Int32)) ∧ (¬ r1 = 0 → ((((t_st >>> (p1 &&& 31)) &&& (1 : Int32)) = (1 : Int32) → post (1 : Int32)) ∧ (¬ ((t_st >>> (p1 &&& 31)) &&& (1 : Int32)) = (1 : Int32) → post (0 : Int32))))))) t.1 t.2.1 t.2.2.1 t.2.2.2.1 t.2.2.2.2.1 t.2.2.2.2.2.1 t.2.2.2.2.2.2.1 t.2.2.2.2.2.2.2.1 t.2.2.2.2.2.2.2.2.1 t.2.2.2.2.2.2.2.2.2
set_option maxHeartbeats 4000000 in
set_option maxRecDepth 100000 in
theorem w_X3_isBlocked {p : Program} {l : Launch} {e : Env} {s : State} {mi : MethodId} {args : Array Value} {below : List Frame} {meth : Method} {co : Code} {D : va_G} {cI cQ : ClassId} {A : Nat → Prop} {Q : State → Prop} (a : Nat → Nat) (t : PT) (p1 : Int32) {post : Int32 → Prop} (C : xC p s mi args co cX3_isBlocked RX3 2 D (tyL cI cQ) A) (hret : ∀ (pc : Nat) (r : Int32) (u : Unit) (lv : List (Nat × Value)), decode cX3_isBlocked pc = .ok (.ireturn, 1) → bz r → post r → xG p l e (rmL 1 0 0 21) s mi args below meth co D A 2 Q 0 0 pc [.int r] [gPar cI a t] lv) (hw : p_X3_isBlocked t p1 post) : xG p l e (rmL 1 0 0 21) s mi args below meth co D A 2 Q 0 0 0 [] [gPar cI a t] [(0, .ref (a 0)), (1, .int p1)] := by
  unfold p_X3_isBlocked at hw
  obtain ⟨t_kd, t_fg, t_hd, t_nx, t_bu, t_st, t_we, t_cu, t_ho, t_dr⟩ := t
  try dsimp only at hw
  show xG p l e (rmL 1 0 0 21) s mi args below meth co D A 2 Q 0 0 0 [] [gPar cI a (t_kd, t_fg, t_hd, t_nx, t_bu, t_st, t_we, t_cu, t_ho, t_dr)] [(0, .ref (a 0)), (1, .int p1)]
  refine g_aload_n C dX3_isBlocked_0 0 rfl rfl ?_
  refine g_iload_n C dX3_isBlocked_1 1 rfl rfl ?_
  refine g_callVi (As := [.int p1]) (gr := []) C (c_X3_there l D cI cQ a (t_kd, t_fg, t_hd, t_nx, t_bu, t_st, t_we, t_cu, t_ho, t_dr) p1 _) dX3_isBlocked_2 ⟨ml_X3_46, kV_X3_there⟩ ⟨Nat.le_of_ble_eq_true rfl, Nat.le_of_ble_eq_true rfl⟩ ⟨Nat.le_refl _, Nat.le_refl _⟩ rfl rfl 0 0 rfl rfl [0] 1 rfl pma_0 rfl rfl rfl (Nat.le_of_ble_eq_true rfl) rfl (fun (u : Unit) => [gPar cI a (t_kd, t_fg, t_hd, t_nx, t_bu, t_st, t_we, t_cu, t_ho, t_dr)]) [0] 1 (fun _ => rfl) pma_0 (fun _ => rfl) hw (fun r1 u1 hw => ?_)
  refine g_if_eq (tgt := 24) C dX3_isBlocked_5 (by decide) rfl hw (fun _ hw => ?_) (fun _ hw => ?_)
  · refine g_iconst (v := 0) C dX3_isBlocked_24 rfl rfl ?_
    exact hret 25 (0 : Int32) () _ dX3_isBlocked_25 ⟨rfl, rfl⟩ hw
  · refine g_aload_n C dX3_isBlocked_8 0 rfl rfl ?_
    refine g_get (v := .int t_st) (ci := 2) C dX3_isBlocked_9 inw_X3 rfl 0 0 5 rfl rfl (Nat.le_of_ble_eq_true rfl) rfl fl_X3_34 rfl rfl ?_
    refine g_iload_n C dX3_isBlocked_12 1 rfl rfl ?_
    refine g_ishr C dX3_isBlocked_13 rfl ?_
    refine g_iconst (v := 1) C dX3_isBlocked_14 rfl rfl ?_
    refine g_iand C dX3_isBlocked_15 rfl ?_
    refine g_iconst (v := 1) C dX3_isBlocked_16 rfl rfl ?_
    refine g_icmp_ne (tgt := 24) C dX3_isBlocked_17 (by decide) rfl hw (fun _ hw => ?_) (fun _ hw => ?_)
    · refine g_iconst (v := 0) C dX3_isBlocked_24 rfl rfl ?_
      exact hret 25 (0 : Int32) () _ dX3_isBlocked_25 ⟨rfl, rfl⟩ hw
    · refine g_iconst (v := 1) C dX3_isBlocked_20 rfl rfl ?_
      refine g_goto (pc' := 25) C dX3_isBlocked_21 (by decide) rfl ?_
      exact hret 25 (1 : Int32) () _ dX3_isBlocked_25 ⟨rfl, rfl⟩ hw
set_option maxRecDepth 100000 in
theorem c_X3_isBlocked (l : Launch) (D : va_G) (cI cQ : ClassId) (a : Nat → Nat) (t : PT) (p1 : Int32) (post : Int32 → Prop) (sz : Nat) : Met l yX3_isBlocked (wsY yX3_isBlocked cX3_isBlocked 2 (some .boolean)) (rmL 1 0 0 21) (xP D (tyL cI cQ) [.ref (a 0), .int p1] [gPar cI a t] sz (p_X3_isBlocked t p1 post)) (xQi D (tyL cI cQ) (fun (r : Int32) (_ : Unit) => post r) (fun (u : Unit) => [gPar cI a t]) (va_A [gPar cI a t].flatten sz)) 0 0 (va_A [gPar cI a t].flatten sz) :=
  Met_z pn_X3 (Nat.le_of_ble_eq_true rfl) (fun p e s mi below meth co A Q _ C hret hw => w_X3_isBlocked a t p1 C hret hw)
theorem kV_X3_isBlocked : Cond.instanceMethod yX3_isBlocked ∈ gTbl ∧ Cond.selects yX3_isBlocked.cls yX3_isBlocked yX3_isBlocked ∈ gTbl ∧ Cond.initialized yX3_isBlocked.cls ∈ gTbl ∧ Cond.code yX3_isBlocked cX3_isBlocked 2 (some .boolean) ∈ gTbl ∧ (yX3_isBlocked.cls ≠ "java/lang/invoke/MethodHandle" ∧ yX3_isBlocked.cls ≠ "java/lang/invoke/VarHandle" ∧ (parseMethodDescriptor yX3_isBlocked.desc).map (fun d => d.parameters.length) = some 1) := ⟨im_X3_isBlocked, sl_X3_isBlocked, in_X3, cd_X3_isBlocked, (by decide +kernel)⟩
set_option maxRecDepth 100000 in
def p_X3_isWet (t : PT) (p1 : Int32) (post : Int32 → Prop) : Prop := (fun (t_kd : F1) (t_fg : F1) (t_hd : F1) (t_nx : F1) (t_bu : Int32) (t_st : Int32) (t_we : Int32) (t_cu : Int32) (t_ho : Int32) (t_dr : Int32) => p_X3_there (t_kd, t_fg, t_hd, t_nx, t_bu, t_st, t_we, t_cu, t_ho, t_dr) p1 (fun (r1 : Int32) => ((r1 = 0 → post (0 : Int32)) ∧ (¬ r1 = 0 → ((((t_we >>> (p1 &&& 31)) &&& (1 : Int32)) = (1 : Int32) → post (1 : Int32)) ∧ (¬ ((t_we >>> (p1 &&& 31)) &&& (1 : Int32)) = (1 : Int32) → post (0 : Int32))))))) t.1 t.2.1 t.2.2.1 t.2.2.2.1 t.2.2.2.2.1 t.2.2.2.2.2.1 t.2.2.2.2.2.2.1 t.2.2.2.2.2.2.2.1 t.2.2.2.2.2.2.2.2.1 t.2.2.2.2.2.2.2.2.2
set_option maxHeartbeats 4000000 in
set_option maxRecDepth 100000 in
theorem w_X3_isWet {p : Program} {l : Launch} {e : Env} {s : State} {mi : MethodId} {args : Array Value} {below : List Frame} {meth : Method} {co : Code} {D : va_G} {cI cQ : ClassId} {A : Nat → Prop} {Q : State → Prop} (a : Nat → Nat) (t : PT) (p1 : Int32) {post : Int32 → Prop} (C : xC p s mi args co cX3_isWet RX3 2 D (tyL cI cQ) A) (hret : ∀ (pc : Nat) (r : Int32) (u : Unit) (lv : List (Nat × Value)), decode cX3_isWet pc = .ok (.ireturn, 1) → bz r → post r → xG p l e (rmL 1 0 0 21) s mi args below meth co D A 2 Q 0 0 pc [.int r] [gPar cI a t] lv) (hw : p_X3_isWet t p1 post) : xG p l e (rmL 1 0 0 21) s mi args below meth co D A 2 Q 0 0 0 [] [gPar cI a t] [(0, .ref (a 0)), (1, .int p1)] := by
  unfold p_X3_isWet at hw
  obtain ⟨t_kd, t_fg, t_hd, t_nx, t_bu, t_st, t_we, t_cu, t_ho, t_dr⟩ := t
  try dsimp only at hw
  show xG p l e (rmL 1 0 0 21) s mi args below meth co D A 2 Q 0 0 0 [] [gPar cI a (t_kd, t_fg, t_hd, t_nx, t_bu, t_st, t_we, t_cu, t_ho, t_dr)] [(0, .ref (a 0)), (1, .int p1)]
  refine g_aload_n C dX3_isWet_0 0 rfl rfl ?_
  refine g_iload_n C dX3_isWet_1 1 rfl rfl ?_
  refine g_callVi (As := [.int p1]) (gr := []) C (c_X3_there l D cI cQ a (t_kd, t_fg, t_hd, t_nx, t_bu, t_st, t_we, t_cu, t_ho, t_dr) p1 _) dX3_isWet_2 ⟨ml_X3_46, kV_X3_there⟩ ⟨Nat.le_of_ble_eq_true rfl, Nat.le_of_ble_eq_true rfl⟩ ⟨Nat.le_refl _, Nat.le_refl _⟩ rfl rfl 0 0 rfl rfl [0] 1 rfl pma_0 rfl rfl rfl (Nat.le_of_ble_eq_true rfl) rfl (fun (u : Unit) => [gPar cI a (t_kd, t_fg, t_hd, t_nx, t_bu, t_st, t_we, t_cu, t_ho, t_dr)]) [0] 1 (fun _ => rfl) pma_0 (fun _ => rfl) hw (fun r1 u1 hw => ?_)
  refine g_if_eq (tgt := 24) C dX3_isWet_5 (by decide) rfl hw (fun _ hw => ?_) (fun _ hw => ?_)
  · refine g_iconst (v := 0) C dX3_isWet_24 rfl rfl ?_
    exact hret 25 (0 : Int32) () _ dX3_isWet_25 ⟨rfl, rfl⟩ hw
  · refine g_aload_n C dX3_isWet_8 0 rfl rfl ?_
    refine g_get (v := .int t_we) (ci := 2) C dX3_isWet_9 inw_X3 rfl 0 0 6 rfl rfl (Nat.le_of_ble_eq_true rfl) rfl fl_X3_37 rfl rfl ?_
    refine g_iload_n C dX3_isWet_12 1 rfl rfl ?_
    refine g_ishr C dX3_isWet_13 rfl ?_
    refine g_iconst (v := 1) C dX3_isWet_14 rfl rfl ?_
    refine g_iand C dX3_isWet_15 rfl ?_
    refine g_iconst (v := 1) C dX3_isWet_16 rfl rfl ?_
    refine g_icmp_ne (tgt := 24) C dX3_isWet_17 (by decide) rfl hw (fun _ hw => ?_) (fun _ hw => ?_)
    · refine g_iconst (v := 0) C dX3_isWet_24 rfl rfl ?_
      exact hret 25 (0 : Int32) () _ dX3_isWet_25 ⟨rfl, rfl⟩ hw
    · refine g_iconst (v := 1) C dX3_isWet_20 rfl rfl ?_
      refine g_goto (pc' := 25) C dX3_isWet_21 (by decide) rfl ?_
      exact hret 25 (1 : Int32) () _ dX3_isWet_25 ⟨rfl, rfl⟩ hw
set_option maxRecDepth 100000 in
theorem c_X3_isWet (l : Launch) (D : va_G) (cI cQ : ClassId) (a : Nat → Nat) (t : PT) (p1 : Int32) (post : Int32 → Prop) (sz : Nat) : Met l yX3_isWet (wsY yX3_isWet cX3_isWet 2 (some .boolean)) (rmL 1 0 0 21) (xP D (tyL cI cQ) [.ref (a 0), .int p1] [gPar cI a t] sz (p_X3_isWet t p1 post)) (xQi D (tyL cI cQ) (fun (r : Int32) (_ : Unit) => post r) (fun (u : Unit) => [gPar cI a t]) (va_A [gPar cI a t].flatten sz)) 0 0 (va_A [gPar cI a t].flatten sz) :=
  Met_z pn_X3 (Nat.le_of_ble_eq_true rfl) (fun p e s mi below meth co A Q _ C hret hw => w_X3_isWet a t p1 C hret hw)
theorem kV_X3_isWet : Cond.instanceMethod yX3_isWet ∈ gTbl ∧ Cond.selects yX3_isWet.cls yX3_isWet yX3_isWet ∈ gTbl ∧ Cond.initialized yX3_isWet.cls ∈ gTbl ∧ Cond.code yX3_isWet cX3_isWet 2 (some .boolean) ∈ gTbl ∧ (yX3_isWet.cls ≠ "java/lang/invoke/MethodHandle" ∧ yX3_isWet.cls ≠ "java/lang/invoke/VarHandle" ∧ (parseMethodDescriptor yX3_isWet.desc).map (fun d => d.parameters.length) = some 1) := ⟨im_X3_isWet, sl_X3_isWet, in_X3, cd_X3_isWet, (by decide +kernel)⟩
set_option maxRecDepth 100000 in
def p_X3_letsThrough (t : PT) (p1 : Int32) (post : Int32 → Prop) : Prop := (fun (t_kd : F1) (t_fg : F1) (t_hd : F1) (t_nx : F1) (t_bu : Int32) (t_st : Int32) (t_we : Int32) (t_cu : Int32) (t_ho : Int32) (t_dr : Int32) => p_X3_there (t_kd, t_fg, t_hd, t_nx, t_bu, t_st, t_we, t_cu, t_ho, t_dr) p1 (fun (r1 : Int32) => ((r1 = 0 → post (0 : Int32)) ∧ (¬ r1 = 0 → (vp_in p1 9 ∧ (vp_in p1 9 ∧ (vp_in p1 9 ∧ p_X0_letsThrough (t_kd (p1).toNatClampNeg) (t_fg (p1).toNatClampNeg) (t_hd (p1).toNatClampNeg) (fun (r2 : Int32) => post r2)))))))) t.1 t.2.1 t.2.2.1 t.2.2.2.1 t.2.2.2.2.1 t.2.2.2.2.2.1 t.2.2.2.2.2.2.1 t.2.2.2.2.2.2.2.1 t.2.2.2.2.2.2.2.2.1 t.2.2.2.2.2.2.2.2.2
set_option maxHeartbeats 4000000 in
set_option maxRecDepth 100000 in
theorem w_X3_letsThrough {p : Program} {l : Launch} {e : Env} {s : State} {mi : MethodId} {args : Array Value} {below : List Frame} {meth : Method} {co : Code} {D : va_G} {cI cQ : ClassId} {A : Nat → Prop} {Q : State → Prop} (a : Nat → Nat) (t : PT) (p1 : Int32) {post : Int32 → Prop} (C : xC p s mi args co cX3_letsThrough RX3 2 D (tyL cI cQ) A) (hret : ∀ (pc : Nat) (r : Int32) (u : Unit) (lv : List (Nat × Value)), decode cX3_letsThrough pc = .ok (.ireturn, 1) → post r → xG p l e (rmL 2 0 0 46) s mi args below meth co D A 2 Q 0 0 pc [.int r] [gPar cI a t] lv) (hw : p_X3_letsThrough t p1 post) : xG p l e (rmL 2 0 0 46) s mi args below meth co D A 2 Q 0 0 0 [] [gPar cI a t] [(0, .ref (a 0)), (1, .int p1)] := by
  unfold p_X3_letsThrough at hw
  obtain ⟨t_kd, t_fg, t_hd, t_nx, t_bu, t_st, t_we, t_cu, t_ho, t_dr⟩ := t
  try dsimp only at hw
  show xG p l e (rmL 2 0 0 46) s mi args below meth co D A 2 Q 0 0 0 [] [gPar cI a (t_kd, t_fg, t_hd, t_nx, t_bu, t_st, t_we, t_cu, t_ho, t_dr)] [(0, .ref (a 0)), (1, .int p1)]
  refine g_aload_n C dX3_letsThrough_0 0 rfl rfl ?_
  refine g_iload_n C dX3_letsThrough_1 1 rfl rfl ?_
  refine g_callVi (As := [.int p1]) (gr := []) C (c_X3_there l D cI cQ a (t_kd, t_fg, t_hd, t_nx, t_bu, t_st, t_we, t_cu, t_ho, t_dr) p1 _) dX3_letsThrough_2 ⟨ml_X3_46, kV_X3_there⟩ ⟨Nat.le_of_ble_eq_true rfl, Nat.le_of_ble_eq_true rfl⟩ ⟨Nat.le_refl _, Nat.le_refl _⟩ rfl rfl 0 0 rfl rfl [0] 1 rfl pma_0 rfl rfl rfl (Nat.le_of_ble_eq_true rfl) rfl (fun (u : Unit) => [gPar cI a (t_kd, t_fg, t_hd, t_nx, t_bu, t_st, t_we, t_cu, t_ho, t_dr)]) [0] 1 (fun _ => rfl) pma_0 (fun _ => rfl) hw (fun r1 u1 hw => ?_)
  refine g_if_eq (tgt := 32) C dX3_letsThrough_5 (by decide) rfl hw (fun _ hw => ?_) (fun _ hw => ?_)
  · refine g_iconst (v := 0) C dX3_letsThrough_32 rfl rfl ?_
    exact hret 33 (0 : Int32) () _ dX3_letsThrough_33 hw
  · refine g_aload_n C dX3_letsThrough_8 0 rfl rfl ?_
    refine g_get (v := .ref (a 1)) (ci := 2) C dX3_letsThrough_9 inw_X3 rfl 0 0 0 rfl rfl (Nat.le_of_ble_eq_true rfl) rfl fl_X3_9 rfl rfl ?_
    refine g_iload_n C dX3_letsThrough_12 1 rfl rfl ?_
    have hi13 := hw.1
    replace hw := hw.2
    refine g_iald (f := t_kd) C dX3_letsThrough_13 0 1 rfl rfl 0 rfl hi13 rfl ?_
    refine g_aload_n C dX3_letsThrough_14 0 rfl rfl ?_
    refine g_get (v := .ref (a 2)) (ci := 2) C dX3_letsThrough_15 inw_X3 rfl 0 0 1 rfl rfl (Nat.le_of_ble_eq_true rfl) rfl fl_X3_15 rfl rfl ?_
    refine g_iload_n C dX3_letsThrough_18 1 rfl rfl ?_
    have hi19 := hw.1
    replace hw := hw.2
    refine g_iald (f := t_fg) C dX3_letsThrough_19 0 2 rfl rfl 0 rfl hi19 rfl ?_
    refine g_aload_n C dX3_letsThrough_20 0 rfl rfl ?_
    refine g_get (v := .ref (a 3)) (ci := 2) C dX3_letsThrough_21 inw_X3 rfl 0 0 2 rfl rfl (Nat.le_of_ble_eq_true rfl) rfl fl_X3_18 rfl rfl ?_
    refine g_iload_n C dX3_letsThrough_24 1 rfl rfl ?_
    have hi25 := hw.1
    replace hw := hw.2
    refine g_iald (f := t_hd) C dX3_letsThrough_25 0 3 rfl rfl 0 rfl hi25 rfl ?_
    refine g_callSi (As := [.int (t_kd (p1).toNatClampNeg), .int (t_fg (p1).toNatClampNeg), .int (t_hd (p1).toNatClampNeg)]) (gr := [gPar cI a (t_kd, t_fg, t_hd, t_nx, t_bu, t_st, t_we, t_cu, t_ho, t_dr)]) C (c_X0_letsThrough l D cI cQ   (t_kd (p1).toNatClampNeg) (t_fg (p1).toNatClampNeg) (t_hd (p1).toNatClampNeg) _) dX3_letsThrough_26 ⟨ml_X3_50, kS_X0_letsThrough⟩ ⟨Nat.le_of_ble_eq_true rfl, Nat.le_of_ble_eq_true rfl⟩ ⟨Nat.le_refl _, Nat.le_refl _⟩ [0] 1 rfl pma_0 rfl rfl rfl (Nat.le_of_ble_eq_true rfl) rfl (fun (u : Unit) => [gPar cI a (t_kd, t_fg, t_hd, t_nx, t_bu, t_st, t_we, t_cu, t_ho, t_dr)]) [0] 1 (fun _ => rfl) pma_0 (fun _ => rfl) hw (fun r2 u2 hw => ?_)
    refine g_goto (pc' := 33) C dX3_letsThrough_29 (by decide) rfl ?_
    exact hret 33 r2 () _ dX3_letsThrough_33 hw
set_option maxRecDepth 100000 in
theorem c_X3_letsThrough (l : Launch) (D : va_G) (cI cQ : ClassId) (a : Nat → Nat) (t : PT) (p1 : Int32) (post : Int32 → Prop) (sz : Nat) : Met l yX3_letsThrough (wsY yX3_letsThrough cX3_letsThrough 2 (some .int)) (rmL 2 0 0 46) (xP D (tyL cI cQ) [.ref (a 0), .int p1] [gPar cI a t] sz (p_X3_letsThrough t p1 post)) (xQi D (tyL cI cQ) (fun (r : Int32) (_ : Unit) => post r) (fun (u : Unit) => [gPar cI a t]) (va_A [gPar cI a t].flatten sz)) 0 0 (va_A [gPar cI a t].flatten sz) :=
  Met_i pn_X3 (Nat.le_of_ble_eq_true rfl) (fun p e s mi below meth co A Q _ C hret hw => w_X3_letsThrough a t p1 C hret hw)
theorem kV_X3_letsThrough : Cond.instanceMethod yX3_letsThrough ∈ gTbl ∧ Cond.selects yX3_letsThrough.cls yX3_letsThrough yX3_letsThrough ∈ gTbl ∧ Cond.initialized yX3_letsThrough.cls ∈ gTbl ∧ Cond.code yX3_letsThrough cX3_letsThrough 2 (some .int) ∈ gTbl ∧ (yX3_letsThrough.cls ≠ "java/lang/invoke/MethodHandle" ∧ yX3_letsThrough.cls ≠ "java/lang/invoke/VarHandle" ∧ (parseMethodDescriptor yX3_letsThrough.desc).map (fun d => d.parameters.length) = some 1) := ⟨im_X3_letsThrough, sl_X3_letsThrough, in_X3, cd_X3_letsThrough, (by decide +kernel)⟩
set_option maxRecDepth 100000 in
def p_X3_allBits (t : PT) (post : Int32 → Prop) : Prop := (fun (t_kd : F1) (t_fg : F1) (t_hd : F1) (t_nx : F1) (t_bu : Int32) (t_st : Int32) (t_we : Int32) (t_cu : Int32) (t_ho : Int32) (t_dr : Int32) => post (((1 : Int32) <<< (t_bu &&& 31)) - (1 : Int32))) t.1 t.2.1 t.2.2.1 t.2.2.2.1 t.2.2.2.2.1 t.2.2.2.2.2.1 t.2.2.2.2.2.2.1 t.2.2.2.2.2.2.2.1 t.2.2.2.2.2.2.2.2.1 t.2.2.2.2.2.2.2.2.2
set_option maxHeartbeats 4000000 in
set_option maxRecDepth 100000 in
theorem w_X3_allBits {p : Program} {l : Launch} {e : Env} {s : State} {mi : MethodId} {args : Array Value} {below : List Frame} {meth : Method} {co : Code} {D : va_G} {cI cQ : ClassId} {A : Nat → Prop} {Q : State → Prop} (a : Nat → Nat) (t : PT) {post : Int32 → Prop} (C : xC p s mi args co cX3_allBits RX3 1 D (tyL cI cQ) A) (hret : ∀ (pc : Nat) (r : Int32) (u : Unit) (lv : List (Nat × Value)), decode cX3_allBits pc = .ok (.ireturn, 1) → post r → xG p l e (rmL 0 0 0 0) s mi args below meth co D A 1 Q 0 0 pc [.int r] [gPar cI a t] lv) (hw : p_X3_allBits t post) : xG p l e (rmL 0 0 0 0) s mi args below meth co D A 1 Q 0 0 0 [] [gPar cI a t] [(0, .ref (a 0))] := by
  unfold p_X3_allBits at hw
  obtain ⟨t_kd, t_fg, t_hd, t_nx, t_bu, t_st, t_we, t_cu, t_ho, t_dr⟩ := t
  try dsimp only at hw
  show xG p l e (rmL 0 0 0 0) s mi args below meth co D A 1 Q 0 0 0 [] [gPar cI a (t_kd, t_fg, t_hd, t_nx, t_bu, t_st, t_we, t_cu, t_ho, t_dr)] [(0, .ref (a 0))]
  refine g_iconst (v := 1) C dX3_allBits_0 rfl rfl ?_
  refine g_aload_n C dX3_allBits_1 0 rfl rfl ?_
  refine g_get (v := .int t_bu) (ci := 2) C dX3_allBits_2 inw_X3 rfl 0 0 4 rfl rfl (Nat.le_of_ble_eq_true rfl) rfl fl_X3_30 rfl rfl ?_
  refine g_ishl C dX3_allBits_5 rfl ?_
  refine g_iconst (v := 1) C dX3_allBits_6 rfl rfl ?_
  refine g_isub C dX3_allBits_7 rfl ?_
  exact hret 8 (((1 : Int32) <<< (t_bu &&& 31)) - (1 : Int32)) () _ dX3_allBits_8 hw
set_option maxRecDepth 100000 in
theorem c_X3_allBits (l : Launch) (D : va_G) (cI cQ : ClassId) (a : Nat → Nat) (t : PT) (post : Int32 → Prop) (sz : Nat) : Met l yX3_allBits (wsY yX3_allBits cX3_allBits 1 (some .int)) (rmL 0 0 0 0) (xP D (tyL cI cQ) [.ref (a 0)] [gPar cI a t] sz (p_X3_allBits t post)) (xQi D (tyL cI cQ) (fun (r : Int32) (_ : Unit) => post r) (fun (u : Unit) => [gPar cI a t]) (va_A [gPar cI a t].flatten sz)) 0 0 (va_A [gPar cI a t].flatten sz) :=
  Met_i pn_X3 (Nat.le_of_ble_eq_true rfl) (fun p e s mi below meth co A Q _ C hret hw => w_X3_allBits a t C hret hw)
theorem kV_X3_allBits : Cond.instanceMethod yX3_allBits ∈ gTbl ∧ Cond.selects yX3_allBits.cls yX3_allBits yX3_allBits ∈ gTbl ∧ Cond.initialized yX3_allBits.cls ∈ gTbl ∧ Cond.code yX3_allBits cX3_allBits 1 (some .int) ∈ gTbl ∧ (yX3_allBits.cls ≠ "java/lang/invoke/MethodHandle" ∧ yX3_allBits.cls ≠ "java/lang/invoke/VarHandle" ∧ (parseMethodDescriptor yX3_allBits.desc).map (fun d => d.parameters.length) = some 0) := ⟨im_X3_allBits, sl_X3_allBits, in_X3, cd_X3_allBits, (by decide +kernel)⟩
set_option maxRecDepth 100000 in
def p_X3_blockedBits (t : PT) (post : Int32 → Prop) : Prop := (fun (t_kd : F1) (t_fg : F1) (t_hd : F1) (t_nx : F1) (t_bu : Int32) (t_st : Int32) (t_we : Int32) (t_cu : Int32) (t_ho : Int32) (t_dr : Int32) => post t_st) t.1 t.2.1 t.2.2.1 t.2.2.2.1 t.2.2.2.2.1 t.2.2.2.2.2.1 t.2.2.2.2.2.2.1 t.2.2.2.2.2.2.2.1 t.2.2.2.2.2.2.2.2.1 t.2.2.2.2.2.2.2.2.2
set_option maxHeartbeats 4000000 in
set_option maxRecDepth 100000 in
theorem w_X3_blockedBits {p : Program} {l : Launch} {e : Env} {s : State} {mi : MethodId} {args : Array Value} {below : List Frame} {meth : Method} {co : Code} {D : va_G} {cI cQ : ClassId} {A : Nat → Prop} {Q : State → Prop} (a : Nat → Nat) (t : PT) {post : Int32 → Prop} (C : xC p s mi args co cX3_blockedBits RX3 1 D (tyL cI cQ) A) (hret : ∀ (pc : Nat) (r : Int32) (u : Unit) (lv : List (Nat × Value)), decode cX3_blockedBits pc = .ok (.ireturn, 1) → post r → xG p l e (rmL 0 0 0 0) s mi args below meth co D A 1 Q 0 0 pc [.int r] [gPar cI a t] lv) (hw : p_X3_blockedBits t post) : xG p l e (rmL 0 0 0 0) s mi args below meth co D A 1 Q 0 0 0 [] [gPar cI a t] [(0, .ref (a 0))] := by
  unfold p_X3_blockedBits at hw
  obtain ⟨t_kd, t_fg, t_hd, t_nx, t_bu, t_st, t_we, t_cu, t_ho, t_dr⟩ := t
  try dsimp only at hw
  show xG p l e (rmL 0 0 0 0) s mi args below meth co D A 1 Q 0 0 0 [] [gPar cI a (t_kd, t_fg, t_hd, t_nx, t_bu, t_st, t_we, t_cu, t_ho, t_dr)] [(0, .ref (a 0))]
  refine g_aload_n C dX3_blockedBits_0 0 rfl rfl ?_
  refine g_get (v := .int t_st) (ci := 2) C dX3_blockedBits_1 inw_X3 rfl 0 0 5 rfl rfl (Nat.le_of_ble_eq_true rfl) rfl fl_X3_34 rfl rfl ?_
  exact hret 4 t_st () _ dX3_blockedBits_4 hw
set_option maxRecDepth 100000 in
theorem c_X3_blockedBits (l : Launch) (D : va_G) (cI cQ : ClassId) (a : Nat → Nat) (t : PT) (post : Int32 → Prop) (sz : Nat) : Met l yX3_blockedBits (wsY yX3_blockedBits cX3_blockedBits 1 (some .int)) (rmL 0 0 0 0) (xP D (tyL cI cQ) [.ref (a 0)] [gPar cI a t] sz (p_X3_blockedBits t post)) (xQi D (tyL cI cQ) (fun (r : Int32) (_ : Unit) => post r) (fun (u : Unit) => [gPar cI a t]) (va_A [gPar cI a t].flatten sz)) 0 0 (va_A [gPar cI a t].flatten sz) :=
  Met_i pn_X3 (Nat.le_of_ble_eq_true rfl) (fun p e s mi below meth co A Q _ C hret hw => w_X3_blockedBits a t C hret hw)
theorem kV_X3_blockedBits : Cond.instanceMethod yX3_blockedBits ∈ gTbl ∧ Cond.selects yX3_blockedBits.cls yX3_blockedBits yX3_blockedBits ∈ gTbl ∧ Cond.initialized yX3_blockedBits.cls ∈ gTbl ∧ Cond.code yX3_blockedBits cX3_blockedBits 1 (some .int) ∈ gTbl ∧ (yX3_blockedBits.cls ≠ "java/lang/invoke/MethodHandle" ∧ yX3_blockedBits.cls ≠ "java/lang/invoke/VarHandle" ∧ (parseMethodDescriptor yX3_blockedBits.desc).map (fun d => d.parameters.length) = some 0) := ⟨im_X3_blockedBits, sl_X3_blockedBits, in_X3, cd_X3_blockedBits, (by decide +kernel)⟩
set_option maxRecDepth 100000 in
def p_X3_wetBits (t : PT) (post : Int32 → Prop) : Prop := (fun (t_kd : F1) (t_fg : F1) (t_hd : F1) (t_nx : F1) (t_bu : Int32) (t_st : Int32) (t_we : Int32) (t_cu : Int32) (t_ho : Int32) (t_dr : Int32) => post t_we) t.1 t.2.1 t.2.2.1 t.2.2.2.1 t.2.2.2.2.1 t.2.2.2.2.2.1 t.2.2.2.2.2.2.1 t.2.2.2.2.2.2.2.1 t.2.2.2.2.2.2.2.2.1 t.2.2.2.2.2.2.2.2.2
set_option maxHeartbeats 4000000 in
set_option maxRecDepth 100000 in
theorem w_X3_wetBits {p : Program} {l : Launch} {e : Env} {s : State} {mi : MethodId} {args : Array Value} {below : List Frame} {meth : Method} {co : Code} {D : va_G} {cI cQ : ClassId} {A : Nat → Prop} {Q : State → Prop} (a : Nat → Nat) (t : PT) {post : Int32 → Prop} (C : xC p s mi args co cX3_wetBits RX3 1 D (tyL cI cQ) A) (hret : ∀ (pc : Nat) (r : Int32) (u : Unit) (lv : List (Nat × Value)), decode cX3_wetBits pc = .ok (.ireturn, 1) → post r → xG p l e (rmL 0 0 0 0) s mi args below meth co D A 1 Q 0 0 pc [.int r] [gPar cI a t] lv) (hw : p_X3_wetBits t post) : xG p l e (rmL 0 0 0 0) s mi args below meth co D A 1 Q 0 0 0 [] [gPar cI a t] [(0, .ref (a 0))] := by
  unfold p_X3_wetBits at hw
  obtain ⟨t_kd, t_fg, t_hd, t_nx, t_bu, t_st, t_we, t_cu, t_ho, t_dr⟩ := t
  try dsimp only at hw
  show xG p l e (rmL 0 0 0 0) s mi args below meth co D A 1 Q 0 0 0 [] [gPar cI a (t_kd, t_fg, t_hd, t_nx, t_bu, t_st, t_we, t_cu, t_ho, t_dr)] [(0, .ref (a 0))]
  refine g_aload_n C dX3_wetBits_0 0 rfl rfl ?_
  refine g_get (v := .int t_we) (ci := 2) C dX3_wetBits_1 inw_X3 rfl 0 0 6 rfl rfl (Nat.le_of_ble_eq_true rfl) rfl fl_X3_37 rfl rfl ?_
  exact hret 4 t_we () _ dX3_wetBits_4 hw
set_option maxRecDepth 100000 in
theorem c_X3_wetBits (l : Launch) (D : va_G) (cI cQ : ClassId) (a : Nat → Nat) (t : PT) (post : Int32 → Prop) (sz : Nat) : Met l yX3_wetBits (wsY yX3_wetBits cX3_wetBits 1 (some .int)) (rmL 0 0 0 0) (xP D (tyL cI cQ) [.ref (a 0)] [gPar cI a t] sz (p_X3_wetBits t post)) (xQi D (tyL cI cQ) (fun (r : Int32) (_ : Unit) => post r) (fun (u : Unit) => [gPar cI a t]) (va_A [gPar cI a t].flatten sz)) 0 0 (va_A [gPar cI a t].flatten sz) :=
  Met_i pn_X3 (Nat.le_of_ble_eq_true rfl) (fun p e s mi below meth co A Q _ C hret hw => w_X3_wetBits a t C hret hw)
theorem kV_X3_wetBits : Cond.instanceMethod yX3_wetBits ∈ gTbl ∧ Cond.selects yX3_wetBits.cls yX3_wetBits yX3_wetBits ∈ gTbl ∧ Cond.initialized yX3_wetBits.cls ∈ gTbl ∧ Cond.code yX3_wetBits cX3_wetBits 1 (some .int) ∈ gTbl ∧ (yX3_wetBits.cls ≠ "java/lang/invoke/MethodHandle" ∧ yX3_wetBits.cls ≠ "java/lang/invoke/VarHandle" ∧ (parseMethodDescriptor yX3_wetBits.desc).map (fun d => d.parameters.length) = some 0) := ⟨im_X3_wetBits, sl_X3_wetBits, in_X3, cd_X3_wetBits, (by decide +kernel)⟩
set_option maxRecDepth 100000 in
def p_X3_inCup (t : PT) (post : Int32 → Prop) : Prop := (fun (t_kd : F1) (t_fg : F1) (t_hd : F1) (t_nx : F1) (t_bu : Int32) (t_st : Int32) (t_we : Int32) (t_cu : Int32) (t_ho : Int32) (t_dr : Int32) => post t_cu) t.1 t.2.1 t.2.2.1 t.2.2.2.1 t.2.2.2.2.1 t.2.2.2.2.2.1 t.2.2.2.2.2.2.1 t.2.2.2.2.2.2.2.1 t.2.2.2.2.2.2.2.2.1 t.2.2.2.2.2.2.2.2.2
set_option maxHeartbeats 4000000 in
set_option maxRecDepth 100000 in
theorem w_X3_inCup {p : Program} {l : Launch} {e : Env} {s : State} {mi : MethodId} {args : Array Value} {below : List Frame} {meth : Method} {co : Code} {D : va_G} {cI cQ : ClassId} {A : Nat → Prop} {Q : State → Prop} (a : Nat → Nat) (t : PT) {post : Int32 → Prop} (C : xC p s mi args co cX3_inCup RX3 1 D (tyL cI cQ) A) (hret : ∀ (pc : Nat) (r : Int32) (u : Unit) (lv : List (Nat × Value)), decode cX3_inCup pc = .ok (.ireturn, 1) → post r → xG p l e (rmL 0 0 0 0) s mi args below meth co D A 1 Q 0 0 pc [.int r] [gPar cI a t] lv) (hw : p_X3_inCup t post) : xG p l e (rmL 0 0 0 0) s mi args below meth co D A 1 Q 0 0 0 [] [gPar cI a t] [(0, .ref (a 0))] := by
  unfold p_X3_inCup at hw
  obtain ⟨t_kd, t_fg, t_hd, t_nx, t_bu, t_st, t_we, t_cu, t_ho, t_dr⟩ := t
  try dsimp only at hw
  show xG p l e (rmL 0 0 0 0) s mi args below meth co D A 1 Q 0 0 0 [] [gPar cI a (t_kd, t_fg, t_hd, t_nx, t_bu, t_st, t_we, t_cu, t_ho, t_dr)] [(0, .ref (a 0))]
  refine g_aload_n C dX3_inCup_0 0 rfl rfl ?_
  refine g_get (v := .int t_cu) (ci := 2) C dX3_inCup_1 inw_X3 rfl 0 0 7 rfl rfl (Nat.le_of_ble_eq_true rfl) rfl fl_X3_40 rfl rfl ?_
  exact hret 4 t_cu () _ dX3_inCup_4 hw
set_option maxRecDepth 100000 in
theorem c_X3_inCup (l : Launch) (D : va_G) (cI cQ : ClassId) (a : Nat → Nat) (t : PT) (post : Int32 → Prop) (sz : Nat) : Met l yX3_inCup (wsY yX3_inCup cX3_inCup 1 (some .int)) (rmL 0 0 0 0) (xP D (tyL cI cQ) [.ref (a 0)] [gPar cI a t] sz (p_X3_inCup t post)) (xQi D (tyL cI cQ) (fun (r : Int32) (_ : Unit) => post r) (fun (u : Unit) => [gPar cI a t]) (va_A [gPar cI a t].flatten sz)) 0 0 (va_A [gPar cI a t].flatten sz) :=
  Met_i pn_X3 (Nat.le_of_ble_eq_true rfl) (fun p e s mi below meth co A Q _ C hret hw => w_X3_inCup a t C hret hw)
theorem kV_X3_inCup : Cond.instanceMethod yX3_inCup ∈ gTbl ∧ Cond.selects yX3_inCup.cls yX3_inCup yX3_inCup ∈ gTbl ∧ Cond.initialized yX3_inCup.cls ∈ gTbl ∧ Cond.code yX3_inCup cX3_inCup 1 (some .int) ∈ gTbl ∧ (yX3_inCup.cls ≠ "java/lang/invoke/MethodHandle" ∧ yX3_inCup.cls ≠ "java/lang/invoke/VarHandle" ∧ (parseMethodDescriptor yX3_inCup.desc).map (fun d => d.parameters.length) = some 0) := ⟨im_X3_inCup, sl_X3_inCup, in_X3, cd_X3_inCup, (by decide +kernel)⟩
set_option maxRecDepth 100000 in
def p_X3_hour (t : PT) (post : Int32 → Prop) : Prop := (fun (t_kd : F1) (t_fg : F1) (t_hd : F1) (t_nx : F1) (t_bu : Int32) (t_st : Int32) (t_we : Int32) (t_cu : Int32) (t_ho : Int32) (t_dr : Int32) => post t_ho) t.1 t.2.1 t.2.2.1 t.2.2.2.1 t.2.2.2.2.1 t.2.2.2.2.2.1 t.2.2.2.2.2.2.1 t.2.2.2.2.2.2.2.1 t.2.2.2.2.2.2.2.2.1 t.2.2.2.2.2.2.2.2.2
set_option maxHeartbeats 4000000 in
set_option maxRecDepth 100000 in
theorem w_X3_hour {p : Program} {l : Launch} {e : Env} {s : State} {mi : MethodId} {args : Array Value} {below : List Frame} {meth : Method} {co : Code} {D : va_G} {cI cQ : ClassId} {A : Nat → Prop} {Q : State → Prop} (a : Nat → Nat) (t : PT) {post : Int32 → Prop} (C : xC p s mi args co cX3_hour RX3 1 D (tyL cI cQ) A) (hret : ∀ (pc : Nat) (r : Int32) (u : Unit) (lv : List (Nat × Value)), decode cX3_hour pc = .ok (.ireturn, 1) → post r → xG p l e (rmL 0 0 0 0) s mi args below meth co D A 1 Q 0 0 pc [.int r] [gPar cI a t] lv) (hw : p_X3_hour t post) : xG p l e (rmL 0 0 0 0) s mi args below meth co D A 1 Q 0 0 0 [] [gPar cI a t] [(0, .ref (a 0))] := by
  unfold p_X3_hour at hw
  obtain ⟨t_kd, t_fg, t_hd, t_nx, t_bu, t_st, t_we, t_cu, t_ho, t_dr⟩ := t
  try dsimp only at hw
  show xG p l e (rmL 0 0 0 0) s mi args below meth co D A 1 Q 0 0 0 [] [gPar cI a (t_kd, t_fg, t_hd, t_nx, t_bu, t_st, t_we, t_cu, t_ho, t_dr)] [(0, .ref (a 0))]
  refine g_aload_n C dX3_hour_0 0 rfl rfl ?_
  refine g_get (v := .int t_ho) (ci := 2) C dX3_hour_1 inw_X3 rfl 0 0 8 rfl rfl (Nat.le_of_ble_eq_true rfl) rfl fl_X3_43 rfl rfl ?_
  exact hret 4 t_ho () _ dX3_hour_4 hw
set_option maxRecDepth 100000 in
theorem c_X3_hour (l : Launch) (D : va_G) (cI cQ : ClassId) (a : Nat → Nat) (t : PT) (post : Int32 → Prop) (sz : Nat) : Met l yX3_hour (wsY yX3_hour cX3_hour 1 (some .int)) (rmL 0 0 0 0) (xP D (tyL cI cQ) [.ref (a 0)] [gPar cI a t] sz (p_X3_hour t post)) (xQi D (tyL cI cQ) (fun (r : Int32) (_ : Unit) => post r) (fun (u : Unit) => [gPar cI a t]) (va_A [gPar cI a t].flatten sz)) 0 0 (va_A [gPar cI a t].flatten sz) :=
  Met_i pn_X3 (Nat.le_of_ble_eq_true rfl) (fun p e s mi below meth co A Q _ C hret hw => w_X3_hour a t C hret hw)
theorem kV_X3_hour : Cond.instanceMethod yX3_hour ∈ gTbl ∧ Cond.selects yX3_hour.cls yX3_hour yX3_hour ∈ gTbl ∧ Cond.initialized yX3_hour.cls ∈ gTbl ∧ Cond.code yX3_hour cX3_hour 1 (some .int) ∈ gTbl ∧ (yX3_hour.cls ≠ "java/lang/invoke/MethodHandle" ∧ yX3_hour.cls ≠ "java/lang/invoke/VarHandle" ∧ (parseMethodDescriptor yX3_hour.desc).map (fun d => d.parameters.length) = some 0) := ⟨im_X3_hour, sl_X3_hour, in_X3, cd_X3_hour, (by decide +kernel)⟩
set_option maxRecDepth 100000 in
def p_X3_hasTimeFor (t : PT) (p1 : Int32) (post : Int32 → Prop) : Prop := (fun (t_kd : F1) (t_fg : F1) (t_hd : F1) (t_nx : F1) (t_bu : Int32) (t_st : Int32) (t_we : Int32) (t_cu : Int32) (t_ho : Int32) (t_dr : Int32) => ((p1 < (1 : Int32) → post (0 : Int32)) ∧ (¬ p1 < (1 : Int32) → (((60 : Int32) < p1 → post (0 : Int32)) ∧ (¬ (60 : Int32) < p1 → ((((999 : Int32) - t_ho) < p1 → post (0 : Int32)) ∧ (¬ ((999 : Int32) - t_ho) < p1 → post (1 : Int32)))))))) t.1 t.2.1 t.2.2.1 t.2.2.2.1 t.2.2.2.2.1 t.2.2.2.2.2.1 t.2.2.2.2.2.2.1 t.2.2.2.2.2.2.2.1 t.2.2.2.2.2.2.2.2.1 t.2.2.2.2.2.2.2.2.2
set_option maxHeartbeats 4000000 in
set_option maxRecDepth 100000 in
theorem w_X3_hasTimeFor {p : Program} {l : Launch} {e : Env} {s : State} {mi : MethodId} {args : Array Value} {below : List Frame} {meth : Method} {co : Code} {D : va_G} {cI cQ : ClassId} {A : Nat → Prop} {Q : State → Prop} (a : Nat → Nat) (t : PT) (p1 : Int32) {post : Int32 → Prop} (C : xC p s mi args co cX3_hasTimeFor RX3 2 D (tyL cI cQ) A) (hret : ∀ (pc : Nat) (r : Int32) (u : Unit) (lv : List (Nat × Value)), decode cX3_hasTimeFor pc = .ok (.ireturn, 1) → bz r → post r → xG p l e (rmL 0 0 0 0) s mi args below meth co D A 2 Q 0 0 pc [.int r] [gPar cI a t] lv) (hw : p_X3_hasTimeFor t p1 post) : xG p l e (rmL 0 0 0 0) s mi args below meth co D A 2 Q 0 0 0 [] [gPar cI a t] [(0, .ref (a 0)), (1, .int p1)] := by
  unfold p_X3_hasTimeFor at hw
  obtain ⟨t_kd, t_fg, t_hd, t_nx, t_bu, t_st, t_we, t_cu, t_ho, t_dr⟩ := t
  try dsimp only at hw
  show xG p l e (rmL 0 0 0 0) s mi args below meth co D A 2 Q 0 0 0 [] [gPar cI a (t_kd, t_fg, t_hd, t_nx, t_bu, t_st, t_we, t_cu, t_ho, t_dr)] [(0, .ref (a 0)), (1, .int p1)]
  refine g_iload_n C dX3_hasTimeFor_0 1 rfl rfl ?_
  refine g_iconst (v := 1) C dX3_hasTimeFor_1 rfl rfl ?_
  refine g_icmp_lt (tgt := 27) C dX3_hasTimeFor_2 (by decide) rfl hw (fun _ hw => ?_) (fun _ hw => ?_)
  · refine g_iconst (v := 0) C dX3_hasTimeFor_27 rfl rfl ?_
    exact hret 28 (0 : Int32) () _ dX3_hasTimeFor_28 ⟨rfl, rfl⟩ hw
  · refine g_iload_n C dX3_hasTimeFor_5 1 rfl rfl ?_
    refine g_bipush (v := 60) C dX3_hasTimeFor_6 (by decide) rfl ?_
    refine g_icmp_gt (tgt := 27) C dX3_hasTimeFor_8 (by decide) rfl hw (fun _ hw => ?_) (fun _ hw => ?_)
    · refine g_iconst (v := 0) C dX3_hasTimeFor_27 rfl rfl ?_
      exact hret 28 (0 : Int32) () _ dX3_hasTimeFor_28 ⟨rfl, rfl⟩ hw
    · refine g_iload_n C dX3_hasTimeFor_11 1 rfl rfl ?_
      refine g_sipush (v := 999) C dX3_hasTimeFor_12 (by decide) rfl ?_
      refine g_aload_n C dX3_hasTimeFor_15 0 rfl rfl ?_
      refine g_get (v := .int t_ho) (ci := 2) C dX3_hasTimeFor_16 inw_X3 rfl 0 0 8 rfl rfl (Nat.le_of_ble_eq_true rfl) rfl fl_X3_43 rfl rfl ?_
      refine g_isub C dX3_hasTimeFor_19 rfl ?_
      refine g_icmp_gt (tgt := 27) C dX3_hasTimeFor_20 (by decide) rfl hw (fun _ hw => ?_) (fun _ hw => ?_)
      · refine g_iconst (v := 0) C dX3_hasTimeFor_27 rfl rfl ?_
        exact hret 28 (0 : Int32) () _ dX3_hasTimeFor_28 ⟨rfl, rfl⟩ hw
      · refine g_iconst (v := 1) C dX3_hasTimeFor_23 rfl rfl ?_
        refine g_goto (pc' := 28) C dX3_hasTimeFor_24 (by decide) rfl ?_
        exact hret 28 (1 : Int32) () _ dX3_hasTimeFor_28 ⟨rfl, rfl⟩ hw
set_option maxRecDepth 100000 in
theorem c_X3_hasTimeFor (l : Launch) (D : va_G) (cI cQ : ClassId) (a : Nat → Nat) (t : PT) (p1 : Int32) (post : Int32 → Prop) (sz : Nat) : Met l yX3_hasTimeFor (wsY yX3_hasTimeFor cX3_hasTimeFor 2 (some .boolean)) (rmL 0 0 0 0) (xP D (tyL cI cQ) [.ref (a 0), .int p1] [gPar cI a t] sz (p_X3_hasTimeFor t p1 post)) (xQi D (tyL cI cQ) (fun (r : Int32) (_ : Unit) => post r) (fun (u : Unit) => [gPar cI a t]) (va_A [gPar cI a t].flatten sz)) 0 0 (va_A [gPar cI a t].flatten sz) :=
  Met_z pn_X3 (Nat.le_of_ble_eq_true rfl) (fun p e s mi below meth co A Q _ C hret hw => w_X3_hasTimeFor a t p1 C hret hw)
theorem kV_X3_hasTimeFor : Cond.instanceMethod yX3_hasTimeFor ∈ gTbl ∧ Cond.selects yX3_hasTimeFor.cls yX3_hasTimeFor yX3_hasTimeFor ∈ gTbl ∧ Cond.initialized yX3_hasTimeFor.cls ∈ gTbl ∧ Cond.code yX3_hasTimeFor cX3_hasTimeFor 2 (some .boolean) ∈ gTbl ∧ (yX3_hasTimeFor.cls ≠ "java/lang/invoke/MethodHandle" ∧ yX3_hasTimeFor.cls ≠ "java/lang/invoke/VarHandle" ∧ (parseMethodDescriptor yX3_hasTimeFor.desc).map (fun d => d.parameters.length) = some 1) := ⟨im_X3_hasTimeFor, sl_X3_hasTimeFor, in_X3, cd_X3_hasTimeFor, (by decide +kernel)⟩
set_option maxRecDepth 100000 in
def p_X3_hasDripped (t : PT) (post : Int32 → Prop) : Prop := (fun (t_kd : F1) (t_fg : F1) (t_hd : F1) (t_nx : F1) (t_bu : Int32) (t_st : Int32) (t_we : Int32) (t_cu : Int32) (t_ho : Int32) (t_dr : Int32) => (bz t_dr ∧ post t_dr)) t.1 t.2.1 t.2.2.1 t.2.2.2.1 t.2.2.2.2.1 t.2.2.2.2.2.1 t.2.2.2.2.2.2.1 t.2.2.2.2.2.2.2.1 t.2.2.2.2.2.2.2.2.1 t.2.2.2.2.2.2.2.2.2
set_option maxHeartbeats 4000000 in
set_option maxRecDepth 100000 in
theorem w_X3_hasDripped {p : Program} {l : Launch} {e : Env} {s : State} {mi : MethodId} {args : Array Value} {below : List Frame} {meth : Method} {co : Code} {D : va_G} {cI cQ : ClassId} {A : Nat → Prop} {Q : State → Prop} (a : Nat → Nat) (t : PT) {post : Int32 → Prop} (C : xC p s mi args co cX3_hasDripped RX3 1 D (tyL cI cQ) A) (hret : ∀ (pc : Nat) (r : Int32) (u : Unit) (lv : List (Nat × Value)), decode cX3_hasDripped pc = .ok (.ireturn, 1) → bz r → post r → xG p l e (rmL 0 0 0 0) s mi args below meth co D A 1 Q 0 0 pc [.int r] [gPar cI a t] lv) (hw : p_X3_hasDripped t post) : xG p l e (rmL 0 0 0 0) s mi args below meth co D A 1 Q 0 0 0 [] [gPar cI a t] [(0, .ref (a 0))] := by
  unfold p_X3_hasDripped at hw
  obtain ⟨t_kd, t_fg, t_hd, t_nx, t_bu, t_st, t_we, t_cu, t_ho, t_dr⟩ := t
  try dsimp only at hw
  show xG p l e (rmL 0 0 0 0) s mi args below meth co D A 1 Q 0 0 0 [] [gPar cI a (t_kd, t_fg, t_hd, t_nx, t_bu, t_st, t_we, t_cu, t_ho, t_dr)] [(0, .ref (a 0))]
  refine g_aload_n C dX3_hasDripped_0 0 rfl rfl ?_
  refine g_get (v := .int t_dr) (ci := 2) C dX3_hasDripped_1 inw_X3 rfl 0 0 9 rfl rfl (Nat.le_of_ble_eq_true rfl) rfl fl_X3_56 rfl rfl ?_
  exact hret 4 t_dr () _ dX3_hasDripped_4 hw.1 hw.2
set_option maxRecDepth 100000 in
theorem c_X3_hasDripped (l : Launch) (D : va_G) (cI cQ : ClassId) (a : Nat → Nat) (t : PT) (post : Int32 → Prop) (sz : Nat) : Met l yX3_hasDripped (wsY yX3_hasDripped cX3_hasDripped 1 (some .boolean)) (rmL 0 0 0 0) (xP D (tyL cI cQ) [.ref (a 0)] [gPar cI a t] sz (p_X3_hasDripped t post)) (xQi D (tyL cI cQ) (fun (r : Int32) (_ : Unit) => post r) (fun (u : Unit) => [gPar cI a t]) (va_A [gPar cI a t].flatten sz)) 0 0 (va_A [gPar cI a t].flatten sz) :=
  Met_z pn_X3 (Nat.le_of_ble_eq_true rfl) (fun p e s mi below meth co A Q _ C hret hw => w_X3_hasDripped a t C hret hw)
theorem kV_X3_hasDripped : Cond.instanceMethod yX3_hasDripped ∈ gTbl ∧ Cond.selects yX3_hasDripped.cls yX3_hasDripped yX3_hasDripped ∈ gTbl ∧ Cond.initialized yX3_hasDripped.cls ∈ gTbl ∧ Cond.code yX3_hasDripped cX3_hasDripped 1 (some .boolean) ∈ gTbl ∧ (yX3_hasDripped.cls ≠ "java/lang/invoke/MethodHandle" ∧ yX3_hasDripped.cls ≠ "java/lang/invoke/VarHandle" ∧ (parseMethodDescriptor yX3_hasDripped.desc).map (fun d => d.parameters.length) = some 0) := ⟨im_X3_hasDripped, sl_X3_hasDripped, in_X3, cd_X3_hasDripped, (by decide +kernel)⟩
set_option maxRecDepth 100000 in
def p_X3_holdsInAll (t : PT) (post : Int32 → Prop) : Prop := (fun (t_kd : F1) (t_fg : F1) (t_hd : F1) (t_nx : F1) (t_bu : Int32) (t_st : Int32) (t_we : Int32) (t_cu : Int32) (t_ho : Int32) (t_dr : Int32) => lpN (fun (K3 : (Int32 × Int32) → Prop) (z3 : Int32 × Int32) => (fun (x1 : Int32) (x2 : Int32) => ((t_bu ≤ x2 → post x1) ∧ (¬ t_bu ≤ x2 → (vp_in x2 9 ∧ nm ((x1 + (t_hd (x2).toNatClampNeg)) : Int32) (fun (v4 : Int32) => K3 (v4, (x2 + 1))))))) z3.1 z3.2) 1000 ((0 : Int32), (0 : Int32))) t.1 t.2.1 t.2.2.1 t.2.2.2.1 t.2.2.2.2.1 t.2.2.2.2.2.1 t.2.2.2.2.2.2.1 t.2.2.2.2.2.2.2.1 t.2.2.2.2.2.2.2.2.1 t.2.2.2.2.2.2.2.2.2
set_option maxHeartbeats 4000000 in
set_option maxRecDepth 100000 in
theorem w_X3_holdsInAll {p : Program} {l : Launch} {e : Env} {s : State} {mi : MethodId} {args : Array Value} {below : List Frame} {meth : Method} {co : Code} {D : va_G} {cI cQ : ClassId} {A : Nat → Prop} {Q : State → Prop} (a : Nat → Nat) (t : PT) {post : Int32 → Prop} (C : xC p s mi args co cX3_holdsInAll RX3 3 D (tyL cI cQ) A) (hret : ∀ (pc : Nat) (r : Int32) (u : Unit) (lv : List (Nat × Value)), decode cX3_holdsInAll pc = .ok (.ireturn, 1) → post r → xG p l e (rmL 0 0 0 0) s mi args below meth co D A 3 Q 0 0 pc [.int r] [gPar cI a t] lv) (hw : p_X3_holdsInAll t post) : xG p l e (rmL 0 0 0 0) s mi args below meth co D A 3 Q 0 0 0 [] [gPar cI a t] [(0, .ref (a 0))] := by
  unfold p_X3_holdsInAll at hw
  obtain ⟨t_kd, t_fg, t_hd, t_nx, t_bu, t_st, t_we, t_cu, t_ho, t_dr⟩ := t
  try dsimp only at hw
  show xG p l e (rmL 0 0 0 0) s mi args below meth co D A 3 Q 0 0 0 [] [gPar cI a (t_kd, t_fg, t_hd, t_nx, t_bu, t_st, t_we, t_cu, t_ho, t_dr)] [(0, .ref (a 0))]
  refine g_iconst (v := 0) C dX3_holdsInAll_0 rfl rfl ?_
  refine g_istore_n (v := (0 : Int32)) C dX3_holdsInAll_1 rfl (Nat.le_of_ble_eq_true rfl) (lv' := [(1, .int (0 : Int32)), (0, .ref (a 0))]) rfl rfl ?_
  refine g_iconst (v := 0) C dX3_holdsInAll_2 rfl rfl ?_
  refine g_istore_n (v := (0 : Int32)) C dX3_holdsInAll_3 rfl (Nat.le_of_ble_eq_true rfl) (lv' := [(2, .int (0 : Int32)), (1, .int (0 : Int32)), (0, .ref (a 0))]) rfl rfl ?_
  refine g_lv [2, 1, 0] rfl ?_
  refine lpN_ind (G := (fun (z3 : Int32 × Int32) => (fun (x1 : Int32) (x2 : Int32) => xG p l e (rmL 0 0 0 0) s mi args below meth co D A 3 Q 0 0 4 [] [gPar cI a (t_kd, t_fg, t_hd, t_nx, t_bu, t_st, t_we, t_cu, t_ho, t_dr)] [(0, .ref (a 0)), (1, .int x1), (2, .int x2)]) z3.1 z3.2)) ?_ 1000 ((0 : Int32), (0 : Int32)) hw
  rintro K3 ⟨x1, x2⟩ ih3 hw
  show xG p l e (rmL 0 0 0 0) s mi args below meth co D A 3 Q 0 0 4 [] [gPar cI a (t_kd, t_fg, t_hd, t_nx, t_bu, t_st, t_we, t_cu, t_ho, t_dr)] [(0, .ref (a 0)), (1, .int x1), (2, .int x2)]
  refine g_iload_n C dX3_holdsInAll_4 2 rfl rfl ?_
  refine g_aload_n C dX3_holdsInAll_5 0 rfl rfl ?_
  refine g_get (v := .int t_bu) (ci := 2) C dX3_holdsInAll_6 inw_X3 rfl 0 0 4 rfl rfl (Nat.le_of_ble_eq_true rfl) rfl fl_X3_30 rfl rfl ?_
  refine g_icmp_ge (tgt := 27) C dX3_holdsInAll_9 (by decide) rfl hw (fun _ hw => ?_) (fun _ hw => ?_)
  · refine g_iload_n C dX3_holdsInAll_27 1 rfl rfl ?_
    exact hret 28 x1 () _ dX3_holdsInAll_28 hw
  · refine g_iload_n C dX3_holdsInAll_12 1 rfl rfl ?_
    refine g_aload_n C dX3_holdsInAll_13 0 rfl rfl ?_
    refine g_get (v := .ref (a 3)) (ci := 2) C dX3_holdsInAll_14 inw_X3 rfl 0 0 2 rfl rfl (Nat.le_of_ble_eq_true rfl) rfl fl_X3_18 rfl rfl ?_
    refine g_iload_n C dX3_holdsInAll_17 2 rfl rfl ?_
    have hi18 := hw.1
    replace hw := hw.2
    refine g_iald (f := t_hd) C dX3_holdsInAll_18 0 3 rfl rfl 0 rfl hi18 rfl ?_
    refine g_iadd C dX3_holdsInAll_19 rfl ?_
    refine nm_el hw (fun v4 ev4 hw => ?_)
    refine g_istore_n (v := v4) C dX3_holdsInAll_20 ev4.symm (Nat.le_of_ble_eq_true rfl) (lv' := [(1, .int v4), (0, .ref (a 0)), (2, .int x2)]) rfl rfl ?_
    refine g_iinc (v := (x2 + 1)) (j := 2) C dX3_holdsInAll_21 rfl rfl (Nat.le_of_ble_eq_true rfl) (lv' := [(2, .int (x2 + 1)), (1, .int v4), (0, .ref (a 0))]) rfl rfl ?_
    refine g_goto (pc' := 4) C dX3_holdsInAll_24 (by decide) rfl ?_
    refine g_lv [2, 1, 0] rfl ?_
    exact ih3 (v4, (x2 + 1)) hw
set_option maxRecDepth 100000 in
theorem c_X3_holdsInAll (l : Launch) (D : va_G) (cI cQ : ClassId) (a : Nat → Nat) (t : PT) (post : Int32 → Prop) (sz : Nat) : Met l yX3_holdsInAll (wsY yX3_holdsInAll cX3_holdsInAll 3 (some .int)) (rmL 0 0 0 0) (xP D (tyL cI cQ) [.ref (a 0)] [gPar cI a t] sz (p_X3_holdsInAll t post)) (xQi D (tyL cI cQ) (fun (r : Int32) (_ : Unit) => post r) (fun (u : Unit) => [gPar cI a t]) (va_A [gPar cI a t].flatten sz)) 0 0 (va_A [gPar cI a t].flatten sz) :=
  Met_i pn_X3 (Nat.le_of_ble_eq_true rfl) (fun p e s mi below meth co A Q _ C hret hw => w_X3_holdsInAll a t C hret hw)
theorem kV_X3_holdsInAll : Cond.instanceMethod yX3_holdsInAll ∈ gTbl ∧ Cond.selects yX3_holdsInAll.cls yX3_holdsInAll yX3_holdsInAll ∈ gTbl ∧ Cond.initialized yX3_holdsInAll.cls ∈ gTbl ∧ Cond.code yX3_holdsInAll cX3_holdsInAll 3 (some .int) ∈ gTbl ∧ (yX3_holdsInAll.cls ≠ "java/lang/invoke/MethodHandle" ∧ yX3_holdsInAll.cls ≠ "java/lang/invoke/VarHandle" ∧ (parseMethodDescriptor yX3_holdsInAll.desc).map (fun d => d.parameters.length) = some 0) := ⟨im_X3_holdsInAll, sl_X3_holdsInAll, in_X3, cd_X3_holdsInAll, (by decide +kernel)⟩
set_option maxRecDepth 100000 in
def p_X3_wayBits (t : PT) (p1 : Int32) (post : Int32 → Prop) : Prop := (fun (t_kd : F1) (t_fg : F1) (t_hd : F1) (t_nx : F1) (t_bu : Int32) (t_st : Int32) (t_we : Int32) (t_cu : Int32) (t_ho : Int32) (t_dr : Int32) => lpN (fun (K4 : (Int32 × Int32 × Int32) → Prop) (z4 : Int32 × Int32 × Int32) => (fun (x1 : Int32) (x2 : Int32) (x3 : Int32) => (((9 : Int32) ≤ x3 → post x1) ∧ (¬ (9 : Int32) ≤ x3 → p_X3_there (t_kd, t_fg, t_hd, t_nx, t_bu, t_st, t_we, t_cu, t_ho, t_dr) x2 (fun (r5 : Int32) => ((r5 = 0 → post x1) ∧ (¬ r5 = 0 → nm ((x1 ||| ((1 : Int32) <<< (x2 &&& 31))) : Int32) (fun (v6 : Int32) => (vp_in x2 9 ∧ nm ((t_nx (x2).toNatClampNeg) : Int32) (fun (v7 : Int32) => K4 (v6, v7, (x3 + 1))))))))))) z4.1 z4.2.1 z4.2.2) 1000 ((0 : Int32), p1, (0 : Int32))) t.1 t.2.1 t.2.2.1 t.2.2.2.1 t.2.2.2.2.1 t.2.2.2.2.2.1 t.2.2.2.2.2.2.1 t.2.2.2.2.2.2.2.1 t.2.2.2.2.2.2.2.2.1 t.2.2.2.2.2.2.2.2.2
set_option maxHeartbeats 4000000 in
set_option maxRecDepth 100000 in
theorem w_X3_wayBits {p : Program} {l : Launch} {e : Env} {s : State} {mi : MethodId} {args : Array Value} {below : List Frame} {meth : Method} {co : Code} {D : va_G} {cI cQ : ClassId} {A : Nat → Prop} {Q : State → Prop} (a : Nat → Nat) (t : PT) (p1 : Int32) {post : Int32 → Prop} (C : xC p s mi args co cX3_wayBits RX3 5 D (tyL cI cQ) A) (hret : ∀ (pc : Nat) (r : Int32) (u : Unit) (lv : List (Nat × Value)), decode cX3_wayBits pc = .ok (.ireturn, 1) → post r → xG p l e (rmL 1 0 0 21) s mi args below meth co D A 5 Q 0 0 pc [.int r] [gPar cI a t] lv) (hw : p_X3_wayBits t p1 post) : xG p l e (rmL 1 0 0 21) s mi args below meth co D A 5 Q 0 0 0 [] [gPar cI a t] [(0, .ref (a 0)), (1, .int p1)] := by
  unfold p_X3_wayBits at hw
  obtain ⟨t_kd, t_fg, t_hd, t_nx, t_bu, t_st, t_we, t_cu, t_ho, t_dr⟩ := t
  try dsimp only at hw
  show xG p l e (rmL 1 0 0 21) s mi args below meth co D A 5 Q 0 0 0 [] [gPar cI a (t_kd, t_fg, t_hd, t_nx, t_bu, t_st, t_we, t_cu, t_ho, t_dr)] [(0, .ref (a 0)), (1, .int p1)]
  refine g_iconst (v := 0) C dX3_wayBits_0 rfl rfl ?_
  refine g_istore_n (v := (0 : Int32)) C dX3_wayBits_1 rfl (Nat.le_of_ble_eq_true rfl) (lv' := [(2, .int (0 : Int32)), (0, .ref (a 0)), (1, .int p1)]) rfl rfl ?_
  refine g_iload_n C dX3_wayBits_2 2 rfl rfl ?_
  refine g_istore_n (v := p1) C dX3_wayBits_3 rfl (Nat.le_of_ble_eq_true rfl) (lv' := [(3, .int p1), (2, .int (0 : Int32)), (0, .ref (a 0)), (1, .int p1)]) rfl rfl ?_
  refine g_iconst (v := 0) C dX3_wayBits_4 rfl rfl ?_
  refine g_istore (v := (0 : Int32)) C dX3_wayBits_5 rfl (Nat.le_of_ble_eq_true rfl) (lv' := [(4, .int (0 : Int32)), (3, .int p1), (2, .int (0 : Int32)), (0, .ref (a 0)), (1, .int p1)]) rfl rfl ?_
  refine g_lv [3, 2, 1, 0] rfl ?_
  refine lpN_ind (G := (fun (z4 : Int32 × Int32 × Int32) => (fun (x1 : Int32) (x2 : Int32) (x3 : Int32) => xG p l e (rmL 1 0 0 21) s mi args below meth co D A 5 Q 0 0 7 [] [gPar cI a (t_kd, t_fg, t_hd, t_nx, t_bu, t_st, t_we, t_cu, t_ho, t_dr)] [(0, .ref (a 0)), (2, .int x1), (3, .int x2), (4, .int x3)]) z4.1 z4.2.1 z4.2.2)) ?_ 1000 ((0 : Int32), p1, (0 : Int32)) hw
  rintro K4 ⟨x1, x2, x3⟩ ih4 hw
  show xG p l e (rmL 1 0 0 21) s mi args below meth co D A 5 Q 0 0 7 [] [gPar cI a (t_kd, t_fg, t_hd, t_nx, t_bu, t_st, t_we, t_cu, t_ho, t_dr)] [(0, .ref (a 0)), (2, .int x1), (3, .int x2), (4, .int x3)]
  refine g_iload C dX3_wayBits_7 3 rfl rfl ?_
  refine g_bipush (v := 9) C dX3_wayBits_9 (by decide) rfl ?_
  refine g_icmp_ge (tgt := 41) C dX3_wayBits_11 (by decide) rfl hw (fun _ hw => ?_) (fun _ hw => ?_)
  · refine g_iload_n C dX3_wayBits_41 1 rfl rfl ?_
    exact hret 42 x1 () _ dX3_wayBits_42 hw
  · refine g_aload_n C dX3_wayBits_14 0 rfl rfl ?_
    refine g_iload_n C dX3_wayBits_15 2 rfl rfl ?_
    refine g_callVi (As := [.int x2]) (gr := []) C (c_X3_there l D cI cQ a (t_kd, t_fg, t_hd, t_nx, t_bu, t_st, t_we, t_cu, t_ho, t_dr) x2 _) dX3_wayBits_16 ⟨ml_X3_46, kV_X3_there⟩ ⟨Nat.le_of_ble_eq_true rfl, Nat.le_of_ble_eq_true rfl⟩ ⟨Nat.le_refl _, Nat.le_refl _⟩ rfl rfl 0 0 rfl rfl [0] 1 rfl pma_0 rfl rfl rfl (Nat.le_of_ble_eq_true rfl) rfl (fun (u : Unit) => [gPar cI a (t_kd, t_fg, t_hd, t_nx, t_bu, t_st, t_we, t_cu, t_ho, t_dr)]) [0] 1 (fun _ => rfl) pma_0 (fun _ => rfl) hw (fun r5 u5 hw => ?_)
    refine g_if_eq (tgt := 41) C dX3_wayBits_19 (by decide) rfl hw (fun _ hw => ?_) (fun _ hw => ?_)
    · refine g_iload_n C dX3_wayBits_41 1 rfl rfl ?_
      exact hret 42 x1 () _ dX3_wayBits_42 hw
    · refine g_iload_n C dX3_wayBits_22 1 rfl rfl ?_
      refine g_iconst (v := 1) C dX3_wayBits_23 rfl rfl ?_
      refine g_iload_n C dX3_wayBits_24 2 rfl rfl ?_
      refine g_ishl C dX3_wayBits_25 rfl ?_
      refine g_ior C dX3_wayBits_26 rfl ?_
      refine nm_el hw (fun v6 ev6 hw => ?_)
      refine g_istore_n (v := v6) C dX3_wayBits_27 ev6.symm (Nat.le_of_ble_eq_true rfl) (lv' := [(2, .int v6), (0, .ref (a 0)), (3, .int x2), (4, .int x3)]) rfl rfl ?_
      refine g_aload_n C dX3_wayBits_28 1 rfl rfl ?_
      refine g_get (v := .ref (a 4)) (ci := 2) C dX3_wayBits_29 inw_X3 rfl 0 0 3 rfl rfl (Nat.le_of_ble_eq_true rfl) rfl fl_X3_21 rfl rfl ?_
      refine g_iload_n C dX3_wayBits_32 2 rfl rfl ?_
      have hi33 := hw.1
      replace hw := hw.2
      refine g_iald (f := t_nx) C dX3_wayBits_33 0 4 rfl rfl 0 rfl hi33 rfl ?_
      refine nm_el hw (fun v7 ev7 hw => ?_)
      refine g_istore_n (v := v7) C dX3_wayBits_34 ev7.symm (Nat.le_of_ble_eq_true rfl) (lv' := [(3, .int v7), (2, .int v6), (0, .ref (a 0)), (4, .int x3)]) rfl rfl ?_
      refine g_iinc (v := (x3 + 1)) (j := 3) C dX3_wayBits_35 rfl rfl (Nat.le_of_ble_eq_true rfl) (lv' := [(4, .int (x3 + 1)), (3, .int v7), (2, .int v6), (0, .ref (a 0))]) rfl rfl ?_
      refine g_goto (pc' := 7) C dX3_wayBits_38 (by decide) rfl ?_
      refine g_lv [3, 2, 1, 0] rfl ?_
      exact ih4 (v6, v7, (x3 + 1)) hw
set_option maxRecDepth 100000 in
theorem c_X3_wayBits (l : Launch) (D : va_G) (cI cQ : ClassId) (a : Nat → Nat) (t : PT) (p1 : Int32) (post : Int32 → Prop) (sz : Nat) : Met l yX3_wayBits (wsY yX3_wayBits cX3_wayBits 5 (some .int)) (rmL 1 0 0 21) (xP D (tyL cI cQ) [.ref (a 0), .int p1] [gPar cI a t] sz (p_X3_wayBits t p1 post)) (xQi D (tyL cI cQ) (fun (r : Int32) (_ : Unit) => post r) (fun (u : Unit) => [gPar cI a t]) (va_A [gPar cI a t].flatten sz)) 0 0 (va_A [gPar cI a t].flatten sz) :=
  Met_i pn_X3 (Nat.le_of_ble_eq_true rfl) (fun p e s mi below meth co A Q _ C hret hw => w_X3_wayBits a t p1 C hret hw)
theorem kV_X3_wayBits : Cond.instanceMethod yX3_wayBits ∈ gTbl ∧ Cond.selects yX3_wayBits.cls yX3_wayBits yX3_wayBits ∈ gTbl ∧ Cond.initialized yX3_wayBits.cls ∈ gTbl ∧ Cond.code yX3_wayBits cX3_wayBits 5 (some .int) ∈ gTbl ∧ (yX3_wayBits.cls ≠ "java/lang/invoke/MethodHandle" ∧ yX3_wayBits.cls ≠ "java/lang/invoke/VarHandle" ∧ (parseMethodDescriptor yX3_wayBits.desc).map (fun d => d.parameters.length) = some 1) := ⟨im_X3_wayBits, sl_X3_wayBits, in_X3, cd_X3_wayBits, (by decide +kernel)⟩
set_option maxRecDepth 100000 in
def p_X3_build (t : PT) (p1 : Int32) (p2 : Int32) (post : Int32 → PT → Prop) : Prop := (fun (t_kd : F1) (t_fg : F1) (t_hd : F1) (t_nx : F1) (t_bu : Int32) (t_st : Int32) (t_we : Int32) (t_cu : Int32) (t_ho : Int32) (t_dr : Int32) => (((9 : Int32) ≤ t_bu → post (0 : Int32) (t_kd, t_fg, t_hd, t_nx, t_bu, t_st, t_we, t_cu, t_ho, t_dr)) ∧ (¬ (9 : Int32) ≤ t_bu → ((p1 < 0 → post (0 : Int32) (t_kd, t_fg, t_hd, t_nx, t_bu, t_st, t_we, t_cu, t_ho, t_dr)) ∧ (¬ p1 < 0 → ((p1 ≤ (5 : Int32) → (vp_in t_bu 9 ∧ nm (upd t_kd (t_bu).toNatClampNeg p1) (fun (t_kd1 : F1) => (vp_in t_bu 9 ∧ nm (upd t_fg (t_bu).toNatClampNeg p2) (fun (t_fg2 : F1) => (vp_in t_bu 9 ∧ nm (upd t_hd (t_bu).toNatClampNeg (0 : Int32)) (fun (t_hd3 : F1) => (vp_in t_bu 9 ∧ nm (upd t_nx (t_bu).toNatClampNeg (9 : Int32)) (fun (t_nx4 : F1) => nm ((t_bu + (1 : Int32)) : Int32) (fun (v5 : Int32) => post (1 : Int32) (t_kd1, t_fg2, t_hd3, t_nx4, v5, t_st, t_we, t_cu, t_ho, t_dr))))))))))) ∧ (¬ p1 ≤ (5 : Int32) → post (0 : Int32) (t_kd, t_fg, t_hd, t_nx, t_bu, t_st, t_we, t_cu, t_ho, t_dr)))))))) t.1 t.2.1 t.2.2.1 t.2.2.2.1 t.2.2.2.2.1 t.2.2.2.2.2.1 t.2.2.2.2.2.2.1 t.2.2.2.2.2.2.2.1 t.2.2.2.2.2.2.2.2.1 t.2.2.2.2.2.2.2.2.2
set_option maxHeartbeats 4000000 in
set_option maxRecDepth 100000 in
theorem w_X3_build {p : Program} {l : Launch} {e : Env} {s : State} {mi : MethodId} {args : Array Value} {below : List Frame} {meth : Method} {co : Code} {D : va_G} {cI cQ : ClassId} {A : Nat → Prop} {Q : State → Prop} (a : Nat → Nat) (t : PT) (p1 : Int32) (p2 : Int32) {post : Int32 → PT → Prop} (C : xC p s mi args co cX3_build RX3 3 D (tyL cI cQ) A) (hret : ∀ (pc : Nat) (r : Int32) (u : PT) (lv : List (Nat × Value)), decode cX3_build pc = .ok (.ireturn, 1) → bz r → post r u → xG p l e (rmL 0 0 0 0) s mi args below meth co D A 3 Q 0 0 pc [.int r] [gPar cI a u] lv) (hw : p_X3_build t p1 p2 post) : xG p l e (rmL 0 0 0 0) s mi args below meth co D A 3 Q 0 0 0 [] [gPar cI a t] [(0, .ref (a 0)), (1, .int p1), (2, .int p2)] := by
  unfold p_X3_build at hw
  obtain ⟨t_kd, t_fg, t_hd, t_nx, t_bu, t_st, t_we, t_cu, t_ho, t_dr⟩ := t
  try dsimp only at hw
  show xG p l e (rmL 0 0 0 0) s mi args below meth co D A 3 Q 0 0 0 [] [gPar cI a (t_kd, t_fg, t_hd, t_nx, t_bu, t_st, t_we, t_cu, t_ho, t_dr)] [(0, .ref (a 0)), (1, .int p1), (2, .int p2)]
  refine g_aload_n C dX3_build_0 0 rfl rfl ?_
  refine g_get (v := .int t_bu) (ci := 2) C dX3_build_1 inw_X3 rfl 0 0 4 rfl rfl (Nat.le_of_ble_eq_true rfl) rfl fl_X3_30 rfl rfl ?_
  refine g_bipush (v := 9) C dX3_build_4 (by decide) rfl ?_
  refine g_icmp_ge (tgt := 18) C dX3_build_6 (by decide) rfl hw (fun _ hw => ?_) (fun _ hw => ?_)
  · refine g_iconst (v := 0) C dX3_build_18 rfl rfl ?_
    exact hret 19 (0 : Int32) (t_kd, t_fg, t_hd, t_nx, t_bu, t_st, t_we, t_cu, t_ho, t_dr) _ dX3_build_19 ⟨rfl, rfl⟩ hw
  · refine g_iload_n C dX3_build_9 1 rfl rfl ?_
    refine g_if_lt (tgt := 18) C dX3_build_10 (by decide) rfl hw (fun _ hw => ?_) (fun _ hw => ?_)
    · refine g_iconst (v := 0) C dX3_build_18 rfl rfl ?_
      exact hret 19 (0 : Int32) (t_kd, t_fg, t_hd, t_nx, t_bu, t_st, t_we, t_cu, t_ho, t_dr) _ dX3_build_19 ⟨rfl, rfl⟩ hw
    · refine g_iload_n C dX3_build_13 1 rfl rfl ?_
      refine g_iconst (v := 5) C dX3_build_14 rfl rfl ?_
      refine g_icmp_le (tgt := 20) C dX3_build_15 (by decide) rfl hw (fun _ hw => ?_) (fun _ hw => ?_)
      · refine g_aload_n C dX3_build_20 0 rfl rfl ?_
        refine g_get (v := .ref (a 1)) (ci := 2) C dX3_build_21 inw_X3 rfl 0 0 0 rfl rfl (Nat.le_of_ble_eq_true rfl) rfl fl_X3_9 rfl rfl ?_
        refine g_aload_n C dX3_build_24 0 rfl rfl ?_
        refine g_get (v := .int t_bu) (ci := 2) C dX3_build_25 inw_X3 rfl 0 0 4 rfl rfl (Nat.le_of_ble_eq_true rfl) rfl fl_X3_30 rfl rfl ?_
        refine g_iload_n C dX3_build_28 1 rfl rfl ?_
        have hi29 := hw.1
        refine nm_el hw.2 (fun t_kd1 et_kd1 hw => ?_)
        refine g_iast (f := t_kd) (f' := t_kd1) (gs' := [gPar cI a (t_kd1, t_fg, t_hd, t_nx, t_bu, t_st, t_we, t_cu, t_ho, t_dr)]) C dX3_build_29 0 1 rfl rfl 0 rfl hi29 et_kd1.symm rfl rfl ?_
        refine g_aload_n C dX3_build_30 0 rfl rfl ?_
        refine g_get (v := .ref (a 2)) (ci := 2) C dX3_build_31 inw_X3 rfl 0 0 1 rfl rfl (Nat.le_of_ble_eq_true rfl) rfl fl_X3_15 rfl rfl ?_
        refine g_aload_n C dX3_build_34 0 rfl rfl ?_
        refine g_get (v := .int t_bu) (ci := 2) C dX3_build_35 inw_X3 rfl 0 0 4 rfl rfl (Nat.le_of_ble_eq_true rfl) rfl fl_X3_30 rfl rfl ?_
        refine g_iload_n C dX3_build_38 2 rfl rfl ?_
        have hi39 := hw.1
        refine nm_el hw.2 (fun t_fg2 et_fg2 hw => ?_)
        refine g_iast (f := t_fg) (f' := t_fg2) (gs' := [gPar cI a (t_kd1, t_fg2, t_hd, t_nx, t_bu, t_st, t_we, t_cu, t_ho, t_dr)]) C dX3_build_39 0 2 rfl rfl 0 rfl hi39 et_fg2.symm rfl rfl ?_
        refine g_aload_n C dX3_build_40 0 rfl rfl ?_
        refine g_get (v := .ref (a 3)) (ci := 2) C dX3_build_41 inw_X3 rfl 0 0 2 rfl rfl (Nat.le_of_ble_eq_true rfl) rfl fl_X3_18 rfl rfl ?_
        refine g_aload_n C dX3_build_44 0 rfl rfl ?_
        refine g_get (v := .int t_bu) (ci := 2) C dX3_build_45 inw_X3 rfl 0 0 4 rfl rfl (Nat.le_of_ble_eq_true rfl) rfl fl_X3_30 rfl rfl ?_
        refine g_iconst (v := 0) C dX3_build_48 rfl rfl ?_
        have hi49 := hw.1
        refine nm_el hw.2 (fun t_hd3 et_hd3 hw => ?_)
        refine g_iast (f := t_hd) (f' := t_hd3) (gs' := [gPar cI a (t_kd1, t_fg2, t_hd3, t_nx, t_bu, t_st, t_we, t_cu, t_ho, t_dr)]) C dX3_build_49 0 3 rfl rfl 0 rfl hi49 et_hd3.symm rfl rfl ?_
        refine g_aload_n C dX3_build_50 0 rfl rfl ?_
        refine g_get (v := .ref (a 4)) (ci := 2) C dX3_build_51 inw_X3 rfl 0 0 3 rfl rfl (Nat.le_of_ble_eq_true rfl) rfl fl_X3_21 rfl rfl ?_
        refine g_aload_n C dX3_build_54 0 rfl rfl ?_
        refine g_get (v := .int t_bu) (ci := 2) C dX3_build_55 inw_X3 rfl 0 0 4 rfl rfl (Nat.le_of_ble_eq_true rfl) rfl fl_X3_30 rfl rfl ?_
        refine g_bipush (v := 9) C dX3_build_58 (by decide) rfl ?_
        have hi60 := hw.1
        refine nm_el hw.2 (fun t_nx4 et_nx4 hw => ?_)
        refine g_iast (f := t_nx) (f' := t_nx4) (gs' := [gPar cI a (t_kd1, t_fg2, t_hd3, t_nx4, t_bu, t_st, t_we, t_cu, t_ho, t_dr)]) C dX3_build_60 0 4 rfl rfl 0 rfl hi60 et_nx4.symm rfl rfl ?_
        refine g_aload_n C dX3_build_61 0 rfl rfl ?_
        refine g_dup C dX3_build_62 rfl rfl ?_
        refine g_get (v := .int t_bu) (ci := 2) C dX3_build_63 inw_X3 rfl 0 0 4 rfl rfl (Nat.le_of_ble_eq_true rfl) rfl fl_X3_30 rfl rfl ?_
        refine g_iconst (v := 1) C dX3_build_66 rfl rfl ?_
        refine g_iadd C dX3_build_67 rfl ?_
        refine nm_el hw (fun v5 ev5 hw => ?_)
        refine g_put (v' := .int v5) (ty := .int) (ci := 2) (gs' := [gPar cI a (t_kd1, t_fg2, t_hd3, t_nx4, v5, t_st, t_we, t_cu, t_ho, t_dr)]) C dX3_build_68 inw_X3 tyX3 tyX3_ok nmX3 rfl 0 0 4 rfl rfl (Nat.le_of_ble_eq_true rfl) rfl fl_X3_30 rfl fd_I (congrArg Value.int ev5.symm) rfl rfl (Nat.le_of_ble_eq_true rfl) rfl rfl ?_
        refine g_iconst (v := 1) C dX3_build_71 rfl rfl ?_
        exact hret 72 (1 : Int32) (t_kd1, t_fg2, t_hd3, t_nx4, v5, t_st, t_we, t_cu, t_ho, t_dr) _ dX3_build_72 ⟨rfl, rfl⟩ hw
      · refine g_iconst (v := 0) C dX3_build_18 rfl rfl ?_
        exact hret 19 (0 : Int32) (t_kd, t_fg, t_hd, t_nx, t_bu, t_st, t_we, t_cu, t_ho, t_dr) _ dX3_build_19 ⟨rfl, rfl⟩ hw
set_option maxRecDepth 100000 in
theorem c_X3_build (l : Launch) (D : va_G) (cI cQ : ClassId) (a : Nat → Nat) (t : PT) (p1 : Int32) (p2 : Int32) (post : Int32 → PT → Prop) (sz : Nat) : Met l yX3_build (wsY yX3_build cX3_build 3 (some .boolean)) (rmL 0 0 0 0) (xP D (tyL cI cQ) [.ref (a 0), .int p1, .int p2] [gPar cI a t] sz (p_X3_build t p1 p2 post)) (xQi D (tyL cI cQ) post (fun (u : PT) => [gPar cI a u]) (va_A [gPar cI a t].flatten sz)) 0 0 (va_A [gPar cI a t].flatten sz) :=
  Met_z pn_X3 (Nat.le_of_ble_eq_true rfl) (fun p e s mi below meth co A Q _ C hret hw => w_X3_build a t p1 p2 C hret hw)
theorem kV_X3_build : Cond.instanceMethod yX3_build ∈ gTbl ∧ Cond.selects yX3_build.cls yX3_build yX3_build ∈ gTbl ∧ Cond.initialized yX3_build.cls ∈ gTbl ∧ Cond.code yX3_build cX3_build 3 (some .boolean) ∈ gTbl ∧ (yX3_build.cls ≠ "java/lang/invoke/MethodHandle" ∧ yX3_build.cls ≠ "java/lang/invoke/VarHandle" ∧ (parseMethodDescriptor yX3_build.desc).map (fun d => d.parameters.length) = some 2) := ⟨im_X3_build, sl_X3_build, in_X3, cd_X3_build, (by decide +kernel)⟩
set_option maxRecDepth 100000 in
def p_X3_remake (t : PT) (p1 : Int32) (p2 : Int32) (p3 : Int32) (post : PT → Prop) : Prop := (fun (t_kd : F1) (t_fg : F1) (t_hd : F1) (t_nx : F1) (t_bu : Int32) (t_st : Int32) (t_we : Int32) (t_cu : Int32) (t_ho : Int32) (t_dr : Int32) => p_X3_there (t_kd, t_fg, t_hd, t_nx, t_bu, t_st, t_we, t_cu, t_ho, t_dr) p1 (fun (r1 : Int32) => ((r1 = 0 → post (t_kd, t_fg, t_hd, t_nx, t_bu, t_st, t_we, t_cu, t_ho, t_dr)) ∧ (¬ r1 = 0 → (vp_in p1 9 ∧ nm (upd t_kd (p1).toNatClampNeg p2) (fun (t_kd2 : F1) => (vp_in p1 9 ∧ nm (upd t_fg (p1).toNatClampNeg p3) (fun (t_fg3 : F1) => post (t_kd2, t_fg3, t_hd, t_nx, t_bu, t_st, t_we, t_cu, t_ho, t_dr))))))))) t.1 t.2.1 t.2.2.1 t.2.2.2.1 t.2.2.2.2.1 t.2.2.2.2.2.1 t.2.2.2.2.2.2.1 t.2.2.2.2.2.2.2.1 t.2.2.2.2.2.2.2.2.1 t.2.2.2.2.2.2.2.2.2
set_option maxHeartbeats 4000000 in
set_option maxRecDepth 100000 in
theorem w_X3_remake {p : Program} {l : Launch} {e : Env} {s : State} {mi : MethodId} {args : Array Value} {below : List Frame} {meth : Method} {co : Code} {D : va_G} {cI cQ : ClassId} {A : Nat → Prop} {Q : State → Prop} (a : Nat → Nat) (t : PT) (p1 : Int32) (p2 : Int32) (p3 : Int32) {post : PT → Prop} (C : xC p s mi args co cX3_remake RX3 4 D (tyL cI cQ) A) (hret : ∀ (pc : Nat) (u : PT) (lv : List (Nat × Value)), decode cX3_remake pc = .ok (.return_, 1) → post u → xG p l e (rmL 1 0 0 21) s mi args below meth co D A 4 Q 0 0 pc [] [gPar cI a u] lv) (hw : p_X3_remake t p1 p2 p3 post) : xG p l e (rmL 1 0 0 21) s mi args below meth co D A 4 Q 0 0 0 [] [gPar cI a t] [(0, .ref (a 0)), (1, .int p1), (2, .int p2), (3, .int p3)] := by
  unfold p_X3_remake at hw
  obtain ⟨t_kd, t_fg, t_hd, t_nx, t_bu, t_st, t_we, t_cu, t_ho, t_dr⟩ := t
  try dsimp only at hw
  show xG p l e (rmL 1 0 0 21) s mi args below meth co D A 4 Q 0 0 0 [] [gPar cI a (t_kd, t_fg, t_hd, t_nx, t_bu, t_st, t_we, t_cu, t_ho, t_dr)] [(0, .ref (a 0)), (1, .int p1), (2, .int p2), (3, .int p3)]
  refine g_aload_n C dX3_remake_0 0 rfl rfl ?_
  refine g_iload_n C dX3_remake_1 1 rfl rfl ?_
  refine g_callVi (As := [.int p1]) (gr := []) C (c_X3_there l D cI cQ a (t_kd, t_fg, t_hd, t_nx, t_bu, t_st, t_we, t_cu, t_ho, t_dr) p1 _) dX3_remake_2 ⟨ml_X3_46, kV_X3_there⟩ ⟨Nat.le_of_ble_eq_true rfl, Nat.le_of_ble_eq_true rfl⟩ ⟨Nat.le_refl _, Nat.le_refl _⟩ rfl rfl 0 0 rfl rfl [0] 1 rfl pma_0 rfl rfl rfl (Nat.le_of_ble_eq_true rfl) rfl (fun (u : Unit) => [gPar cI a (t_kd, t_fg, t_hd, t_nx, t_bu, t_st, t_we, t_cu, t_ho, t_dr)]) [0] 1 (fun _ => rfl) pma_0 (fun _ => rfl) hw (fun r1 u1 hw => ?_)
  refine g_if_eq (tgt := 22) C dX3_remake_5 (by decide) rfl hw (fun _ hw => ?_) (fun _ hw => ?_)
  · exact hret 22 (t_kd, t_fg, t_hd, t_nx, t_bu, t_st, t_we, t_cu, t_ho, t_dr) _ dX3_remake_22 hw
  · refine g_aload_n C dX3_remake_8 0 rfl rfl ?_
    refine g_get (v := .ref (a 1)) (ci := 2) C dX3_remake_9 inw_X3 rfl 0 0 0 rfl rfl (Nat.le_of_ble_eq_true rfl) rfl fl_X3_9 rfl rfl ?_
    refine g_iload_n C dX3_remake_12 1 rfl rfl ?_
    refine g_iload_n C dX3_remake_13 2 rfl rfl ?_
    have hi14 := hw.1
    refine nm_el hw.2 (fun t_kd2 et_kd2 hw => ?_)
    refine g_iast (f := t_kd) (f' := t_kd2) (gs' := [gPar cI a (t_kd2, t_fg, t_hd, t_nx, t_bu, t_st, t_we, t_cu, t_ho, t_dr)]) C dX3_remake_14 0 1 rfl rfl 0 rfl hi14 et_kd2.symm rfl rfl ?_
    refine g_aload_n C dX3_remake_15 0 rfl rfl ?_
    refine g_get (v := .ref (a 2)) (ci := 2) C dX3_remake_16 inw_X3 rfl 0 0 1 rfl rfl (Nat.le_of_ble_eq_true rfl) rfl fl_X3_15 rfl rfl ?_
    refine g_iload_n C dX3_remake_19 1 rfl rfl ?_
    refine g_iload_n C dX3_remake_20 3 rfl rfl ?_
    have hi21 := hw.1
    refine nm_el hw.2 (fun t_fg3 et_fg3 hw => ?_)
    refine g_iast (f := t_fg) (f' := t_fg3) (gs' := [gPar cI a (t_kd2, t_fg3, t_hd, t_nx, t_bu, t_st, t_we, t_cu, t_ho, t_dr)]) C dX3_remake_21 0 2 rfl rfl 0 rfl hi21 et_fg3.symm rfl rfl ?_
    exact hret 22 (t_kd2, t_fg3, t_hd, t_nx, t_bu, t_st, t_we, t_cu, t_ho, t_dr) _ dX3_remake_22 hw
set_option maxRecDepth 100000 in
theorem c_X3_remake (l : Launch) (D : va_G) (cI cQ : ClassId) (a : Nat → Nat) (t : PT) (p1 : Int32) (p2 : Int32) (p3 : Int32) (post : PT → Prop) (sz : Nat) : Met l yX3_remake (wsY yX3_remake cX3_remake 4 none) (rmL 1 0 0 21) (xP D (tyL cI cQ) [.ref (a 0), .int p1, .int p2, .int p3] [gPar cI a t] sz (p_X3_remake t p1 p2 p3 post)) (xQv D (tyL cI cQ) post (fun (u : PT) => [gPar cI a u]) (va_A [gPar cI a t].flatten sz)) 0 0 (va_A [gPar cI a t].flatten sz) :=
  Met_v pn_X3 (Nat.le_of_ble_eq_true rfl) (fun p e s mi below meth co A Q _ C hret hw => w_X3_remake a t p1 p2 p3 C hret hw)
theorem kV_X3_remake : Cond.instanceMethod yX3_remake ∈ gTbl ∧ Cond.selects yX3_remake.cls yX3_remake yX3_remake ∈ gTbl ∧ Cond.initialized yX3_remake.cls ∈ gTbl ∧ Cond.code yX3_remake cX3_remake 4 none ∈ gTbl ∧ (yX3_remake.cls ≠ "java/lang/invoke/MethodHandle" ∧ yX3_remake.cls ≠ "java/lang/invoke/VarHandle" ∧ (parseMethodDescriptor yX3_remake.desc).map (fun d => d.parameters.length) = some 3) := ⟨im_X3_remake, sl_X3_remake, in_X3, cd_X3_remake, (by decide +kernel)⟩
set_option maxRecDepth 100000 in
def p_X3_lead (t : PT) (p1 : Int32) (p2 : Int32) (post : Int32 → PT → Prop) : Prop := (fun (t_kd : F1) (t_fg : F1) (t_hd : F1) (t_nx : F1) (t_bu : Int32) (t_st : Int32) (t_we : Int32) (t_cu : Int32) (t_ho : Int32) (t_dr : Int32) => p_X3_there (t_kd, t_fg, t_hd, t_nx, t_bu, t_st, t_we, t_cu, t_ho, t_dr) p1 (fun (r1 : Int32) => ((r1 = 0 → post (0 : Int32) (t_kd, t_fg, t_hd, t_nx, t_bu, t_st, t_we, t_cu, t_ho, t_dr)) ∧ (¬ r1 = 0 → ((p2 ≤ p1 → post (0 : Int32) (t_kd, t_fg, t_hd, t_nx, t_bu, t_st, t_we, t_cu, t_ho, t_dr)) ∧ (¬ p2 ≤ p1 → ((p2 ≤ (9 : Int32) → (vp_in p1 9 ∧ nm (upd t_nx (p1).toNatClampNeg p2) (fun (t_nx2 : F1) => post (1 : Int32) (t_kd, t_fg, t_hd, t_nx2, t_bu, t_st, t_we, t_cu, t_ho, t_dr)))) ∧ (¬ p2 ≤ (9 : Int32) → post (0 : Int32) (t_kd, t_fg, t_hd, t_nx, t_bu, t_st, t_we, t_cu, t_ho, t_dr))))))))) t.1 t.2.1 t.2.2.1 t.2.2.2.1 t.2.2.2.2.1 t.2.2.2.2.2.1 t.2.2.2.2.2.2.1 t.2.2.2.2.2.2.2.1 t.2.2.2.2.2.2.2.2.1 t.2.2.2.2.2.2.2.2.2
set_option maxHeartbeats 4000000 in
set_option maxRecDepth 100000 in
theorem w_X3_lead {p : Program} {l : Launch} {e : Env} {s : State} {mi : MethodId} {args : Array Value} {below : List Frame} {meth : Method} {co : Code} {D : va_G} {cI cQ : ClassId} {A : Nat → Prop} {Q : State → Prop} (a : Nat → Nat) (t : PT) (p1 : Int32) (p2 : Int32) {post : Int32 → PT → Prop} (C : xC p s mi args co cX3_lead RX3 3 D (tyL cI cQ) A) (hret : ∀ (pc : Nat) (r : Int32) (u : PT) (lv : List (Nat × Value)), decode cX3_lead pc = .ok (.ireturn, 1) → bz r → post r u → xG p l e (rmL 1 0 0 21) s mi args below meth co D A 3 Q 0 0 pc [.int r] [gPar cI a u] lv) (hw : p_X3_lead t p1 p2 post) : xG p l e (rmL 1 0 0 21) s mi args below meth co D A 3 Q 0 0 0 [] [gPar cI a t] [(0, .ref (a 0)), (1, .int p1), (2, .int p2)] := by
  unfold p_X3_lead at hw
  obtain ⟨t_kd, t_fg, t_hd, t_nx, t_bu, t_st, t_we, t_cu, t_ho, t_dr⟩ := t
  try dsimp only at hw
  show xG p l e (rmL 1 0 0 21) s mi args below meth co D A 3 Q 0 0 0 [] [gPar cI a (t_kd, t_fg, t_hd, t_nx, t_bu, t_st, t_we, t_cu, t_ho, t_dr)] [(0, .ref (a 0)), (1, .int p1), (2, .int p2)]
  refine g_aload_n C dX3_lead_0 0 rfl rfl ?_
  refine g_iload_n C dX3_lead_1 1 rfl rfl ?_
  refine g_callVi (As := [.int p1]) (gr := []) C (c_X3_there l D cI cQ a (t_kd, t_fg, t_hd, t_nx, t_bu, t_st, t_we, t_cu, t_ho, t_dr) p1 _) dX3_lead_2 ⟨ml_X3_46, kV_X3_there⟩ ⟨Nat.le_of_ble_eq_true rfl, Nat.le_of_ble_eq_true rfl⟩ ⟨Nat.le_refl _, Nat.le_refl _⟩ rfl rfl 0 0 rfl rfl [0] 1 rfl pma_0 rfl rfl rfl (Nat.le_of_ble_eq_true rfl) rfl (fun (u : Unit) => [gPar cI a (t_kd, t_fg, t_hd, t_nx, t_bu, t_st, t_we, t_cu, t_ho, t_dr)]) [0] 1 (fun _ => rfl) pma_0 (fun _ => rfl) hw (fun r1 u1 hw => ?_)
  refine g_if_eq (tgt := 19) C dX3_lead_5 (by decide) rfl hw (fun _ hw => ?_) (fun _ hw => ?_)
  · refine g_iconst (v := 0) C dX3_lead_19 rfl rfl ?_
    exact hret 20 (0 : Int32) (t_kd, t_fg, t_hd, t_nx, t_bu, t_st, t_we, t_cu, t_ho, t_dr) _ dX3_lead_20 ⟨rfl, rfl⟩ hw
  · refine g_iload_n C dX3_lead_8 2 rfl rfl ?_
    refine g_iload_n C dX3_lead_9 1 rfl rfl ?_
    refine g_icmp_le (tgt := 19) C dX3_lead_10 (by decide) rfl hw (fun _ hw => ?_) (fun _ hw => ?_)
    · refine g_iconst (v := 0) C dX3_lead_19 rfl rfl ?_
      exact hret 20 (0 : Int32) (t_kd, t_fg, t_hd, t_nx, t_bu, t_st, t_we, t_cu, t_ho, t_dr) _ dX3_lead_20 ⟨rfl, rfl⟩ hw
    · refine g_iload_n C dX3_lead_13 2 rfl rfl ?_
      refine g_bipush (v := 9) C dX3_lead_14 (by decide) rfl ?_
      refine g_icmp_le (tgt := 21) C dX3_lead_16 (by decide) rfl hw (fun _ hw => ?_) (fun _ hw => ?_)
      · refine g_aload_n C dX3_lead_21 0 rfl rfl ?_
        refine g_get (v := .ref (a 4)) (ci := 2) C dX3_lead_22 inw_X3 rfl 0 0 3 rfl rfl (Nat.le_of_ble_eq_true rfl) rfl fl_X3_21 rfl rfl ?_
        refine g_iload_n C dX3_lead_25 1 rfl rfl ?_
        refine g_iload_n C dX3_lead_26 2 rfl rfl ?_
        have hi27 := hw.1
        refine nm_el hw.2 (fun t_nx2 et_nx2 hw => ?_)
        refine g_iast (f := t_nx) (f' := t_nx2) (gs' := [gPar cI a (t_kd, t_fg, t_hd, t_nx2, t_bu, t_st, t_we, t_cu, t_ho, t_dr)]) C dX3_lead_27 0 4 rfl rfl 0 rfl hi27 et_nx2.symm rfl rfl ?_
        refine g_iconst (v := 1) C dX3_lead_28 rfl rfl ?_
        exact hret 29 (1 : Int32) (t_kd, t_fg, t_hd, t_nx2, t_bu, t_st, t_we, t_cu, t_ho, t_dr) _ dX3_lead_29 ⟨rfl, rfl⟩ hw
      · refine g_iconst (v := 0) C dX3_lead_19 rfl rfl ?_
        exact hret 20 (0 : Int32) (t_kd, t_fg, t_hd, t_nx, t_bu, t_st, t_we, t_cu, t_ho, t_dr) _ dX3_lead_20 ⟨rfl, rfl⟩ hw
set_option maxRecDepth 100000 in
theorem c_X3_lead (l : Launch) (D : va_G) (cI cQ : ClassId) (a : Nat → Nat) (t : PT) (p1 : Int32) (p2 : Int32) (post : Int32 → PT → Prop) (sz : Nat) : Met l yX3_lead (wsY yX3_lead cX3_lead 3 (some .boolean)) (rmL 1 0 0 21) (xP D (tyL cI cQ) [.ref (a 0), .int p1, .int p2] [gPar cI a t] sz (p_X3_lead t p1 p2 post)) (xQi D (tyL cI cQ) post (fun (u : PT) => [gPar cI a u]) (va_A [gPar cI a t].flatten sz)) 0 0 (va_A [gPar cI a t].flatten sz) :=
  Met_z pn_X3 (Nat.le_of_ble_eq_true rfl) (fun p e s mi below meth co A Q _ C hret hw => w_X3_lead a t p1 p2 C hret hw)
theorem kV_X3_lead : Cond.instanceMethod yX3_lead ∈ gTbl ∧ Cond.selects yX3_lead.cls yX3_lead yX3_lead ∈ gTbl ∧ Cond.initialized yX3_lead.cls ∈ gTbl ∧ Cond.code yX3_lead cX3_lead 3 (some .boolean) ∈ gTbl ∧ (yX3_lead.cls ≠ "java/lang/invoke/MethodHandle" ∧ yX3_lead.cls ≠ "java/lang/invoke/VarHandle" ∧ (parseMethodDescriptor yX3_lead.desc).map (fun d => d.parameters.length) = some 2) := ⟨im_X3_lead, sl_X3_lead, in_X3, cd_X3_lead, (by decide +kernel)⟩
set_option maxRecDepth 100000 in
def p_X3_blockOrFree (t : PT) (p1 : Int32) (post : Int32 → PT → Prop) : Prop := (fun (t_kd : F1) (t_fg : F1) (t_hd : F1) (t_nx : F1) (t_bu : Int32) (t_st : Int32) (t_we : Int32) (t_cu : Int32) (t_ho : Int32) (t_dr : Int32) => p_X3_there (t_kd, t_fg, t_hd, t_nx, t_bu, t_st, t_we, t_cu, t_ho, t_dr) p1 (fun (r1 : Int32) => ((r1 = 0 → post (0 : Int32) (t_kd, t_fg, t_hd, t_nx, t_bu, t_st, t_we, t_cu, t_ho, t_dr)) ∧ (¬ r1 = 0 → nm ((t_st ^^^ ((1 : Int32) <<< (p1 &&& 31))) : Int32) (fun (v2 : Int32) => post (1 : Int32) (t_kd, t_fg, t_hd, t_nx, t_bu, v2, t_we, t_cu, t_ho, t_dr)))))) t.1 t.2.1 t.2.2.1 t.2.2.2.1 t.2.2.2.2.1 t.2.2.2.2.2.1 t.2.2.2.2.2.2.1 t.2.2.2.2.2.2.2.1 t.2.2.2.2.2.2.2.2.1 t.2.2.2.2.2.2.2.2.2
set_option maxHeartbeats 4000000 in
set_option maxRecDepth 100000 in
theorem w_X3_blockOrFree {p : Program} {l : Launch} {e : Env} {s : State} {mi : MethodId} {args : Array Value} {below : List Frame} {meth : Method} {co : Code} {D : va_G} {cI cQ : ClassId} {A : Nat → Prop} {Q : State → Prop} (a : Nat → Nat) (t : PT) (p1 : Int32) {post : Int32 → PT → Prop} (C : xC p s mi args co cX3_blockOrFree RX3 2 D (tyL cI cQ) A) (hret : ∀ (pc : Nat) (r : Int32) (u : PT) (lv : List (Nat × Value)), decode cX3_blockOrFree pc = .ok (.ireturn, 1) → bz r → post r u → xG p l e (rmL 1 0 0 21) s mi args below meth co D A 2 Q 0 0 pc [.int r] [gPar cI a u] lv) (hw : p_X3_blockOrFree t p1 post) : xG p l e (rmL 1 0 0 21) s mi args below meth co D A 2 Q 0 0 0 [] [gPar cI a t] [(0, .ref (a 0)), (1, .int p1)] := by
  unfold p_X3_blockOrFree at hw
  obtain ⟨t_kd, t_fg, t_hd, t_nx, t_bu, t_st, t_we, t_cu, t_ho, t_dr⟩ := t
  try dsimp only at hw
  show xG p l e (rmL 1 0 0 21) s mi args below meth co D A 2 Q 0 0 0 [] [gPar cI a (t_kd, t_fg, t_hd, t_nx, t_bu, t_st, t_we, t_cu, t_ho, t_dr)] [(0, .ref (a 0)), (1, .int p1)]
  refine g_aload_n C dX3_blockOrFree_0 0 rfl rfl ?_
  refine g_iload_n C dX3_blockOrFree_1 1 rfl rfl ?_
  refine g_callVi (As := [.int p1]) (gr := []) C (c_X3_there l D cI cQ a (t_kd, t_fg, t_hd, t_nx, t_bu, t_st, t_we, t_cu, t_ho, t_dr) p1 _) dX3_blockOrFree_2 ⟨ml_X3_46, kV_X3_there⟩ ⟨Nat.le_of_ble_eq_true rfl, Nat.le_of_ble_eq_true rfl⟩ ⟨Nat.le_refl _, Nat.le_refl _⟩ rfl rfl 0 0 rfl rfl [0] 1 rfl pma_0 rfl rfl rfl (Nat.le_of_ble_eq_true rfl) rfl (fun (u : Unit) => [gPar cI a (t_kd, t_fg, t_hd, t_nx, t_bu, t_st, t_we, t_cu, t_ho, t_dr)]) [0] 1 (fun _ => rfl) pma_0 (fun _ => rfl) hw (fun r1 u1 hw => ?_)
  refine g_if_ne (tgt := 10) C dX3_blockOrFree_5 (by decide) rfl hw (fun _ hw => ?_) (fun _ hw => ?_)
  · refine g_aload_n C dX3_blockOrFree_10 0 rfl rfl ?_
    refine g_dup C dX3_blockOrFree_11 rfl rfl ?_
    refine g_get (v := .int t_st) (ci := 2) C dX3_blockOrFree_12 inw_X3 rfl 0 0 5 rfl rfl (Nat.le_of_ble_eq_true rfl) rfl fl_X3_34 rfl rfl ?_
    refine g_iconst (v := 1) C dX3_blockOrFree_15 rfl rfl ?_
    refine g_iload_n C dX3_blockOrFree_16 1 rfl rfl ?_
    refine g_ishl C dX3_blockOrFree_17 rfl ?_
    refine g_ixor C dX3_blockOrFree_18 rfl ?_
    refine nm_el hw (fun v2 ev2 hw => ?_)
    refine g_put (v' := .int v2) (ty := .int) (ci := 2) (gs' := [gPar cI a (t_kd, t_fg, t_hd, t_nx, t_bu, v2, t_we, t_cu, t_ho, t_dr)]) C dX3_blockOrFree_19 inw_X3 tyX3 tyX3_ok nmX3 rfl 0 0 5 rfl rfl (Nat.le_of_ble_eq_true rfl) rfl fl_X3_34 rfl fd_I (congrArg Value.int ev2.symm) rfl rfl (Nat.le_of_ble_eq_true rfl) rfl rfl ?_
    refine g_iconst (v := 1) C dX3_blockOrFree_22 rfl rfl ?_
    exact hret 23 (1 : Int32) (t_kd, t_fg, t_hd, t_nx, t_bu, v2, t_we, t_cu, t_ho, t_dr) _ dX3_blockOrFree_23 ⟨rfl, rfl⟩ hw
  · refine g_iconst (v := 0) C dX3_blockOrFree_8 rfl rfl ?_
    exact hret 9 (0 : Int32) (t_kd, t_fg, t_hd, t_nx, t_bu, t_st, t_we, t_cu, t_ho, t_dr) _ dX3_blockOrFree_9 ⟨rfl, rfl⟩ hw
set_option maxRecDepth 100000 in
theorem c_X3_blockOrFree (l : Launch) (D : va_G) (cI cQ : ClassId) (a : Nat → Nat) (t : PT) (p1 : Int32) (post : Int32 → PT → Prop) (sz : Nat) : Met l yX3_blockOrFree (wsY yX3_blockOrFree cX3_blockOrFree 2 (some .boolean)) (rmL 1 0 0 21) (xP D (tyL cI cQ) [.ref (a 0), .int p1] [gPar cI a t] sz (p_X3_blockOrFree t p1 post)) (xQi D (tyL cI cQ) post (fun (u : PT) => [gPar cI a u]) (va_A [gPar cI a t].flatten sz)) 0 0 (va_A [gPar cI a t].flatten sz) :=
  Met_z pn_X3 (Nat.le_of_ble_eq_true rfl) (fun p e s mi below meth co A Q _ C hret hw => w_X3_blockOrFree a t p1 C hret hw)
theorem kV_X3_blockOrFree : Cond.instanceMethod yX3_blockOrFree ∈ gTbl ∧ Cond.selects yX3_blockOrFree.cls yX3_blockOrFree yX3_blockOrFree ∈ gTbl ∧ Cond.initialized yX3_blockOrFree.cls ∈ gTbl ∧ Cond.code yX3_blockOrFree cX3_blockOrFree 2 (some .boolean) ∈ gTbl ∧ (yX3_blockOrFree.cls ≠ "java/lang/invoke/MethodHandle" ∧ yX3_blockOrFree.cls ≠ "java/lang/invoke/VarHandle" ∧ (parseMethodDescriptor yX3_blockOrFree.desc).map (fun d => d.parameters.length) = some 1) := ⟨im_X3_blockOrFree, sl_X3_blockOrFree, in_X3, cd_X3_blockOrFree, (by decide +kernel)⟩
set_option maxRecDepth 100000 in
def p_X3_block (t : PT) (p1 : Int32) (post : PT → Prop) : Prop := (fun (t_kd : F1) (t_fg : F1) (t_hd : F1) (t_nx : F1) (t_bu : Int32) (t_st : Int32) (t_we : Int32) (t_cu : Int32) (t_ho : Int32) (t_dr : Int32) => p_X3_there (t_kd, t_fg, t_hd, t_nx, t_bu, t_st, t_we, t_cu, t_ho, t_dr) p1 (fun (r1 : Int32) => ((r1 = 0 → post (t_kd, t_fg, t_hd, t_nx, t_bu, t_st, t_we, t_cu, t_ho, t_dr)) ∧ (¬ r1 = 0 → nm ((t_st ||| ((1 : Int32) <<< (p1 &&& 31))) : Int32) (fun (v2 : Int32) => post (t_kd, t_fg, t_hd, t_nx, t_bu, v2, t_we, t_cu, t_ho, t_dr)))))) t.1 t.2.1 t.2.2.1 t.2.2.2.1 t.2.2.2.2.1 t.2.2.2.2.2.1 t.2.2.2.2.2.2.1 t.2.2.2.2.2.2.2.1 t.2.2.2.2.2.2.2.2.1 t.2.2.2.2.2.2.2.2.2
set_option maxHeartbeats 4000000 in
set_option maxRecDepth 100000 in
theorem w_X3_block {p : Program} {l : Launch} {e : Env} {s : State} {mi : MethodId} {args : Array Value} {below : List Frame} {meth : Method} {co : Code} {D : va_G} {cI cQ : ClassId} {A : Nat → Prop} {Q : State → Prop} (a : Nat → Nat) (t : PT) (p1 : Int32) {post : PT → Prop} (C : xC p s mi args co cX3_block RX3 2 D (tyL cI cQ) A) (hret : ∀ (pc : Nat) (u : PT) (lv : List (Nat × Value)), decode cX3_block pc = .ok (.return_, 1) → post u → xG p l e (rmL 1 0 0 21) s mi args below meth co D A 2 Q 0 0 pc [] [gPar cI a u] lv) (hw : p_X3_block t p1 post) : xG p l e (rmL 1 0 0 21) s mi args below meth co D A 2 Q 0 0 0 [] [gPar cI a t] [(0, .ref (a 0)), (1, .int p1)] := by
  unfold p_X3_block at hw
  obtain ⟨t_kd, t_fg, t_hd, t_nx, t_bu, t_st, t_we, t_cu, t_ho, t_dr⟩ := t
  try dsimp only at hw
  show xG p l e (rmL 1 0 0 21) s mi args below meth co D A 2 Q 0 0 0 [] [gPar cI a (t_kd, t_fg, t_hd, t_nx, t_bu, t_st, t_we, t_cu, t_ho, t_dr)] [(0, .ref (a 0)), (1, .int p1)]
  refine g_aload_n C dX3_block_0 0 rfl rfl ?_
  refine g_iload_n C dX3_block_1 1 rfl rfl ?_
  refine g_callVi (As := [.int p1]) (gr := []) C (c_X3_there l D cI cQ a (t_kd, t_fg, t_hd, t_nx, t_bu, t_st, t_we, t_cu, t_ho, t_dr) p1 _) dX3_block_2 ⟨ml_X3_46, kV_X3_there⟩ ⟨Nat.le_of_ble_eq_true rfl, Nat.le_of_ble_eq_true rfl⟩ ⟨Nat.le_refl _, Nat.le_refl _⟩ rfl rfl 0 0 rfl rfl [0] 1 rfl pma_0 rfl rfl rfl (Nat.le_of_ble_eq_true rfl) rfl (fun (u : Unit) => [gPar cI a (t_kd, t_fg, t_hd, t_nx, t_bu, t_st, t_we, t_cu, t_ho, t_dr)]) [0] 1 (fun _ => rfl) pma_0 (fun _ => rfl) hw (fun r1 u1 hw => ?_)
  refine g_if_eq (tgt := 20) C dX3_block_5 (by decide) rfl hw (fun _ hw => ?_) (fun _ hw => ?_)
  · exact hret 20 (t_kd, t_fg, t_hd, t_nx, t_bu, t_st, t_we, t_cu, t_ho, t_dr) _ dX3_block_20 hw
  · refine g_aload_n C dX3_block_8 0 rfl rfl ?_
    refine g_dup C dX3_block_9 rfl rfl ?_
    refine g_get (v := .int t_st) (ci := 2) C dX3_block_10 inw_X3 rfl 0 0 5 rfl rfl (Nat.le_of_ble_eq_true rfl) rfl fl_X3_34 rfl rfl ?_
    refine g_iconst (v := 1) C dX3_block_13 rfl rfl ?_
    refine g_iload_n C dX3_block_14 1 rfl rfl ?_
    refine g_ishl C dX3_block_15 rfl ?_
    refine g_ior C dX3_block_16 rfl ?_
    refine nm_el hw (fun v2 ev2 hw => ?_)
    refine g_put (v' := .int v2) (ty := .int) (ci := 2) (gs' := [gPar cI a (t_kd, t_fg, t_hd, t_nx, t_bu, v2, t_we, t_cu, t_ho, t_dr)]) C dX3_block_17 inw_X3 tyX3 tyX3_ok nmX3 rfl 0 0 5 rfl rfl (Nat.le_of_ble_eq_true rfl) rfl fl_X3_34 rfl fd_I (congrArg Value.int ev2.symm) rfl rfl (Nat.le_of_ble_eq_true rfl) rfl rfl ?_
    exact hret 20 (t_kd, t_fg, t_hd, t_nx, t_bu, v2, t_we, t_cu, t_ho, t_dr) _ dX3_block_20 hw
set_option maxRecDepth 100000 in
theorem c_X3_block (l : Launch) (D : va_G) (cI cQ : ClassId) (a : Nat → Nat) (t : PT) (p1 : Int32) (post : PT → Prop) (sz : Nat) : Met l yX3_block (wsY yX3_block cX3_block 2 none) (rmL 1 0 0 21) (xP D (tyL cI cQ) [.ref (a 0), .int p1] [gPar cI a t] sz (p_X3_block t p1 post)) (xQv D (tyL cI cQ) post (fun (u : PT) => [gPar cI a u]) (va_A [gPar cI a t].flatten sz)) 0 0 (va_A [gPar cI a t].flatten sz) :=
  Met_v pn_X3 (Nat.le_of_ble_eq_true rfl) (fun p e s mi below meth co A Q _ C hret hw => w_X3_block a t p1 C hret hw)
theorem kV_X3_block : Cond.instanceMethod yX3_block ∈ gTbl ∧ Cond.selects yX3_block.cls yX3_block yX3_block ∈ gTbl ∧ Cond.initialized yX3_block.cls ∈ gTbl ∧ Cond.code yX3_block cX3_block 2 none ∈ gTbl ∧ (yX3_block.cls ≠ "java/lang/invoke/MethodHandle" ∧ yX3_block.cls ≠ "java/lang/invoke/VarHandle" ∧ (parseMethodDescriptor yX3_block.desc).map (fun d => d.parameters.length) = some 1) := ⟨im_X3_block, sl_X3_block, in_X3, cd_X3_block, (by decide +kernel)⟩
set_option maxRecDepth 100000 in
def p_X3_free (t : PT) (p1 : Int32) (post : PT → Prop) : Prop := (fun (t_kd : F1) (t_fg : F1) (t_hd : F1) (t_nx : F1) (t_bu : Int32) (t_st : Int32) (t_we : Int32) (t_cu : Int32) (t_ho : Int32) (t_dr : Int32) => nm ((t_st &&& (p1 ^^^ (-1 : Int32))) : Int32) (fun (v1 : Int32) => post (t_kd, t_fg, t_hd, t_nx, t_bu, v1, t_we, t_cu, t_ho, t_dr))) t.1 t.2.1 t.2.2.1 t.2.2.2.1 t.2.2.2.2.1 t.2.2.2.2.2.1 t.2.2.2.2.2.2.1 t.2.2.2.2.2.2.2.1 t.2.2.2.2.2.2.2.2.1 t.2.2.2.2.2.2.2.2.2
set_option maxHeartbeats 4000000 in
set_option maxRecDepth 100000 in
theorem w_X3_free {p : Program} {l : Launch} {e : Env} {s : State} {mi : MethodId} {args : Array Value} {below : List Frame} {meth : Method} {co : Code} {D : va_G} {cI cQ : ClassId} {A : Nat → Prop} {Q : State → Prop} (a : Nat → Nat) (t : PT) (p1 : Int32) {post : PT → Prop} (C : xC p s mi args co cX3_free RX3 2 D (tyL cI cQ) A) (hret : ∀ (pc : Nat) (u : PT) (lv : List (Nat × Value)), decode cX3_free pc = .ok (.return_, 1) → post u → xG p l e (rmL 0 0 0 0) s mi args below meth co D A 2 Q 0 0 pc [] [gPar cI a u] lv) (hw : p_X3_free t p1 post) : xG p l e (rmL 0 0 0 0) s mi args below meth co D A 2 Q 0 0 0 [] [gPar cI a t] [(0, .ref (a 0)), (1, .int p1)] := by
  unfold p_X3_free at hw
  obtain ⟨t_kd, t_fg, t_hd, t_nx, t_bu, t_st, t_we, t_cu, t_ho, t_dr⟩ := t
  try dsimp only at hw
  show xG p l e (rmL 0 0 0 0) s mi args below meth co D A 2 Q 0 0 0 [] [gPar cI a (t_kd, t_fg, t_hd, t_nx, t_bu, t_st, t_we, t_cu, t_ho, t_dr)] [(0, .ref (a 0)), (1, .int p1)]
  refine g_aload_n C dX3_free_0 0 rfl rfl ?_
  refine g_dup C dX3_free_1 rfl rfl ?_
  refine g_get (v := .int t_st) (ci := 2) C dX3_free_2 inw_X3 rfl 0 0 5 rfl rfl (Nat.le_of_ble_eq_true rfl) rfl fl_X3_34 rfl rfl ?_
  refine g_iload_n C dX3_free_5 1 rfl rfl ?_
  refine g_iconst (v := -1) C dX3_free_6 (by decide) rfl ?_
  refine g_ixor C dX3_free_7 rfl ?_
  refine g_iand C dX3_free_8 rfl ?_
  refine nm_el hw (fun v1 ev1 hw => ?_)
  refine g_put (v' := .int v1) (ty := .int) (ci := 2) (gs' := [gPar cI a (t_kd, t_fg, t_hd, t_nx, t_bu, v1, t_we, t_cu, t_ho, t_dr)]) C dX3_free_9 inw_X3 tyX3 tyX3_ok nmX3 rfl 0 0 5 rfl rfl (Nat.le_of_ble_eq_true rfl) rfl fl_X3_34 rfl fd_I (congrArg Value.int ev1.symm) rfl rfl (Nat.le_of_ble_eq_true rfl) rfl rfl ?_
  exact hret 12 (t_kd, t_fg, t_hd, t_nx, t_bu, v1, t_we, t_cu, t_ho, t_dr) _ dX3_free_12 hw
set_option maxRecDepth 100000 in
theorem c_X3_free (l : Launch) (D : va_G) (cI cQ : ClassId) (a : Nat → Nat) (t : PT) (p1 : Int32) (post : PT → Prop) (sz : Nat) : Met l yX3_free (wsY yX3_free cX3_free 2 none) (rmL 0 0 0 0) (xP D (tyL cI cQ) [.ref (a 0), .int p1] [gPar cI a t] sz (p_X3_free t p1 post)) (xQv D (tyL cI cQ) post (fun (u : PT) => [gPar cI a u]) (va_A [gPar cI a t].flatten sz)) 0 0 (va_A [gPar cI a t].flatten sz) :=
  Met_v pn_X3 (Nat.le_of_ble_eq_true rfl) (fun p e s mi below meth co A Q _ C hret hw => w_X3_free a t p1 C hret hw)
theorem kV_X3_free : Cond.instanceMethod yX3_free ∈ gTbl ∧ Cond.selects yX3_free.cls yX3_free yX3_free ∈ gTbl ∧ Cond.initialized yX3_free.cls ∈ gTbl ∧ Cond.code yX3_free cX3_free 2 none ∈ gTbl ∧ (yX3_free.cls ≠ "java/lang/invoke/MethodHandle" ∧ yX3_free.cls ≠ "java/lang/invoke/VarHandle" ∧ (parseMethodDescriptor yX3_free.desc).map (fun d => d.parameters.length) = some 1) := ⟨im_X3_free, sl_X3_free, in_X3, cd_X3_free, (by decide +kernel)⟩
set_option maxRecDepth 100000 in
def p_X3_fill (t : PT) (p1 : Int32) (p2 : Int32) (post : Int32 → PT → Prop) : Prop := (fun (t_kd : F1) (t_fg : F1) (t_hd : F1) (t_nx : F1) (t_bu : Int32) (t_st : Int32) (t_we : Int32) (t_cu : Int32) (t_ho : Int32) (t_dr : Int32) => p_X3_there (t_kd, t_fg, t_hd, t_nx, t_bu, t_st, t_we, t_cu, t_ho, t_dr) p1 (fun (r1 : Int32) => ((r1 = 0 → post (0 : Int32) (t_kd, t_fg, t_hd, t_nx, t_bu, t_st, t_we, t_cu, t_ho, t_dr)) ∧ (¬ r1 = 0 → (vp_in p1 9 ∧ (vp_in p1 9 ∧ nm (upd t_hd (p1).toNatClampNeg (if ((t_hd (p1).toNatClampNeg) + p2) < (99 : Int32) then ((t_hd (p1).toNatClampNeg) + p2) else (99 : Int32))) (fun (t_hd2 : F1) => ((p2 ≤ 0 → post (1 : Int32) (t_kd, t_fg, t_hd2, t_nx, t_bu, t_st, t_we, t_cu, t_ho, t_dr)) ∧ (¬ p2 ≤ 0 → nm ((t_we ||| ((1 : Int32) <<< (p1 &&& 31))) : Int32) (fun (v3 : Int32) => post (1 : Int32) (t_kd, t_fg, t_hd2, t_nx, t_bu, t_st, v3, t_cu, t_ho, t_dr))))))))))) t.1 t.2.1 t.2.2.1 t.2.2.2.1 t.2.2.2.2.1 t.2.2.2.2.2.1 t.2.2.2.2.2.2.1 t.2.2.2.2.2.2.2.1 t.2.2.2.2.2.2.2.2.1 t.2.2.2.2.2.2.2.2.2
set_option maxHeartbeats 4000000 in
set_option maxRecDepth 100000 in
theorem w_X3_fill {p : Program} {l : Launch} {e : Env} {s : State} {mi : MethodId} {args : Array Value} {below : List Frame} {meth : Method} {co : Code} {D : va_G} {cI cQ : ClassId} {A : Nat → Prop} {Q : State → Prop} (a : Nat → Nat) (t : PT) (p1 : Int32) (p2 : Int32) {post : Int32 → PT → Prop} (C : xC p s mi args co cX3_fill RX3 3 D (tyL cI cQ) A) (hret : ∀ (pc : Nat) (r : Int32) (u : PT) (lv : List (Nat × Value)), decode cX3_fill pc = .ok (.ireturn, 1) → bz r → post r u → xG p l e (rmL 1 0 0 22) s mi args below meth co D A 3 Q 0 0 pc [.int r] [gPar cI a u] lv) (hw : p_X3_fill t p1 p2 post) : xG p l e (rmL 1 0 0 22) s mi args below meth co D A 3 Q 0 0 0 [] [gPar cI a t] [(0, .ref (a 0)), (1, .int p1), (2, .int p2)] := by
  unfold p_X3_fill at hw
  obtain ⟨t_kd, t_fg, t_hd, t_nx, t_bu, t_st, t_we, t_cu, t_ho, t_dr⟩ := t
  try dsimp only at hw
  show xG p l e (rmL 1 0 0 22) s mi args below meth co D A 3 Q 0 0 0 [] [gPar cI a (t_kd, t_fg, t_hd, t_nx, t_bu, t_st, t_we, t_cu, t_ho, t_dr)] [(0, .ref (a 0)), (1, .int p1), (2, .int p2)]
  refine g_aload_n C dX3_fill_0 0 rfl rfl ?_
  refine g_iload_n C dX3_fill_1 1 rfl rfl ?_
  refine g_callVi (As := [.int p1]) (gr := []) C (c_X3_there l D cI cQ a (t_kd, t_fg, t_hd, t_nx, t_bu, t_st, t_we, t_cu, t_ho, t_dr) p1 _) dX3_fill_2 ⟨ml_X3_46, kV_X3_there⟩ ⟨Nat.le_of_ble_eq_true rfl, Nat.le_of_ble_eq_true rfl⟩ ⟨Nat.le_refl _, Nat.le_refl _⟩ rfl rfl 0 0 rfl rfl [0] 1 rfl pma_0 rfl rfl rfl (Nat.le_of_ble_eq_true rfl) rfl (fun (u : Unit) => [gPar cI a (t_kd, t_fg, t_hd, t_nx, t_bu, t_st, t_we, t_cu, t_ho, t_dr)]) [0] 1 (fun _ => rfl) pma_0 (fun _ => rfl) hw (fun r1 u1 hw => ?_)
  refine g_if_ne (tgt := 10) C dX3_fill_5 (by decide) rfl hw (fun _ hw => ?_) (fun _ hw => ?_)
  · refine g_aload_n C dX3_fill_10 0 rfl rfl ?_
    refine g_get (v := .ref (a 3)) (ci := 2) C dX3_fill_11 inw_X3 rfl 0 0 2 rfl rfl (Nat.le_of_ble_eq_true rfl) rfl fl_X3_18 rfl rfl ?_
    refine g_iload_n C dX3_fill_14 1 rfl rfl ?_
    refine g_bipush (v := 99) C dX3_fill_15 (by decide) rfl ?_
    refine g_aload_n C dX3_fill_17 0 rfl rfl ?_
    refine g_get (v := .ref (a 3)) (ci := 2) C dX3_fill_18 inw_X3 rfl 0 0 2 rfl rfl (Nat.le_of_ble_eq_true rfl) rfl fl_X3_18 rfl rfl ?_
    refine g_iload_n C dX3_fill_21 1 rfl rfl ?_
    have hi22 := hw.1
    replace hw := hw.2
    refine g_iald (f := t_hd) C dX3_fill_22 0 3 rfl rfl 0 rfl hi22 rfl ?_
    refine g_iload_n C dX3_fill_23 2 rfl rfl ?_
    refine g_iadd C dX3_fill_24 rfl ?_
    refine g_mmin C dX3_fill_25 ml_X3_60 sm_J9_min_7cf53 in_J9 cd_min ⟨Nat.le_of_ble_eq_true rfl, Nat.le_of_ble_eq_true rfl⟩ ⟨Nat.le_of_ble_eq_true rfl, Nat.le_of_ble_eq_true rfl⟩ rfl ?_
    have hi28 := hw.1
    refine nm_el hw.2 (fun t_hd2 et_hd2 hw => ?_)
    refine g_iast (f := t_hd) (f' := t_hd2) (gs' := [gPar cI a (t_kd, t_fg, t_hd2, t_nx, t_bu, t_st, t_we, t_cu, t_ho, t_dr)]) C dX3_fill_28 0 3 rfl rfl 0 rfl hi28 et_hd2.symm rfl rfl ?_
    refine g_iload_n C dX3_fill_29 2 rfl rfl ?_
    refine g_if_le (tgt := 45) C dX3_fill_30 (by decide) rfl hw (fun _ hw => ?_) (fun _ hw => ?_)
    · refine g_iconst (v := 1) C dX3_fill_45 rfl rfl ?_
      exact hret 46 (1 : Int32) (t_kd, t_fg, t_hd2, t_nx, t_bu, t_st, t_we, t_cu, t_ho, t_dr) _ dX3_fill_46 ⟨rfl, rfl⟩ hw
    · refine g_aload_n C dX3_fill_33 0 rfl rfl ?_
      refine g_dup C dX3_fill_34 rfl rfl ?_
      refine g_get (v := .int t_we) (ci := 2) C dX3_fill_35 inw_X3 rfl 0 0 6 rfl rfl (Nat.le_of_ble_eq_true rfl) rfl fl_X3_37 rfl rfl ?_
      refine g_iconst (v := 1) C dX3_fill_38 rfl rfl ?_
      refine g_iload_n C dX3_fill_39 1 rfl rfl ?_
      refine g_ishl C dX3_fill_40 rfl ?_
      refine g_ior C dX3_fill_41 rfl ?_
      refine nm_el hw (fun v3 ev3 hw => ?_)
      refine g_put (v' := .int v3) (ty := .int) (ci := 2) (gs' := [gPar cI a (t_kd, t_fg, t_hd2, t_nx, t_bu, t_st, v3, t_cu, t_ho, t_dr)]) C dX3_fill_42 inw_X3 tyX3 tyX3_ok nmX3 rfl 0 0 6 rfl rfl (Nat.le_of_ble_eq_true rfl) rfl fl_X3_37 rfl fd_I (congrArg Value.int ev3.symm) rfl rfl (Nat.le_of_ble_eq_true rfl) rfl rfl ?_
      refine g_iconst (v := 1) C dX3_fill_45 rfl rfl ?_
      exact hret 46 (1 : Int32) (t_kd, t_fg, t_hd2, t_nx, t_bu, t_st, v3, t_cu, t_ho, t_dr) _ dX3_fill_46 ⟨rfl, rfl⟩ hw
  · refine g_iconst (v := 0) C dX3_fill_8 rfl rfl ?_
    exact hret 9 (0 : Int32) (t_kd, t_fg, t_hd, t_nx, t_bu, t_st, t_we, t_cu, t_ho, t_dr) _ dX3_fill_9 ⟨rfl, rfl⟩ hw
set_option maxRecDepth 100000 in
theorem c_X3_fill (l : Launch) (D : va_G) (cI cQ : ClassId) (a : Nat → Nat) (t : PT) (p1 : Int32) (p2 : Int32) (post : Int32 → PT → Prop) (sz : Nat) : Met l yX3_fill (wsY yX3_fill cX3_fill 3 (some .boolean)) (rmL 1 0 0 22) (xP D (tyL cI cQ) [.ref (a 0), .int p1, .int p2] [gPar cI a t] sz (p_X3_fill t p1 p2 post)) (xQi D (tyL cI cQ) post (fun (u : PT) => [gPar cI a u]) (va_A [gPar cI a t].flatten sz)) 0 0 (va_A [gPar cI a t].flatten sz) :=
  Met_z pn_X3 (Nat.le_of_ble_eq_true rfl) (fun p e s mi below meth co A Q _ C hret hw => w_X3_fill a t p1 p2 C hret hw)
theorem kV_X3_fill : Cond.instanceMethod yX3_fill ∈ gTbl ∧ Cond.selects yX3_fill.cls yX3_fill yX3_fill ∈ gTbl ∧ Cond.initialized yX3_fill.cls ∈ gTbl ∧ Cond.code yX3_fill cX3_fill 3 (some .boolean) ∈ gTbl ∧ (yX3_fill.cls ≠ "java/lang/invoke/MethodHandle" ∧ yX3_fill.cls ≠ "java/lang/invoke/VarHandle" ∧ (parseMethodDescriptor yX3_fill.desc).map (fun d => d.parameters.length) = some 2) := ⟨im_X3_fill, sl_X3_fill, in_X3, cd_X3_fill, (by decide +kernel)⟩
set_option maxRecDepth 100000 in
def p_X3_emptyCup (t : PT) (post : PT → Prop) : Prop := (fun (t_kd : F1) (t_fg : F1) (t_hd : F1) (t_nx : F1) (t_bu : Int32) (t_st : Int32) (t_we : Int32) (t_cu : Int32) (t_ho : Int32) (t_dr : Int32) => post (t_kd, t_fg, t_hd, t_nx, t_bu, t_st, t_we, (0 : Int32), t_ho, t_dr)) t.1 t.2.1 t.2.2.1 t.2.2.2.1 t.2.2.2.2.1 t.2.2.2.2.2.1 t.2.2.2.2.2.2.1 t.2.2.2.2.2.2.2.1 t.2.2.2.2.2.2.2.2.1 t.2.2.2.2.2.2.2.2.2
set_option maxHeartbeats 4000000 in
set_option maxRecDepth 100000 in
theorem w_X3_emptyCup {p : Program} {l : Launch} {e : Env} {s : State} {mi : MethodId} {args : Array Value} {below : List Frame} {meth : Method} {co : Code} {D : va_G} {cI cQ : ClassId} {A : Nat → Prop} {Q : State → Prop} (a : Nat → Nat) (t : PT) {post : PT → Prop} (C : xC p s mi args co cX3_emptyCup RX3 1 D (tyL cI cQ) A) (hret : ∀ (pc : Nat) (u : PT) (lv : List (Nat × Value)), decode cX3_emptyCup pc = .ok (.return_, 1) → post u → xG p l e (rmL 0 0 0 0) s mi args below meth co D A 1 Q 0 0 pc [] [gPar cI a u] lv) (hw : p_X3_emptyCup t post) : xG p l e (rmL 0 0 0 0) s mi args below meth co D A 1 Q 0 0 0 [] [gPar cI a t] [(0, .ref (a 0))] := by
  unfold p_X3_emptyCup at hw
  obtain ⟨t_kd, t_fg, t_hd, t_nx, t_bu, t_st, t_we, t_cu, t_ho, t_dr⟩ := t
  try dsimp only at hw
  show xG p l e (rmL 0 0 0 0) s mi args below meth co D A 1 Q 0 0 0 [] [gPar cI a (t_kd, t_fg, t_hd, t_nx, t_bu, t_st, t_we, t_cu, t_ho, t_dr)] [(0, .ref (a 0))]
  refine g_aload_n C dX3_emptyCup_0 0 rfl rfl ?_
  refine g_iconst (v := 0) C dX3_emptyCup_1 rfl rfl ?_
  refine g_put (v' := .int (0 : Int32)) (ty := .int) (ci := 2) (gs' := [gPar cI a (t_kd, t_fg, t_hd, t_nx, t_bu, t_st, t_we, (0 : Int32), t_ho, t_dr)]) C dX3_emptyCup_2 inw_X3 tyX3 tyX3_ok nmX3 rfl 0 0 7 rfl rfl (Nat.le_of_ble_eq_true rfl) rfl fl_X3_40 rfl fd_I rfl rfl rfl (Nat.le_of_ble_eq_true rfl) rfl rfl ?_
  exact hret 5 (t_kd, t_fg, t_hd, t_nx, t_bu, t_st, t_we, (0 : Int32), t_ho, t_dr) _ dX3_emptyCup_5 hw
set_option maxRecDepth 100000 in
theorem c_X3_emptyCup (l : Launch) (D : va_G) (cI cQ : ClassId) (a : Nat → Nat) (t : PT) (post : PT → Prop) (sz : Nat) : Met l yX3_emptyCup (wsY yX3_emptyCup cX3_emptyCup 1 none) (rmL 0 0 0 0) (xP D (tyL cI cQ) [.ref (a 0)] [gPar cI a t] sz (p_X3_emptyCup t post)) (xQv D (tyL cI cQ) post (fun (u : PT) => [gPar cI a u]) (va_A [gPar cI a t].flatten sz)) 0 0 (va_A [gPar cI a t].flatten sz) :=
  Met_v pn_X3 (Nat.le_of_ble_eq_true rfl) (fun p e s mi below meth co A Q _ C hret hw => w_X3_emptyCup a t C hret hw)
theorem kV_X3_emptyCup : Cond.instanceMethod yX3_emptyCup ∈ gTbl ∧ Cond.selects yX3_emptyCup.cls yX3_emptyCup yX3_emptyCup ∈ gTbl ∧ Cond.initialized yX3_emptyCup.cls ∈ gTbl ∧ Cond.code yX3_emptyCup cX3_emptyCup 1 none ∈ gTbl ∧ (yX3_emptyCup.cls ≠ "java/lang/invoke/MethodHandle" ∧ yX3_emptyCup.cls ≠ "java/lang/invoke/VarHandle" ∧ (parseMethodDescriptor yX3_emptyCup.desc).map (fun d => d.parameters.length) = some 0) := ⟨im_X3_emptyCup, sl_X3_emptyCup, in_X3, cd_X3_emptyCup, (by decide +kernel)⟩
set_option maxRecDepth 100000 in
def p_X3_flow (t : PT) (post : Int32 → PT → Prop) : Prop := (fun (t_kd : F1) (t_fg : F1) (t_hd : F1) (t_nx : F1) (t_bu : Int32) (t_st : Int32) (t_we : Int32) (t_cu : Int32) (t_ho : Int32) (t_dr : Int32) => lpN (fun (K13 : (Int32 × Int32 × F1 × F1 × F1 × F1 × Int32 × Int32 × Int32 × Int32 × Int32 × Int32) → Prop) (z13 : Int32 × Int32 × F1 × F1 × F1 × F1 × Int32 × Int32 × Int32 × Int32 × Int32 × Int32) => (fun (x1 : Int32) (x2 : Int32) (t_kd3 : F1) (t_fg4 : F1) (t_hd5 : F1) (t_nx6 : F1) (t_bu7 : Int32) (t_st8 : Int32) (t_we9 : Int32) (t_cu10 : Int32) (t_ho11 : Int32) (t_dr12 : Int32) => ((t_bu7 ≤ x2 → (bz x1 ∧ post x1 (t_kd3, t_fg4, t_hd5, t_nx6, t_bu7, t_st8, t_we9, t_cu10, t_ho11, t_dr12))) ∧ (¬ t_bu7 ≤ x2 → p_X3_isBlocked (t_kd3, t_fg4, t_hd5, t_nx6, t_bu7, t_st8, t_we9, t_cu10, t_ho11, t_dr12) x2 (fun (r14 : Int32) => jn (fun (z16 : Int32) => (fun (x15 : Int32) => ((x15 ≤ 0 → K13 (x1, (x2 + 1), t_kd3, t_fg4, t_hd5, t_nx6, t_bu7, t_st8, t_we9, t_cu10, t_ho11, t_dr12)) ∧ (¬ x15 ≤ 0 → (vp_in x2 9 ∧ (vp_in x2 9 ∧ nm (upd t_hd5 (x2).toNatClampNeg ((t_hd5 (x2).toNatClampNeg) - x15)) (fun (t_hd17 : F1) => (vp_in x2 9 ∧ (vp_in x2 9 ∧ p_X0_adds (t_kd3 (x2).toNatClampNeg) (t_fg4 (x2).toNatClampNeg) (fun (r18 : Int32) => nm ((x15 + r18) : Int32) (fun (v19 : Int32) => (vp_in x2 9 ∧ p_X3_fill (t_kd3, t_fg4, t_hd17, t_nx6, t_bu7, t_st8, t_we9, t_cu10, t_ho11, t_dr12) (t_nx6 (x2).toNatClampNeg) v19 (fun (r20 : Int32) (u20 : PT) => (fun (t_kd21 : F1) (t_fg22 : F1) (t_hd23 : F1) (t_nx24 : F1) (t_bu25 : Int32) (t_st26 : Int32) (t_we27 : Int32) (t_cu28 : Int32) (t_ho29 : Int32) (t_dr30 : Int32) => ((r20 = 0 → nm ((if (t_cu28 + v19) < (9999 : Int32) then (t_cu28 + v19) else (9999 : Int32)) : Int32) (fun (v31 : Int32) => K13 ((1 : Int32), (x2 + 1), t_kd21, t_fg22, t_hd23, t_nx24, t_bu25, t_st26, t_we27, v31, t_ho29, (1 : Int32)))) ∧ (¬ r20 = 0 → K13 ((1 : Int32), (x2 + 1), t_kd21, t_fg22, t_hd23, t_nx24, t_bu25, t_st26, t_we27, t_cu28, t_ho29, t_dr30)))) u20.1 u20.2.1 u20.2.2.1 u20.2.2.2.1 u20.2.2.2.2.1 u20.2.2.2.2.2.1 u20.2.2.2.2.2.2.1 u20.2.2.2.2.2.2.2.1 u20.2.2.2.2.2.2.2.2.1 u20.2.2.2.2.2.2.2.2.2)))))))))))) z16) (fun J16 => ((r14 = 0 → (vp_in x2 9 ∧ (vp_in x2 9 ∧ (vp_in x2 9 ∧ p_X0_letsThrough (t_kd3 (x2).toNatClampNeg) (t_fg4 (x2).toNatClampNeg) (t_hd5 (x2).toNatClampNeg) (fun (r32 : Int32) => J16 r32))))) ∧ (¬ r14 = 0 → J16 (0 : Int32)))))))) z13.1 z13.2.1 z13.2.2.1 z13.2.2.2.1 z13.2.2.2.2.1 z13.2.2.2.2.2.1 z13.2.2.2.2.2.2.1 z13.2.2.2.2.2.2.2.1 z13.2.2.2.2.2.2.2.2.1 z13.2.2.2.2.2.2.2.2.2.1 z13.2.2.2.2.2.2.2.2.2.2.1 z13.2.2.2.2.2.2.2.2.2.2.2) 1000 ((0 : Int32), (0 : Int32), t_kd, t_fg, t_hd, t_nx, t_bu, t_st, t_we, t_cu, t_ho, (0 : Int32))) t.1 t.2.1 t.2.2.1 t.2.2.2.1 t.2.2.2.2.1 t.2.2.2.2.2.1 t.2.2.2.2.2.2.1 t.2.2.2.2.2.2.2.1 t.2.2.2.2.2.2.2.2.1 t.2.2.2.2.2.2.2.2.2
set_option maxHeartbeats 4000000 in
set_option maxRecDepth 100000 in
theorem w_X3_flow {p : Program} {l : Launch} {e : Env} {s : State} {mi : MethodId} {args : Array Value} {below : List Frame} {meth : Method} {co : Code} {D : va_G} {cI cQ : ClassId} {A : Nat → Prop} {Q : State → Prop} (a : Nat → Nat) (t : PT) {post : Int32 → PT → Prop} (C : xC p s mi args co cX3_flow RX3 5 D (tyL cI cQ) A) (hret : ∀ (pc : Nat) (r : Int32) (u : PT) (lv : List (Nat × Value)), decode cX3_flow pc = .ok (.ireturn, 1) → bz r → post r u → xG p l e (rmL 2 0 0 46) s mi args below meth co D A 5 Q 0 0 pc [.int r] [gPar cI a u] lv) (hw : p_X3_flow t post) : xG p l e (rmL 2 0 0 46) s mi args below meth co D A 5 Q 0 0 0 [] [gPar cI a t] [(0, .ref (a 0))] := by
  unfold p_X3_flow at hw
  obtain ⟨t_kd, t_fg, t_hd, t_nx, t_bu, t_st, t_we, t_cu, t_ho, t_dr⟩ := t
  try dsimp only at hw
  show xG p l e (rmL 2 0 0 46) s mi args below meth co D A 5 Q 0 0 0 [] [gPar cI a (t_kd, t_fg, t_hd, t_nx, t_bu, t_st, t_we, t_cu, t_ho, t_dr)] [(0, .ref (a 0))]
  refine g_iconst (v := 0) C dX3_flow_0 rfl rfl ?_
  refine g_istore_n (v := (0 : Int32)) C dX3_flow_1 rfl (Nat.le_of_ble_eq_true rfl) (lv' := [(1, .int (0 : Int32)), (0, .ref (a 0))]) rfl rfl ?_
  refine g_aload_n C dX3_flow_2 1 rfl rfl ?_
  refine g_iconst (v := 0) C dX3_flow_3 rfl rfl ?_
  refine g_put (v' := .int (0 : Int32)) (ty := .boolean) (ci := 2) (gs' := [gPar cI a (t_kd, t_fg, t_hd, t_nx, t_bu, t_st, t_we, t_cu, t_ho, (0 : Int32))]) C dX3_flow_4 inw_X3 tyX3 tyX3_ok nmX3 rfl 0 0 9 rfl rfl (Nat.le_of_ble_eq_true rfl) rfl fl_X3_56 rfl fd_Z rfl rfl rfl (Nat.le_of_ble_eq_true rfl) rfl rfl ?_
  refine g_iconst (v := 0) C dX3_flow_7 rfl rfl ?_
  refine g_istore_n (v := (0 : Int32)) C dX3_flow_8 rfl (Nat.le_of_ble_eq_true rfl) (lv' := [(2, .int (0 : Int32)), (1, .int (0 : Int32)), (0, .ref (a 0))]) rfl rfl ?_
  refine g_lv [2, 1, 0] rfl ?_
  refine lpN_ind (G := (fun (z13 : Int32 × Int32 × F1 × F1 × F1 × F1 × Int32 × Int32 × Int32 × Int32 × Int32 × Int32) => (fun (x1 : Int32) (x2 : Int32) (t_kd3 : F1) (t_fg4 : F1) (t_hd5 : F1) (t_nx6 : F1) (t_bu7 : Int32) (t_st8 : Int32) (t_we9 : Int32) (t_cu10 : Int32) (t_ho11 : Int32) (t_dr12 : Int32) => xG p l e (rmL 2 0 0 46) s mi args below meth co D A 5 Q 0 0 9 [] [gPar cI a (t_kd3, t_fg4, t_hd5, t_nx6, t_bu7, t_st8, t_we9, t_cu10, t_ho11, t_dr12)] [(0, .ref (a 0)), (1, .int x1), (2, .int x2)]) z13.1 z13.2.1 z13.2.2.1 z13.2.2.2.1 z13.2.2.2.2.1 z13.2.2.2.2.2.1 z13.2.2.2.2.2.2.1 z13.2.2.2.2.2.2.2.1 z13.2.2.2.2.2.2.2.2.1 z13.2.2.2.2.2.2.2.2.2.1 z13.2.2.2.2.2.2.2.2.2.2.1 z13.2.2.2.2.2.2.2.2.2.2.2)) ?_ 1000 ((0 : Int32), (0 : Int32), t_kd, t_fg, t_hd, t_nx, t_bu, t_st, t_we, t_cu, t_ho, (0 : Int32)) hw
  rintro K13 ⟨x1, x2, t_kd3, t_fg4, t_hd5, t_nx6, t_bu7, t_st8, t_we9, t_cu10, t_ho11, t_dr12⟩ ih13 hw
  show xG p l e (rmL 2 0 0 46) s mi args below meth co D A 5 Q 0 0 9 [] [gPar cI a (t_kd3, t_fg4, t_hd5, t_nx6, t_bu7, t_st8, t_we9, t_cu10, t_ho11, t_dr12)] [(0, .ref (a 0)), (1, .int x1), (2, .int x2)]
  refine g_iload_n C dX3_flow_9 2 rfl rfl ?_
  refine g_aload_n C dX3_flow_10 0 rfl rfl ?_
  refine g_get (v := .int t_bu7) (ci := 2) C dX3_flow_11 inw_X3 rfl 0 0 4 rfl rfl (Nat.le_of_ble_eq_true rfl) rfl fl_X3_30 rfl rfl ?_
  refine g_icmp_ge (tgt := 129) C dX3_flow_14 (by decide) rfl hw (fun _ hw => ?_) (fun _ hw => ?_)
  · refine g_iload_n C dX3_flow_129 1 rfl rfl ?_
    exact hret 130 x1 (t_kd3, t_fg4, t_hd5, t_nx6, t_bu7, t_st8, t_we9, t_cu10, t_ho11, t_dr12) _ dX3_flow_130 hw.1 hw.2
  · refine g_aload_n C dX3_flow_17 0 rfl rfl ?_
    refine g_iload_n C dX3_flow_18 2 rfl rfl ?_
    refine g_callVi (As := [.int x2]) (gr := []) C (c_X3_isBlocked l D cI cQ a (t_kd3, t_fg4, t_hd5, t_nx6, t_bu7, t_st8, t_we9, t_cu10, t_ho11, t_dr12) x2 _) dX3_flow_19 ⟨ml_X3_66, kV_X3_isBlocked⟩ ⟨Nat.le_of_ble_eq_true rfl, Nat.le_of_ble_eq_true rfl⟩ ⟨Nat.le_refl _, Nat.le_refl _⟩ rfl rfl 0 0 rfl rfl [0] 1 rfl pma_0 rfl rfl rfl (Nat.le_of_ble_eq_true rfl) rfl (fun (u : Unit) => [gPar cI a (t_kd3, t_fg4, t_hd5, t_nx6, t_bu7, t_st8, t_we9, t_cu10, t_ho11, t_dr12)]) [0] 1 (fun _ => rfl) pma_0 (fun _ => rfl) hw (fun r14 u14 hw => ?_)
    refine jn_el hw (fun (z16 : Int32) => (fun (x15 : Int32) => xG p l e (rmL 2 0 0 46) s mi args below meth co D A 5 Q 0 0 50 [.int x15] [gPar cI a (t_kd3, t_fg4, t_hd5, t_nx6, t_bu7, t_st8, t_we9, t_cu10, t_ho11, t_dr12)] [(0, .ref (a 0)), (1, .int x1), (2, .int x2)]) z16) ?_ ?_
    · rintro x15 hw
      show xG p l e (rmL 2 0 0 46) s mi args below meth co D A 5 Q 0 0 50 [.int x15] [gPar cI a (t_kd3, t_fg4, t_hd5, t_nx6, t_bu7, t_st8, t_we9, t_cu10, t_ho11, t_dr12)] [(0, .ref (a 0)), (1, .int x1), (2, .int x2)]
      refine g_istore_n (v := x15) C dX3_flow_50 rfl (Nat.le_of_ble_eq_true rfl) (lv' := [(3, .int x15), (0, .ref (a 0)), (1, .int x1), (2, .int x2)]) rfl rfl ?_
      refine g_iload_n C dX3_flow_51 0 rfl rfl ?_
      refine g_if_le (tgt := 123) C dX3_flow_52 (by decide) rfl hw (fun _ hw => ?_) (fun _ hw => ?_)
      · refine g_iinc (v := (x2 + 1)) (j := 3) C dX3_flow_123 rfl rfl (Nat.le_of_ble_eq_true rfl) (lv' := [(2, .int (x2 + 1)), (3, .int x15), (0, .ref (a 0)), (1, .int x1)]) rfl rfl ?_
        refine g_goto (pc' := 9) C dX3_flow_126 (by decide) rfl ?_
        refine g_lv [2, 3, 0] rfl ?_
        exact ih13 (x1, (x2 + 1), t_kd3, t_fg4, t_hd5, t_nx6, t_bu7, t_st8, t_we9, t_cu10, t_ho11, t_dr12) hw
      · refine g_aload_n C dX3_flow_55 1 rfl rfl ?_
        refine g_get (v := .ref (a 3)) (ci := 2) C dX3_flow_56 inw_X3 rfl 0 0 2 rfl rfl (Nat.le_of_ble_eq_true rfl) rfl fl_X3_18 rfl rfl ?_
        refine g_iload_n C dX3_flow_59 3 rfl rfl ?_
        refine g_dup2 C dX3_flow_60 rfl rfl rfl ?_
        have hi61 := hw.1
        replace hw := hw.2
        refine g_iald (f := t_hd5) C dX3_flow_61 0 3 rfl rfl 0 rfl hi61 rfl ?_
        refine g_iload_n C dX3_flow_62 0 rfl rfl ?_
        refine g_isub C dX3_flow_63 rfl ?_
        have hi64 := hw.1
        refine nm_el hw.2 (fun t_hd17 et_hd17 hw => ?_)
        refine g_iast (f := t_hd5) (f' := t_hd17) (gs' := [gPar cI a (t_kd3, t_fg4, t_hd17, t_nx6, t_bu7, t_st8, t_we9, t_cu10, t_ho11, t_dr12)]) C dX3_flow_64 0 3 rfl rfl 0 rfl hi64 et_hd17.symm rfl rfl ?_
        refine g_iconst (v := 1) C dX3_flow_65 rfl rfl ?_
        refine g_istore_n (v := (1 : Int32)) C dX3_flow_66 rfl (Nat.le_of_ble_eq_true rfl) (lv' := [(1, .int (1 : Int32)), (3, .int x15), (0, .ref (a 0)), (2, .int x2)]) rfl rfl ?_
        refine g_iload_n C dX3_flow_67 1 rfl rfl ?_
        refine g_aload_n C dX3_flow_68 2 rfl rfl ?_
        refine g_get (v := .ref (a 1)) (ci := 2) C dX3_flow_69 inw_X3 rfl 0 0 0 rfl rfl (Nat.le_of_ble_eq_true rfl) rfl fl_X3_9 rfl rfl ?_
        refine g_iload_n C dX3_flow_72 3 rfl rfl ?_
        have hi73 := hw.1
        replace hw := hw.2
        refine g_iald (f := t_kd3) C dX3_flow_73 0 1 rfl rfl 0 rfl hi73 rfl ?_
        refine g_aload_n C dX3_flow_74 2 rfl rfl ?_
        refine g_get (v := .ref (a 2)) (ci := 2) C dX3_flow_75 inw_X3 rfl 0 0 1 rfl rfl (Nat.le_of_ble_eq_true rfl) rfl fl_X3_15 rfl rfl ?_
        refine g_iload_n C dX3_flow_78 3 rfl rfl ?_
        have hi79 := hw.1
        replace hw := hw.2
        refine g_iald (f := t_fg4) C dX3_flow_79 0 2 rfl rfl 0 rfl hi79 rfl ?_
        refine g_callSi (As := [.int (t_kd3 (x2).toNatClampNeg), .int (t_fg4 (x2).toNatClampNeg)]) (gr := [gPar cI a (t_kd3, t_fg4, t_hd17, t_nx6, t_bu7, t_st8, t_we9, t_cu10, t_ho11, t_dr12)]) C (c_X0_adds l D cI cQ   (t_kd3 (x2).toNatClampNeg) (t_fg4 (x2).toNatClampNeg) _) dX3_flow_80 ⟨ml_X3_69, kS_X0_adds⟩ ⟨Nat.le_of_ble_eq_true rfl, Nat.le_of_ble_eq_true rfl⟩ ⟨Nat.le_refl _, Nat.le_refl _⟩ [0] 1 rfl pma_0 rfl rfl rfl (Nat.le_of_ble_eq_true rfl) rfl (fun (u : Unit) => [gPar cI a (t_kd3, t_fg4, t_hd17, t_nx6, t_bu7, t_st8, t_we9, t_cu10, t_ho11, t_dr12)]) [0] 1 (fun _ => rfl) pma_0 (fun _ => rfl) hw (fun r18 u18 hw => ?_)
        refine g_iadd C dX3_flow_83 rfl ?_
        refine nm_el hw (fun v19 ev19 hw => ?_)
        refine g_istore (v := v19) C dX3_flow_84 ev19.symm (Nat.le_of_ble_eq_true rfl) (lv' := [(4, .int v19), (1, .int (1 : Int32)), (3, .int x15), (0, .ref (a 0)), (2, .int x2)]) rfl rfl ?_
        refine g_aload_n C dX3_flow_86 3 rfl rfl ?_
        refine g_aload_n C dX3_flow_87 3 rfl rfl ?_
        refine g_get (v := .ref (a 4)) (ci := 2) C dX3_flow_88 inw_X3 rfl 0 0 3 rfl rfl (Nat.le_of_ble_eq_true rfl) rfl fl_X3_21 rfl rfl ?_
        refine g_iload_n C dX3_flow_91 4 rfl rfl ?_
        have hi92 := hw.1
        replace hw := hw.2
        refine g_iald (f := t_nx6) C dX3_flow_92 0 4 rfl rfl 0 rfl hi92 rfl ?_
        refine g_iload C dX3_flow_93 0 rfl rfl ?_
        refine g_callVi (As := [.int (t_nx6 (x2).toNatClampNeg), .int v19]) (gr := []) C (c_X3_fill l D cI cQ a (t_kd3, t_fg4, t_hd17, t_nx6, t_bu7, t_st8, t_we9, t_cu10, t_ho11, t_dr12) (t_nx6 (x2).toNatClampNeg) v19 _) dX3_flow_95 ⟨ml_X3_72, kV_X3_fill⟩ ⟨Nat.le_of_ble_eq_true rfl, Nat.le_of_ble_eq_true rfl⟩ ⟨Nat.le_refl _, Nat.le_refl _⟩ rfl rfl 0 0 rfl rfl [0] 1 rfl pma_0 rfl rfl rfl (Nat.le_of_ble_eq_true rfl) rfl (fun (u : PT) => [gPar cI a u]) [0] 1 (fun _ => rfl) pma_0 (fun _ => rfl) hw (fun r20 u20 hw => ?_)
        obtain ⟨t_kd21, t_fg22, t_hd23, t_nx24, t_bu25, t_st26, t_we27, t_cu28, t_ho29, t_dr30⟩ := u20
        refine g_if_ne (tgt := 123) C dX3_flow_98 (by decide) rfl hw (fun _ hw => ?_) (fun _ hw => ?_)
        · refine g_iinc (v := (x2 + 1)) (j := 4) C dX3_flow_123 rfl rfl (Nat.le_of_ble_eq_true rfl) (lv' := [(2, .int (x2 + 1)), (4, .int v19), (1, .int (1 : Int32)), (3, .int x15), (0, .ref (a 0))]) rfl rfl ?_
          refine g_goto (pc' := 9) C dX3_flow_126 (by decide) rfl ?_
          refine g_lv [4, 2, 0] rfl ?_
          exact ih13 ((1 : Int32), (x2 + 1), t_kd21, t_fg22, t_hd23, t_nx24, t_bu25, t_st26, t_we27, t_cu28, t_ho29, t_dr30) hw
        · refine g_aload_n C dX3_flow_101 3 rfl rfl ?_
          refine g_sipush (v := 9999) C dX3_flow_102 (by decide) rfl ?_
          refine g_aload_n C dX3_flow_105 3 rfl rfl ?_
          refine g_get (v := .int t_cu28) (ci := 2) C dX3_flow_106 inw_X3 rfl 0 0 7 rfl rfl (Nat.le_of_ble_eq_true rfl) rfl fl_X3_40 rfl rfl ?_
          refine g_iload C dX3_flow_109 0 rfl rfl ?_
          refine g_iadd C dX3_flow_111 rfl ?_
          refine g_mmin C dX3_flow_112 ml_X3_60 sm_J9_min_7cf53 in_J9 cd_min ⟨Nat.le_of_ble_eq_true rfl, Nat.le_of_ble_eq_true rfl⟩ ⟨Nat.le_of_ble_eq_true rfl, Nat.le_of_ble_eq_true rfl⟩ rfl ?_
          refine nm_el hw (fun v31 ev31 hw => ?_)
          refine g_put (v' := .int v31) (ty := .int) (ci := 2) (gs' := [gPar cI a (t_kd21, t_fg22, t_hd23, t_nx24, t_bu25, t_st26, t_we27, v31, t_ho29, t_dr30)]) C dX3_flow_115 inw_X3 tyX3 tyX3_ok nmX3 rfl 0 0 7 rfl rfl (Nat.le_of_ble_eq_true rfl) rfl fl_X3_40 rfl fd_I (congrArg Value.int ev31.symm) rfl rfl (Nat.le_of_ble_eq_true rfl) rfl rfl ?_
          refine g_aload_n C dX3_flow_118 3 rfl rfl ?_
          refine g_iconst (v := 1) C dX3_flow_119 rfl rfl ?_
          refine g_put (v' := .int (1 : Int32)) (ty := .boolean) (ci := 2) (gs' := [gPar cI a (t_kd21, t_fg22, t_hd23, t_nx24, t_bu25, t_st26, t_we27, v31, t_ho29, (1 : Int32))]) C dX3_flow_120 inw_X3 tyX3 tyX3_ok nmX3 rfl 0 0 9 rfl rfl (Nat.le_of_ble_eq_true rfl) rfl fl_X3_56 rfl fd_Z rfl rfl rfl (Nat.le_of_ble_eq_true rfl) rfl rfl ?_
          refine g_iinc (v := (x2 + 1)) (j := 4) C dX3_flow_123 rfl rfl (Nat.le_of_ble_eq_true rfl) (lv' := [(2, .int (x2 + 1)), (4, .int v19), (1, .int (1 : Int32)), (3, .int x15), (0, .ref (a 0))]) rfl rfl ?_
          refine g_goto (pc' := 9) C dX3_flow_126 (by decide) rfl ?_
          refine g_lv [4, 2, 0] rfl ?_
          exact ih13 ((1 : Int32), (x2 + 1), t_kd21, t_fg22, t_hd23, t_nx24, t_bu25, t_st26, t_we27, v31, t_ho29, (1 : Int32)) hw
    · intro J16 hJ16 hw
      refine g_if_eq (tgt := 29) C dX3_flow_22 (by decide) rfl hw (fun _ hw => ?_) (fun _ hw => ?_)
      · refine g_aload_n C dX3_flow_29 0 rfl rfl ?_
        refine g_get (v := .ref (a 1)) (ci := 2) C dX3_flow_30 inw_X3 rfl 0 0 0 rfl rfl (Nat.le_of_ble_eq_true rfl) rfl fl_X3_9 rfl rfl ?_
        refine g_iload_n C dX3_flow_33 2 rfl rfl ?_
        have hi34 := hw.1
        replace hw := hw.2
        refine g_iald (f := t_kd3) C dX3_flow_34 0 1 rfl rfl 0 rfl hi34 rfl ?_
        refine g_aload_n C dX3_flow_35 0 rfl rfl ?_
        refine g_get (v := .ref (a 2)) (ci := 2) C dX3_flow_36 inw_X3 rfl 0 0 1 rfl rfl (Nat.le_of_ble_eq_true rfl) rfl fl_X3_15 rfl rfl ?_
        refine g_iload_n C dX3_flow_39 2 rfl rfl ?_
        have hi40 := hw.1
        replace hw := hw.2
        refine g_iald (f := t_fg4) C dX3_flow_40 0 2 rfl rfl 0 rfl hi40 rfl ?_
        refine g_aload_n C dX3_flow_41 0 rfl rfl ?_
        refine g_get (v := .ref (a 3)) (ci := 2) C dX3_flow_42 inw_X3 rfl 0 0 2 rfl rfl (Nat.le_of_ble_eq_true rfl) rfl fl_X3_18 rfl rfl ?_
        refine g_iload_n C dX3_flow_45 2 rfl rfl ?_
        have hi46 := hw.1
        replace hw := hw.2
        refine g_iald (f := t_hd5) C dX3_flow_46 0 3 rfl rfl 0 rfl hi46 rfl ?_
        refine g_callSi (As := [.int (t_kd3 (x2).toNatClampNeg), .int (t_fg4 (x2).toNatClampNeg), .int (t_hd5 (x2).toNatClampNeg)]) (gr := [gPar cI a (t_kd3, t_fg4, t_hd5, t_nx6, t_bu7, t_st8, t_we9, t_cu10, t_ho11, t_dr12)]) C (c_X0_letsThrough l D cI cQ   (t_kd3 (x2).toNatClampNeg) (t_fg4 (x2).toNatClampNeg) (t_hd5 (x2).toNatClampNeg) _) dX3_flow_47 ⟨ml_X3_50, kS_X0_letsThrough⟩ ⟨Nat.le_of_ble_eq_true rfl, Nat.le_of_ble_eq_true rfl⟩ ⟨Nat.le_refl _, Nat.le_refl _⟩ [0] 1 rfl pma_0 rfl rfl rfl (Nat.le_of_ble_eq_true rfl) rfl (fun (u : Unit) => [gPar cI a (t_kd3, t_fg4, t_hd5, t_nx6, t_bu7, t_st8, t_we9, t_cu10, t_ho11, t_dr12)]) [0] 1 (fun _ => rfl) pma_0 (fun _ => rfl) hw (fun r32 u32 hw => ?_)
        exact hJ16 r32 hw
      · refine g_iconst (v := 0) C dX3_flow_25 rfl rfl ?_
        refine g_goto (pc' := 50) C dX3_flow_26 (by decide) rfl ?_
        exact hJ16 (0 : Int32) hw
set_option maxRecDepth 100000 in
theorem c_X3_flow (l : Launch) (D : va_G) (cI cQ : ClassId) (a : Nat → Nat) (t : PT) (post : Int32 → PT → Prop) (sz : Nat) : Met l yX3_flow (wsY yX3_flow cX3_flow 5 (some .boolean)) (rmL 2 0 0 46) (xP D (tyL cI cQ) [.ref (a 0)] [gPar cI a t] sz (p_X3_flow t post)) (xQi D (tyL cI cQ) post (fun (u : PT) => [gPar cI a u]) (va_A [gPar cI a t].flatten sz)) 0 0 (va_A [gPar cI a t].flatten sz) :=
  Met_z pn_X3 (Nat.le_of_ble_eq_true rfl) (fun p e s mi below meth co A Q _ C hret hw => w_X3_flow a t C hret hw)
theorem kV_X3_flow : Cond.instanceMethod yX3_flow ∈ gTbl ∧ Cond.selects yX3_flow.cls yX3_flow yX3_flow ∈ gTbl ∧ Cond.initialized yX3_flow.cls ∈ gTbl ∧ Cond.code yX3_flow cX3_flow 5 (some .boolean) ∈ gTbl ∧ (yX3_flow.cls ≠ "java/lang/invoke/MethodHandle" ∧ yX3_flow.cls ≠ "java/lang/invoke/VarHandle" ∧ (parseMethodDescriptor yX3_flow.desc).map (fun d => d.parameters.length) = some 0) := ⟨im_X3_flow, sl_X3_flow, in_X3, cd_X3_flow, (by decide +kernel)⟩
set_option maxRecDepth 100000 in
def p_X3_pass (t : PT) (p1 : Int32) (post : PT → Prop) : Prop := (fun (t_kd : F1) (t_fg : F1) (t_hd : F1) (t_nx : F1) (t_bu : Int32) (t_st : Int32) (t_we : Int32) (t_cu : Int32) (t_ho : Int32) (t_dr : Int32) => lpN (fun (K12 : (Int32 × F1 × F1 × F1 × F1 × Int32 × Int32 × Int32 × Int32 × Int32 × Int32) → Prop) (z12 : Int32 × F1 × F1 × F1 × F1 × Int32 × Int32 × Int32 × Int32 × Int32 × Int32) => (fun (x1 : Int32) (t_kd2 : F1) (t_fg3 : F1) (t_hd4 : F1) (t_nx5 : F1) (t_bu6 : Int32) (t_st7 : Int32) (t_we8 : Int32) (t_cu9 : Int32) (t_ho10 : Int32) (t_dr11 : Int32) => jn (fun (z23 : F1 × F1 × F1 × F1 × Int32 × Int32 × Int32 × Int32 × Int32 × Int32) => (fun (t_kd13 : F1) (t_fg14 : F1) (t_hd15 : F1) (t_nx16 : F1) (t_bu17 : Int32) (t_st18 : Int32) (t_we19 : Int32) (t_cu20 : Int32) (t_ho21 : Int32) (t_dr22 : Int32) => nm ((t_ho21 + p1) : Int32) (fun (v24 : Int32) => post (t_kd13, t_fg14, t_hd15, t_nx16, t_bu17, t_st18, t_we19, t_cu20, v24, t_dr22))) z23.1 z23.2.1 z23.2.2.1 z23.2.2.2.1 z23.2.2.2.2.1 z23.2.2.2.2.2.1 z23.2.2.2.2.2.2.1 z23.2.2.2.2.2.2.2.1 z23.2.2.2.2.2.2.2.2.1 z23.2.2.2.2.2.2.2.2.2) (fun J23 => ((p1 ≤ x1 → J23 (t_kd2, t_fg3, t_hd4, t_nx5, t_bu6, t_st7, t_we8, t_cu9, t_ho10, t_dr11)) ∧ (¬ p1 ≤ x1 → p_X3_flow (t_kd2, t_fg3, t_hd4, t_nx5, t_bu6, t_st7, t_we8, t_cu9, t_ho10, t_dr11) (fun (r25 : Int32) (u25 : PT) => (fun (t_kd26 : F1) (t_fg27 : F1) (t_hd28 : F1) (t_nx29 : F1) (t_bu30 : Int32) (t_st31 : Int32) (t_we32 : Int32) (t_cu33 : Int32) (t_ho34 : Int32) (t_dr35 : Int32) => ((r25 = 0 → J23 (t_kd26, t_fg27, t_hd28, t_nx29, t_bu30, t_st31, t_we32, t_cu33, t_ho34, t_dr35)) ∧ (¬ r25 = 0 → K12 ((x1 + 1), t_kd26, t_fg27, t_hd28, t_nx29, t_bu30, t_st31, t_we32, t_cu33, t_ho34, t_dr35)))) u25.1 u25.2.1 u25.2.2.1 u25.2.2.2.1 u25.2.2.2.2.1 u25.2.2.2.2.2.1 u25.2.2.2.2.2.2.1 u25.2.2.2.2.2.2.2.1 u25.2.2.2.2.2.2.2.2.1 u25.2.2.2.2.2.2.2.2.2))))) z12.1 z12.2.1 z12.2.2.1 z12.2.2.2.1 z12.2.2.2.2.1 z12.2.2.2.2.2.1 z12.2.2.2.2.2.2.1 z12.2.2.2.2.2.2.2.1 z12.2.2.2.2.2.2.2.2.1 z12.2.2.2.2.2.2.2.2.2.1 z12.2.2.2.2.2.2.2.2.2.2) 1000 ((0 : Int32), t_kd, t_fg, t_hd, t_nx, t_bu, t_st, t_we, t_cu, t_ho, t_dr)) t.1 t.2.1 t.2.2.1 t.2.2.2.1 t.2.2.2.2.1 t.2.2.2.2.2.1 t.2.2.2.2.2.2.1 t.2.2.2.2.2.2.2.1 t.2.2.2.2.2.2.2.2.1 t.2.2.2.2.2.2.2.2.2
set_option maxHeartbeats 4000000 in
set_option maxRecDepth 100000 in
theorem w_X3_pass {p : Program} {l : Launch} {e : Env} {s : State} {mi : MethodId} {args : Array Value} {below : List Frame} {meth : Method} {co : Code} {D : va_G} {cI cQ : ClassId} {A : Nat → Prop} {Q : State → Prop} (a : Nat → Nat) (t : PT) (p1 : Int32) {post : PT → Prop} (C : xC p s mi args co cX3_pass RX3 3 D (tyL cI cQ) A) (hret : ∀ (pc : Nat) (u : PT) (lv : List (Nat × Value)), decode cX3_pass pc = .ok (.return_, 1) → post u → xG p l e (rmL 3 0 0 70) s mi args below meth co D A 3 Q 0 0 pc [] [gPar cI a u] lv) (hw : p_X3_pass t p1 post) : xG p l e (rmL 3 0 0 70) s mi args below meth co D A 3 Q 0 0 0 [] [gPar cI a t] [(0, .ref (a 0)), (1, .int p1)] := by
  unfold p_X3_pass at hw
  obtain ⟨t_kd, t_fg, t_hd, t_nx, t_bu, t_st, t_we, t_cu, t_ho, t_dr⟩ := t
  try dsimp only at hw
  show xG p l e (rmL 3 0 0 70) s mi args below meth co D A 3 Q 0 0 0 [] [gPar cI a (t_kd, t_fg, t_hd, t_nx, t_bu, t_st, t_we, t_cu, t_ho, t_dr)] [(0, .ref (a 0)), (1, .int p1)]
  refine g_iconst (v := 0) C dX3_pass_0 rfl rfl ?_
  refine g_istore_n (v := (0 : Int32)) C dX3_pass_1 rfl (Nat.le_of_ble_eq_true rfl) (lv' := [(2, .int (0 : Int32)), (0, .ref (a 0)), (1, .int p1)]) rfl rfl ?_
  refine g_lv [1, 2, 0] rfl ?_
  refine lpN_ind (G := (fun (z12 : Int32 × F1 × F1 × F1 × F1 × Int32 × Int32 × Int32 × Int32 × Int32 × Int32) => (fun (x1 : Int32) (t_kd2 : F1) (t_fg3 : F1) (t_hd4 : F1) (t_nx5 : F1) (t_bu6 : Int32) (t_st7 : Int32) (t_we8 : Int32) (t_cu9 : Int32) (t_ho10 : Int32) (t_dr11 : Int32) => xG p l e (rmL 3 0 0 70) s mi args below meth co D A 3 Q 0 0 2 [] [gPar cI a (t_kd2, t_fg3, t_hd4, t_nx5, t_bu6, t_st7, t_we8, t_cu9, t_ho10, t_dr11)] [(0, .ref (a 0)), (1, .int p1), (2, .int x1)]) z12.1 z12.2.1 z12.2.2.1 z12.2.2.2.1 z12.2.2.2.2.1 z12.2.2.2.2.2.1 z12.2.2.2.2.2.2.1 z12.2.2.2.2.2.2.2.1 z12.2.2.2.2.2.2.2.2.1 z12.2.2.2.2.2.2.2.2.2.1 z12.2.2.2.2.2.2.2.2.2.2)) ?_ 1000 ((0 : Int32), t_kd, t_fg, t_hd, t_nx, t_bu, t_st, t_we, t_cu, t_ho, t_dr) hw
  rintro K12 ⟨x1, t_kd2, t_fg3, t_hd4, t_nx5, t_bu6, t_st7, t_we8, t_cu9, t_ho10, t_dr11⟩ ih12 hw
  show xG p l e (rmL 3 0 0 70) s mi args below meth co D A 3 Q 0 0 2 [] [gPar cI a (t_kd2, t_fg3, t_hd4, t_nx5, t_bu6, t_st7, t_we8, t_cu9, t_ho10, t_dr11)] [(0, .ref (a 0)), (1, .int p1), (2, .int x1)]
  refine g_iload_n C dX3_pass_2 2 rfl rfl ?_
  refine g_iload_n C dX3_pass_3 1 rfl rfl ?_
  refine jn_el hw (fun (z23 : F1 × F1 × F1 × F1 × Int32 × Int32 × Int32 × Int32 × Int32 × Int32) => (fun (t_kd13 : F1) (t_fg14 : F1) (t_hd15 : F1) (t_nx16 : F1) (t_bu17 : Int32) (t_st18 : Int32) (t_we19 : Int32) (t_cu20 : Int32) (t_ho21 : Int32) (t_dr22 : Int32) => xG p l e (rmL 3 0 0 70) s mi args below meth co D A 3 Q 0 0 23 [] [gPar cI a (t_kd13, t_fg14, t_hd15, t_nx16, t_bu17, t_st18, t_we19, t_cu20, t_ho21, t_dr22)] [(0, .ref (a 0)), (1, .int p1)]) z23.1 z23.2.1 z23.2.2.1 z23.2.2.2.1 z23.2.2.2.2.1 z23.2.2.2.2.2.1 z23.2.2.2.2.2.2.1 z23.2.2.2.2.2.2.2.1 z23.2.2.2.2.2.2.2.2.1 z23.2.2.2.2.2.2.2.2.2) ?_ ?_
  · rintro ⟨t_kd13, t_fg14, t_hd15, t_nx16, t_bu17, t_st18, t_we19, t_cu20, t_ho21, t_dr22⟩ hw
    show xG p l e (rmL 3 0 0 70) s mi args below meth co D A 3 Q 0 0 23 [] [gPar cI a (t_kd13, t_fg14, t_hd15, t_nx16, t_bu17, t_st18, t_we19, t_cu20, t_ho21, t_dr22)] [(0, .ref (a 0)), (1, .int p1)]
    refine g_aload_n C dX3_pass_23 0 rfl rfl ?_
    refine g_dup C dX3_pass_24 rfl rfl ?_
    refine g_get (v := .int t_ho21) (ci := 2) C dX3_pass_25 inw_X3 rfl 0 0 8 rfl rfl (Nat.le_of_ble_eq_true rfl) rfl fl_X3_43 rfl rfl ?_
    refine g_iload_n C dX3_pass_28 1 rfl rfl ?_
    refine g_iadd C dX3_pass_29 rfl ?_
    refine nm_el hw (fun v24 ev24 hw => ?_)
    refine g_put (v' := .int v24) (ty := .int) (ci := 2) (gs' := [gPar cI a (t_kd13, t_fg14, t_hd15, t_nx16, t_bu17, t_st18, t_we19, t_cu20, v24, t_dr22)]) C dX3_pass_30 inw_X3 tyX3 tyX3_ok nmX3 rfl 0 0 8 rfl rfl (Nat.le_of_ble_eq_true rfl) rfl fl_X3_43 rfl fd_I (congrArg Value.int ev24.symm) rfl rfl (Nat.le_of_ble_eq_true rfl) rfl rfl ?_
    exact hret 33 (t_kd13, t_fg14, t_hd15, t_nx16, t_bu17, t_st18, t_we19, t_cu20, v24, t_dr22) _ dX3_pass_33 hw
  · intro J23 hJ23 hw
    refine g_icmp_ge (tgt := 23) C dX3_pass_4 (by decide) rfl hw (fun _ hw => ?_) (fun _ hw => ?_)
    · refine g_lv [0, 1] rfl ?_
      exact hJ23 (t_kd2, t_fg3, t_hd4, t_nx5, t_bu6, t_st7, t_we8, t_cu9, t_ho10, t_dr11) hw
    · refine g_aload_n C dX3_pass_7 0 rfl rfl ?_
      refine g_callVi (As := []) (gr := []) C (c_X3_flow l D cI cQ a (t_kd2, t_fg3, t_hd4, t_nx5, t_bu6, t_st7, t_we8, t_cu9, t_ho10, t_dr11)  _) dX3_pass_8 ⟨ml_X3_76, kV_X3_flow⟩ ⟨Nat.le_of_ble_eq_true rfl, Nat.le_of_ble_eq_true rfl⟩ ⟨Nat.le_refl _, Nat.le_refl _⟩ rfl rfl 0 0 rfl rfl [0] 1 rfl pma_0 rfl rfl rfl (Nat.le_of_ble_eq_true rfl) rfl (fun (u : PT) => [gPar cI a u]) [0] 1 (fun _ => rfl) pma_0 (fun _ => rfl) hw (fun r25 u25 hw => ?_)
      obtain ⟨t_kd26, t_fg27, t_hd28, t_nx29, t_bu30, t_st31, t_we32, t_cu33, t_ho34, t_dr35⟩ := u25
      refine g_if_ne (tgt := 17) C dX3_pass_11 (by decide) rfl hw (fun _ hw => ?_) (fun _ hw => ?_)
      · refine g_iinc (v := (x1 + 1)) (j := 2) C dX3_pass_17 rfl rfl (Nat.le_of_ble_eq_true rfl) (lv' := [(2, .int (x1 + 1)), (0, .ref (a 0)), (1, .int p1)]) rfl rfl ?_
        refine g_goto (pc' := 2) C dX3_pass_20 (by decide) rfl ?_
        refine g_lv [1, 2, 0] rfl ?_
        exact ih12 ((x1 + 1), t_kd26, t_fg27, t_hd28, t_nx29, t_bu30, t_st31, t_we32, t_cu33, t_ho34, t_dr35) hw
      · refine g_goto (pc' := 23) C dX3_pass_14 (by decide) rfl ?_
        refine g_lv [0, 1] rfl ?_
        exact hJ23 (t_kd26, t_fg27, t_hd28, t_nx29, t_bu30, t_st31, t_we32, t_cu33, t_ho34, t_dr35) hw
set_option maxRecDepth 100000 in
theorem c_X3_pass (l : Launch) (D : va_G) (cI cQ : ClassId) (a : Nat → Nat) (t : PT) (p1 : Int32) (post : PT → Prop) (sz : Nat) : Met l yX3_pass (wsY yX3_pass cX3_pass 3 none) (rmL 3 0 0 70) (xP D (tyL cI cQ) [.ref (a 0), .int p1] [gPar cI a t] sz (p_X3_pass t p1 post)) (xQv D (tyL cI cQ) post (fun (u : PT) => [gPar cI a u]) (va_A [gPar cI a t].flatten sz)) 0 0 (va_A [gPar cI a t].flatten sz) :=
  Met_v pn_X3 (Nat.le_of_ble_eq_true rfl) (fun p e s mi below meth co A Q _ C hret hw => w_X3_pass a t p1 C hret hw)
theorem kV_X3_pass : Cond.instanceMethod yX3_pass ∈ gTbl ∧ Cond.selects yX3_pass.cls yX3_pass yX3_pass ∈ gTbl ∧ Cond.initialized yX3_pass.cls ∈ gTbl ∧ Cond.code yX3_pass cX3_pass 3 none ∈ gTbl ∧ (yX3_pass.cls ≠ "java/lang/invoke/MethodHandle" ∧ yX3_pass.cls ≠ "java/lang/invoke/VarHandle" ∧ (parseMethodDescriptor yX3_pass.desc).map (fun d => d.parameters.length) = some 1) := ⟨im_X3_pass, sl_X3_pass, in_X3, cd_X3_pass, (by decide +kernel)⟩
set_option maxRecDepth 100000 in
def p_J6_bitCount_0f7a4 (p1 : Int32) (post : Int32 → Prop) : Prop := nm ((p1 - (((p1.toUInt32 >>> ((1 : Int32).toUInt32 &&& Int32.toUInt32 31)).toInt32) &&& (1431655765 : Int32))) : Int32) (fun (v1 : Int32) => nm (((v1 &&& (858993459 : Int32)) + (((v1.toUInt32 >>> ((2 : Int32).toUInt32 &&& Int32.toUInt32 31)).toInt32) &&& (858993459 : Int32))) : Int32) (fun (v2 : Int32) => nm (((v2 + ((v2.toUInt32 >>> ((4 : Int32).toUInt32 &&& Int32.toUInt32 31)).toInt32)) &&& (252645135 : Int32)) : Int32) (fun (v3 : Int32) => nm ((v3 + ((v3.toUInt32 >>> ((8 : Int32).toUInt32 &&& Int32.toUInt32 31)).toInt32)) : Int32) (fun (v4 : Int32) => nm ((v4 + ((v4.toUInt32 >>> ((16 : Int32).toUInt32 &&& Int32.toUInt32 31)).toInt32)) : Int32) (fun (v5 : Int32) => post (v5 &&& (63 : Int32)))))))
set_option maxHeartbeats 4000000 in
set_option maxRecDepth 100000 in
theorem w_J6_bitCount_0f7a4 {p : Program} {l : Launch} {e : Env} {s : State} {mi : MethodId} {args : Array Value} {below : List Frame} {meth : Method} {co : Code} {D : va_G} {cI cQ : ClassId} {A : Nat → Prop} {Q : State → Prop} (p1 : Int32) {post : Int32 → Prop} (C : xC p s mi args co cJ6_bitCount_0f7a4 RJ6 1 D (tyL cI cQ) A) (hret : ∀ (pc : Nat) (r : Int32) (u : Unit) (lv : List (Nat × Value)), decode cJ6_bitCount_0f7a4 pc = .ok (.ireturn, 1) → post r → xG p l e (rmL 0 0 0 0) s mi args below meth co D A 1 Q 0 0 pc [.int r] [] lv) (hw : p_J6_bitCount_0f7a4 p1 post) : xG p l e (rmL 0 0 0 0) s mi args below meth co D A 1 Q 0 0 0 [] [] [(0, .int p1)] := by
  unfold p_J6_bitCount_0f7a4 at hw
  try dsimp only at hw
  show xG p l e (rmL 0 0 0 0) s mi args below meth co D A 1 Q 0 0 0 [] [] [(0, .int p1)]
  refine g_iload_n C dJ6_bitCount_0f7a4_0 0 rfl rfl ?_
  refine g_iload_n C dJ6_bitCount_0f7a4_1 0 rfl rfl ?_
  refine g_iconst (v := 1) C dJ6_bitCount_0f7a4_2 rfl rfl ?_
  refine g_iushr C dJ6_bitCount_0f7a4_3 rfl ?_
  refine g_ldcw C dJ6_bitCount_0f7a4_4 ct_J6_265 rfl ?_
  refine g_iand C dJ6_bitCount_0f7a4_7 rfl ?_
  refine g_isub C dJ6_bitCount_0f7a4_8 rfl ?_
  refine nm_el hw (fun v1 ev1 hw => ?_)
  refine g_istore_n (v := v1) C dJ6_bitCount_0f7a4_9 ev1.symm (Nat.le_of_ble_eq_true rfl) (lv' := [(0, .int v1)]) rfl rfl ?_
  refine g_iload_n C dJ6_bitCount_0f7a4_10 0 rfl rfl ?_
  refine g_ldcw C dJ6_bitCount_0f7a4_11 ct_J6_266 rfl ?_
  refine g_iand C dJ6_bitCount_0f7a4_14 rfl ?_
  refine g_iload_n C dJ6_bitCount_0f7a4_15 0 rfl rfl ?_
  refine g_iconst (v := 2) C dJ6_bitCount_0f7a4_16 rfl rfl ?_
  refine g_iushr C dJ6_bitCount_0f7a4_17 rfl ?_
  refine g_ldcw C dJ6_bitCount_0f7a4_18 ct_J6_266 rfl ?_
  refine g_iand C dJ6_bitCount_0f7a4_21 rfl ?_
  refine g_iadd C dJ6_bitCount_0f7a4_22 rfl ?_
  refine nm_el hw (fun v2 ev2 hw => ?_)
  refine g_istore_n (v := v2) C dJ6_bitCount_0f7a4_23 ev2.symm (Nat.le_of_ble_eq_true rfl) (lv' := [(0, .int v2)]) rfl rfl ?_
  refine g_iload_n C dJ6_bitCount_0f7a4_24 0 rfl rfl ?_
  refine g_iload_n C dJ6_bitCount_0f7a4_25 0 rfl rfl ?_
  refine g_iconst (v := 4) C dJ6_bitCount_0f7a4_26 rfl rfl ?_
  refine g_iushr C dJ6_bitCount_0f7a4_27 rfl ?_
  refine g_iadd C dJ6_bitCount_0f7a4_28 rfl ?_
  refine g_ldcw C dJ6_bitCount_0f7a4_29 ct_J6_267 rfl ?_
  refine g_iand C dJ6_bitCount_0f7a4_32 rfl ?_
  refine nm_el hw (fun v3 ev3 hw => ?_)
  refine g_istore_n (v := v3) C dJ6_bitCount_0f7a4_33 ev3.symm (Nat.le_of_ble_eq_true rfl) (lv' := [(0, .int v3)]) rfl rfl ?_
  refine g_iload_n C dJ6_bitCount_0f7a4_34 0 rfl rfl ?_
  refine g_iload_n C dJ6_bitCount_0f7a4_35 0 rfl rfl ?_
  refine g_bipush (v := 8) C dJ6_bitCount_0f7a4_36 (by decide) rfl ?_
  refine g_iushr C dJ6_bitCount_0f7a4_38 rfl ?_
  refine g_iadd C dJ6_bitCount_0f7a4_39 rfl ?_
  refine nm_el hw (fun v4 ev4 hw => ?_)
  refine g_istore_n (v := v4) C dJ6_bitCount_0f7a4_40 ev4.symm (Nat.le_of_ble_eq_true rfl) (lv' := [(0, .int v4)]) rfl rfl ?_
  refine g_iload_n C dJ6_bitCount_0f7a4_41 0 rfl rfl ?_
  refine g_iload_n C dJ6_bitCount_0f7a4_42 0 rfl rfl ?_
  refine g_bipush (v := 16) C dJ6_bitCount_0f7a4_43 (by decide) rfl ?_
  refine g_iushr C dJ6_bitCount_0f7a4_45 rfl ?_
  refine g_iadd C dJ6_bitCount_0f7a4_46 rfl ?_
  refine nm_el hw (fun v5 ev5 hw => ?_)
  refine g_istore_n (v := v5) C dJ6_bitCount_0f7a4_47 ev5.symm (Nat.le_of_ble_eq_true rfl) (lv' := [(0, .int v5)]) rfl rfl ?_
  refine g_iload_n C dJ6_bitCount_0f7a4_48 0 rfl rfl ?_
  refine g_bipush (v := 63) C dJ6_bitCount_0f7a4_49 (by decide) rfl ?_
  refine g_iand C dJ6_bitCount_0f7a4_51 rfl ?_
  exact hret 52 (v5 &&& (63 : Int32)) () _ dJ6_bitCount_0f7a4_52 hw
set_option maxRecDepth 100000 in
theorem c_J6_bitCount_0f7a4 (l : Launch) (D : va_G) (cI cQ : ClassId) (p1 : Int32) (post : Int32 → Prop) (sz : Nat) : Met l yJ6_bitCount_0f7a4 (wsY yJ6_bitCount_0f7a4 cJ6_bitCount_0f7a4 1 (some .int)) (rmL 0 0 0 0) (xP D (tyL cI cQ) [.int p1] [] sz (p_J6_bitCount_0f7a4 p1 post)) (xQi D (tyL cI cQ) (fun (r : Int32) (_ : Unit) => post r) (fun (u : Unit) => []) (va_A [].flatten sz)) 0 0 (va_A [].flatten sz) :=
  Met_i pn_J6 (Nat.le_of_ble_eq_true rfl) (fun p e s mi below meth co A Q _ C hret hw => w_J6_bitCount_0f7a4 p1 C hret hw)
theorem kS_J6_bitCount_0f7a4 : Cond.static yJ6_bitCount_0f7a4 ∈ gTbl ∧ Cond.initialized yJ6_bitCount_0f7a4.cls ∈ gTbl ∧ Cond.code yJ6_bitCount_0f7a4 cJ6_bitCount_0f7a4 1 (some .int) ∈ gTbl ∧ (yJ6_bitCount_0f7a4.cls ≠ "java/lang/invoke/MethodHandle" ∧ yJ6_bitCount_0f7a4.cls ≠ "java/lang/invoke/VarHandle" ∧ (parseMethodDescriptor yJ6_bitCount_0f7a4.desc).map (fun d => d.parameters.length) = some 1) := ⟨sm_J6_bitCount_0f7a4, in_J6, cd_J6_bitCount_0f7a4, (by decide +kernel)⟩
