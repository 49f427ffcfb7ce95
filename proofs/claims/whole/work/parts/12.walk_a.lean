theorem fd_I : parseFieldDescriptor "I" = some .int := by decide +kernel
theorem fd_Z : parseFieldDescriptor "Z" = some .boolean := by decide +kernel
theorem fd_A : parseFieldDescriptor "[I" = some (.array .int) := by decide +kernel
theorem pn_X0 : plainName RX0 = true := by decide +kernel
theorem pn_X1 : plainName RX1 = true := by decide +kernel
theorem pn_X2 : plainName RX2 = true := by decide +kernel
theorem pn_X3 : plainName RX3 = true := by decide +kernel
theorem pn_X4 : plainName RX4 = true := by decide +kernel
theorem pn_X5 : plainName RX5 = true := by decide +kernel
theorem pn_X6 : plainName RX6 = true := by decide +kernel
theorem pn_J6 : plainName RJ6 = true := by decide +kernel
set_option maxRecDepth 100000 in
def p_X0_stands (p1 : Int32) (post : Int32 → Prop) : Prop := ((p1 = 2 → post (1 : Int32)) ∧ (¬ p1 = 2 → ((p1 = 5 → post (3 : Int32)) ∧ (¬ p1 = 5 → post (0 : Int32)))))
set_option maxHeartbeats 4000000 in
set_option maxRecDepth 100000 in
theorem w_X0_stands {p : Program} {l : Launch} {e : Env} {s : State} {mi : MethodId} {args : Array Value} {below : List Frame} {meth : Method} {co : Code} {D : va_G} {cI cQ : ClassId} {A : Nat → Prop} {Q : State → Prop} (p1 : Int32) {post : Int32 → Prop} (C : xC p s mi args co cX0_stands RX0 1 D (tyL cI cQ) A) (hret : ∀ (pc : Nat) (r : Int32) (u : Unit) (lv : List (Nat × Value)), decode cX0_stands pc = .ok (.ireturn, 1) → post r → xG p l e (rmL 0 0 0 0) s mi args below meth co D A 1 Q 0 0 pc [.int r] [] lv) (hw : p_X0_stands p1 post) : xG p l e (rmL 0 0 0 0) s mi args below meth co D A 1 Q 0 0 0 [] [] [(0, .int p1)] := by
  unfold p_X0_stands at hw
  try dsimp only at hw
  show xG p l e (rmL 0 0 0 0) s mi args below meth co D A 1 Q 0 0 0 [] [] [(0, .int p1)]
  refine g_iload_n C dX0_stands_0 0 rfl rfl ?_
  rcases Classical.em (p1 = 2) with hs1_0 | hs1_0
  · replace hw := hw.1 hs1_0
    refine g_lsw (pc' := 28) C dX0_stands_1 (by decide) (by first | (rw [hs1_0]; done) | (rw [hs1_0]; rfl)) (by decide) ?_
    refine g_iconst (v := 1) C dX0_stands_28 rfl rfl ?_
    exact hret 29 (1 : Int32) () _ dX0_stands_29 hw
  · replace hw := hw.2 hs1_0
    rcases Classical.em (p1 = 5) with hs1_1 | hs1_1
    · replace hw := hw.1 hs1_1
      refine g_lsw (pc' := 30) C dX0_stands_1 (by decide) (by first | (rw [hs1_1]; done) | (rw [hs1_1]; rfl)) (by decide) ?_
      refine g_iconst (v := 3) C dX0_stands_30 rfl rfl ?_
      exact hret 31 (3 : Int32) () _ dX0_stands_31 hw
    · replace hw := hw.2 hs1_1
      refine g_lsw (off := 31) (pc' := 32) C dX0_stands_1 (by decide) (by show Op.lookupswitch.offset [(2, 27), (5, 29)] 31 _ = 31; rw [lv_osw hs1_0 (by decide), lv_osw hs1_1 (by decide)]; rfl) (by decide) ?_
      refine g_iconst (v := 0) C dX0_stands_32 rfl rfl ?_
      exact hret 33 (0 : Int32) () _ dX0_stands_33 hw
set_option maxRecDepth 100000 in
theorem c_X0_stands (l : Launch) (D : va_G) (cI cQ : ClassId) (p1 : Int32) (post : Int32 → Prop) (sz : Nat) : Met l yX0_stands (wsY yX0_stands cX0_stands 1 (some .int)) (rmL 0 0 0 0) (xP D (tyL cI cQ) [.int p1] [] sz (p_X0_stands p1 post)) (xQi D (tyL cI cQ) (fun (r : Int32) (_ : Unit) => post r) (fun (u : Unit) => []) (va_A [].flatten sz)) 0 0 (va_A [].flatten sz) :=
  Met_i pn_X0 (Nat.le_of_ble_eq_true rfl) (fun p e s mi below meth co A Q _ C hret hw => w_X0_stands p1 C hret hw)
theorem kS_X0_stands : Cond.static yX0_stands ∈ gTbl ∧ Cond.initialized yX0_stands.cls ∈ gTbl ∧ Cond.code yX0_stands cX0_stands 1 (some .int) ∈ gTbl ∧ (yX0_stands.cls ≠ "java/lang/invoke/MethodHandle" ∧ yX0_stands.cls ≠ "java/lang/invoke/VarHandle" ∧ (parseMethodDescriptor yX0_stands.desc).map (fun d => d.parameters.length) = some 1) := ⟨sm_X0_stands, in_X0, cd_X0_stands, (by decide +kernel)⟩
set_option maxRecDepth 100000 in
def p_X0_wouldLet (p1 : Int32) (p2 : Int32) (p3 : Int32) (post : Int32 → Prop) : Prop := ((p1 = 1 → post p3) ∧ (¬ p1 = 1 → ((p1 = 2 → post (p3 / (2 : Int32))) ∧ (¬ p1 = 2 → ((p1 = 3 → ((p3 ≤ p2 → post p3) ∧ (¬ p3 ≤ p2 → post p2))) ∧ (¬ p1 = 3 → ((p1 = 4 → ((p3 ≤ p2 → post (0 : Int32)) ∧ (¬ p3 ≤ p2 → post (p3 - p2)))) ∧ (¬ p1 = 4 → ((p1 = 5 → post ((p3 / (2 : Int32)) / (2 : Int32))) ∧ (¬ p1 = 5 → post ((p3 + (1 : Int32)) / (2 : Int32))))))))))))
set_option maxHeartbeats 4000000 in
set_option maxRecDepth 100000 in
theorem w_X0_wouldLet {p : Program} {l : Launch} {e : Env} {s : State} {mi : MethodId} {args : Array Value} {below : List Frame} {meth : Method} {co : Code} {D : va_G} {cI cQ : ClassId} {A : Nat → Prop} {Q : State → Prop} (p1 : Int32) (p2 : Int32) (p3 : Int32) {post : Int32 → Prop} (C : xC p s mi args co cX0_wouldLet RX0 3 D (tyL cI cQ) A) (hret : ∀ (pc : Nat) (r : Int32) (u : Unit) (lv : List (Nat × Value)), decode cX0_wouldLet pc = .ok (.ireturn, 1) → post r → xG p l e (rmL 0 0 0 0) s mi args below meth co D A 3 Q 0 0 pc [.int r] [] lv) (hw : p_X0_wouldLet p1 p2 p3 post) : xG p l e (rmL 0 0 0 0) s mi args below meth co D A 3 Q 0 0 0 [] [] [(0, .int p1), (1, .int p2), (2, .int p3)] := by
  unfold p_X0_wouldLet at hw
  try dsimp only at hw
  show xG p l e (rmL 0 0 0 0) s mi args below meth co D A 3 Q 0 0 0 [] [] [(0, .int p1), (1, .int p2), (2, .int p3)]
  refine g_iload_n C dX0_wouldLet_0 0 rfl rfl ?_
  rcases Classical.em (p1 = 1) with hs1_0 | hs1_0
  · replace hw := hw.1 hs1_0
    refine g_tswIn (pc' := 36) C dX0_wouldLet_1 1 hs1_0 (by decide) (by decide) rfl (by decide) ?_
    refine g_iload_n C dX0_wouldLet_36 2 rfl rfl ?_
    exact hret 37 p3 () _ dX0_wouldLet_37 hw
  · replace hw := hw.2 hs1_0
    rcases Classical.em (p1 = 2) with hs1_1 | hs1_1
    · replace hw := hw.1 hs1_1
      refine g_tswIn (pc' := 38) C dX0_wouldLet_1 2 hs1_1 (by decide) (by decide) rfl (by decide) ?_
      refine g_iload_n C dX0_wouldLet_38 2 rfl rfl ?_
      refine g_iconst (v := 2) C dX0_wouldLet_39 rfl rfl ?_
      refine g_idiv C dX0_wouldLet_40 (by decide) rfl ?_
      exact hret 41 (p3 / (2 : Int32)) () _ dX0_wouldLet_41 hw
    · replace hw := hw.2 hs1_1
      rcases Classical.em (p1 = 3) with hs1_2 | hs1_2
      · replace hw := hw.1 hs1_2
        refine g_tswIn (pc' := 42) C dX0_wouldLet_1 3 hs1_2 (by decide) (by decide) rfl (by decide) ?_
        refine g_iload_n C dX0_wouldLet_42 1 rfl rfl ?_
        refine g_iload_n C dX0_wouldLet_43 2 rfl rfl ?_
        refine g_icmp_ge (tgt := 51) C dX0_wouldLet_44 (by decide) rfl hw (fun _ hw => ?_) (fun _ hw => ?_)
        · refine g_iload_n C dX0_wouldLet_51 2 rfl rfl ?_
          exact hret 52 p3 () _ dX0_wouldLet_52 hw
        · refine g_iload_n C dX0_wouldLet_47 1 rfl rfl ?_
          refine g_goto (pc' := 52) C dX0_wouldLet_48 (by decide) rfl ?_
          exact hret 52 p2 () _ dX0_wouldLet_52 hw
      · replace hw := hw.2 hs1_2
        rcases Classical.em (p1 = 4) with hs1_3 | hs1_3
        · replace hw := hw.1 hs1_3
          refine g_tswIn (pc' := 53) C dX0_wouldLet_1 4 hs1_3 (by decide) (by decide) rfl (by decide) ?_
          refine g_iload_n C dX0_wouldLet_53 1 rfl rfl ?_
          refine g_iload_n C dX0_wouldLet_54 2 rfl rfl ?_
          refine g_icmp_ge (tgt := 64) C dX0_wouldLet_55 (by decide) rfl hw (fun _ hw => ?_) (fun _ hw => ?_)
          · refine g_iconst (v := 0) C dX0_wouldLet_64 rfl rfl ?_
            exact hret 65 (0 : Int32) () _ dX0_wouldLet_65 hw
          · refine g_iload_n C dX0_wouldLet_58 2 rfl rfl ?_
            refine g_iload_n C dX0_wouldLet_59 1 rfl rfl ?_
            refine g_isub C dX0_wouldLet_60 rfl ?_
            refine g_goto (pc' := 65) C dX0_wouldLet_61 (by decide) rfl ?_
            exact hret 65 (p3 - p2) () _ dX0_wouldLet_65 hw
        · replace hw := hw.2 hs1_3
          rcases Classical.em (p1 = 5) with hs1_4 | hs1_4
          · replace hw := hw.1 hs1_4
            refine g_tswIn (pc' := 66) C dX0_wouldLet_1 5 hs1_4 (by decide) (by decide) rfl (by decide) ?_
            refine g_iload_n C dX0_wouldLet_66 2 rfl rfl ?_
            refine g_iconst (v := 2) C dX0_wouldLet_67 rfl rfl ?_
            refine g_idiv C dX0_wouldLet_68 (by decide) rfl ?_
            refine g_iconst (v := 2) C dX0_wouldLet_69 rfl rfl ?_
            refine g_idiv C dX0_wouldLet_70 (by decide) rfl ?_
            exact hret 71 ((p3 / (2 : Int32)) / (2 : Int32)) () _ dX0_wouldLet_71 hw
          · replace hw := hw.2 hs1_4
            have ht1 : (p1).toInt < 1 ∨ 5 < (p1).toInt := by
              have q0 := lv_neT (a := 1) hs1_0 (by decide)
              have q1 := lv_neT (a := 2) hs1_1 (by decide)
              have q2 := lv_neT (a := 3) hs1_2 (by decide)
              have q3 := lv_neT (a := 4) hs1_3 (by decide)
              have q4 := lv_neT (a := 5) hs1_4 (by decide)
              omega
            refine g_tswOut (pc' := 72) C dX0_wouldLet_1 ht1 (by decide) ?_
            refine g_iload_n C dX0_wouldLet_72 2 rfl rfl ?_
            refine g_iconst (v := 1) C dX0_wouldLet_73 rfl rfl ?_
            refine g_iadd C dX0_wouldLet_74 rfl ?_
            refine g_iconst (v := 2) C dX0_wouldLet_75 rfl rfl ?_
            refine g_idiv C dX0_wouldLet_76 (by decide) rfl ?_
            exact hret 77 ((p3 + (1 : Int32)) / (2 : Int32)) () _ dX0_wouldLet_77 hw
set_option maxRecDepth 100000 in
theorem c_X0_wouldLet (l : Launch) (D : va_G) (cI cQ : ClassId) (p1 : Int32) (p2 : Int32) (p3 : Int32) (post : Int32 → Prop) (sz : Nat) : Met l yX0_wouldLet (wsY yX0_wouldLet cX0_wouldLet 3 (some .int)) (rmL 0 0 0 0) (xP D (tyL cI cQ) [.int p1, .int p2, .int p3] [] sz (p_X0_wouldLet p1 p2 p3 post)) (xQi D (tyL cI cQ) (fun (r : Int32) (_ : Unit) => post r) (fun (u : Unit) => []) (va_A [].flatten sz)) 0 0 (va_A [].flatten sz) :=
  Met_i pn_X0 (Nat.le_of_ble_eq_true rfl) (fun p e s mi below meth co A Q _ C hret hw => w_X0_wouldLet p1 p2 p3 C hret hw)
theorem kS_X0_wouldLet : Cond.static yX0_wouldLet ∈ gTbl ∧ Cond.initialized yX0_wouldLet.cls ∈ gTbl ∧ Cond.code yX0_wouldLet cX0_wouldLet 3 (some .int) ∈ gTbl ∧ (yX0_wouldLet.cls ≠ "java/lang/invoke/MethodHandle" ∧ yX0_wouldLet.cls ≠ "java/lang/invoke/VarHandle" ∧ (parseMethodDescriptor yX0_wouldLet.desc).map (fun d => d.parameters.length) = some 3) := ⟨sm_X0_wouldLet, in_X0, cd_X0_wouldLet, (by decide +kernel)⟩
set_option maxRecDepth 100000 in
def p_X0_letsThrough (p1 : Int32) (p2 : Int32) (p3 : Int32) (post : Int32 → Prop) : Prop := p_X0_stands p1 (fun (r1 : Int32) => jn (fun (z3 : Int32) => (fun (x2 : Int32) => p_X0_wouldLet p1 p2 p3 (fun (r4 : Int32) => ((x2 ≤ r4 → post x2) ∧ (¬ x2 ≤ r4 → post r4)))) z3) (fun J3 => ((p3 ≤ r1 → J3 (0 : Int32)) ∧ (¬ p3 ≤ r1 → p_X0_stands p1 (fun (r5 : Int32) => J3 (p3 - r5))))))
set_option maxHeartbeats 4000000 in
set_option maxRecDepth 100000 in
theorem w_X0_letsThrough {p : Program} {l : Launch} {e : Env} {s : State} {mi : MethodId} {args : Array Value} {below : List Frame} {meth : Method} {co : Code} {D : va_G} {cI cQ : ClassId} {A : Nat → Prop} {Q : State → Prop} (p1 : Int32) (p2 : Int32) (p3 : Int32) {post : Int32 → Prop} (C : xC p s mi args co cX0_letsThrough RX0 5 D (tyL cI cQ) A) (hret : ∀ (pc : Nat) (r : Int32) (u : Unit) (lv : List (Nat × Value)), decode cX0_letsThrough pc = .ok (.ireturn, 1) → post r → xG p l e (rmL 1 0 0 22) s mi args below meth co D A 5 Q 0 0 pc [.int r] [] lv) (hw : p_X0_letsThrough p1 p2 p3 post) : xG p l e (rmL 1 0 0 22) s mi args below meth co D A 5 Q 0 0 0 [] [] [(0, .int p1), (1, .int p2), (2, .int p3)] := by
  unfold p_X0_letsThrough at hw
  try dsimp only at hw
  show xG p l e (rmL 1 0 0 22) s mi args below meth co D A 5 Q 0 0 0 [] [] [(0, .int p1), (1, .int p2), (2, .int p3)]
  refine g_iload_n C dX0_letsThrough_0 2 rfl rfl ?_
  refine g_iload_n C dX0_letsThrough_1 0 rfl rfl ?_
  refine g_callSi (As := [.int p1]) (gr := []) C (c_X0_stands l D cI cQ   p1 _) dX0_letsThrough_2 ⟨ml_X0_7, kS_X0_stands⟩ ⟨Nat.le_of_ble_eq_true rfl, Nat.le_of_ble_eq_true rfl⟩ ⟨Nat.le_refl _, Nat.le_refl _⟩ [] rfl rfl rfl rfl (Nat.le_of_ble_eq_true rfl) rfl (fun (u : Unit) => []) [] (fun _ => rfl) (fun _ => rfl) hw (fun r1 u1 hw => ?_)
  refine jn_el hw (fun (z3 : Int32) => (fun (x2 : Int32) => xG p l e (rmL 1 0 0 22) s mi args below meth co D A 5 Q 0 0 18 [.int x2] [] [(0, .int p1), (1, .int p2), (2, .int p3)]) z3) ?_ ?_
  · rintro x2 hw
    show xG p l e (rmL 1 0 0 22) s mi args below meth co D A 5 Q 0 0 18 [.int x2] [] [(0, .int p1), (1, .int p2), (2, .int p3)]
    refine g_istore_n (v := x2) C dX0_letsThrough_18 rfl (Nat.le_of_ble_eq_true rfl) (lv' := [(3, .int x2), (0, .int p1), (1, .int p2), (2, .int p3)]) rfl rfl ?_
    refine g_iload_n C dX0_letsThrough_19 1 rfl rfl ?_
    refine g_iload_n C dX0_letsThrough_20 2 rfl rfl ?_
    refine g_iload_n C dX0_letsThrough_21 3 rfl rfl ?_
    refine g_callSi (As := [.int p1, .int p2, .int p3]) (gr := []) C (c_X0_wouldLet l D cI cQ   p1 p2 p3 _) dX0_letsThrough_22 ⟨ml_X0_13, kS_X0_wouldLet⟩ ⟨Nat.le_of_ble_eq_true rfl, Nat.le_of_ble_eq_true rfl⟩ ⟨Nat.le_refl _, Nat.le_refl _⟩ [] rfl rfl rfl rfl (Nat.le_of_ble_eq_true rfl) rfl (fun (u : Unit) => []) [] (fun _ => rfl) (fun _ => rfl) hw (fun r4 u4 hw => ?_)
    refine g_istore (v := r4) C dX0_letsThrough_25 rfl (Nat.le_of_ble_eq_true rfl) (lv' := [(4, .int r4), (3, .int x2), (0, .int p1), (1, .int p2), (2, .int p3)]) rfl rfl ?_
    refine g_iload C dX0_letsThrough_27 0 rfl rfl ?_
    refine g_iload_n C dX0_letsThrough_29 1 rfl rfl ?_
    refine g_icmp_ge (tgt := 38) C dX0_letsThrough_30 (by decide) rfl hw (fun _ hw => ?_) (fun _ hw => ?_)
    · refine g_iload_n C dX0_letsThrough_38 1 rfl rfl ?_
      exact hret 39 x2 () _ dX0_letsThrough_39 hw
    · refine g_iload C dX0_letsThrough_33 0 rfl rfl ?_
      refine g_goto (pc' := 39) C dX0_letsThrough_35 (by decide) rfl ?_
      exact hret 39 r4 () _ dX0_letsThrough_39 hw
  · intro J3 hJ3 hw
    refine g_icmp_le (tgt := 17) C dX0_letsThrough_5 (by decide) rfl hw (fun _ hw => ?_) (fun _ hw => ?_)
    · refine g_iconst (v := 0) C dX0_letsThrough_17 rfl rfl ?_
      exact hJ3 (0 : Int32) hw
    · refine g_iload_n C dX0_letsThrough_8 2 rfl rfl ?_
      refine g_iload_n C dX0_letsThrough_9 0 rfl rfl ?_
      refine g_callSi (As := [.int p1]) (gr := []) C (c_X0_stands l D cI cQ   p1 _) dX0_letsThrough_10 ⟨ml_X0_7, kS_X0_stands⟩ ⟨Nat.le_of_ble_eq_true rfl, Nat.le_of_ble_eq_true rfl⟩ ⟨Nat.le_refl _, Nat.le_refl _⟩ [] rfl rfl rfl rfl (Nat.le_of_ble_eq_true rfl) rfl (fun (u : Unit) => []) [] (fun _ => rfl) (fun _ => rfl) hw (fun r5 u5 hw => ?_)
      refine g_isub C dX0_letsThrough_13 rfl ?_
      refine g_goto (pc' := 18) C dX0_letsThrough_14 (by decide) rfl ?_
      exact hJ3 (p3 - r5) hw
set_option maxRecDepth 100000 in
theorem c_X0_letsThrough (l : Launch) (D : va_G) (cI cQ : ClassId) (p1 : Int32) (p2 : Int32) (p3 : Int32) (post : Int32 → Prop) (sz : Nat) : Met l yX0_letsThrough (wsY yX0_letsThrough cX0_letsThrough 5 (some .int)) (rmL 1 0 0 22) (xP D (tyL cI cQ) [.int p1, .int p2, .int p3] [] sz (p_X0_letsThrough p1 p2 p3 post)) (xQi D (tyL cI cQ) (fun (r : Int32) (_ : Unit) => post r) (fun (u : Unit) => []) (va_A [].flatten sz)) 0 0 (va_A [].flatten sz) :=
  Met_i pn_X0 (Nat.le_of_ble_eq_true rfl) (fun p e s mi below meth co A Q _ C hret hw => w_X0_letsThrough p1 p2 p3 C hret hw)
theorem kS_X0_letsThrough : Cond.static yX0_letsThrough ∈ gTbl ∧ Cond.initialized yX0_letsThrough.cls ∈ gTbl ∧ Cond.code yX0_letsThrough cX0_letsThrough 5 (some .int) ∈ gTbl ∧ (yX0_letsThrough.cls ≠ "java/lang/invoke/MethodHandle" ∧ yX0_letsThrough.cls ≠ "java/lang/invoke/VarHandle" ∧ (parseMethodDescriptor yX0_letsThrough.desc).map (fun d => d.parameters.length) = some 3) := ⟨sm_X0_letsThrough, in_X0, cd_X0_letsThrough, (by decide +kernel)⟩
set_option maxRecDepth 100000 in
def p_X0_adds (p1 : Int32) (p2 : Int32) (post : Int32 → Prop) : Prop := ((p1 = 1 → post p2) ∧ (¬ p1 = 1 → ((p1 = 2 → post (3 : Int32)) ∧ (¬ p1 = 2 → ((p1 = 3 → post (0 : Int32)) ∧ (¬ p1 = 3 → ((p1 = 4 → post (p2 / (2 : Int32))) ∧ (¬ p1 = 4 → ((p1 = 5 → post ((3 : Int32) + p2)) ∧ (¬ p1 = 5 → post (1 : Int32)))))))))))
set_option maxHeartbeats 4000000 in
set_option maxRecDepth 100000 in
theorem w_X0_adds {p : Program} {l : Launch} {e : Env} {s : State} {mi : MethodId} {args : Array Value} {below : List Frame} {meth : Method} {co : Code} {D : va_G} {cI cQ : ClassId} {A : Nat → Prop} {Q : State → Prop} (p1 : Int32) (p2 : Int32) {post : Int32 → Prop} (C : xC p s mi args co cX0_adds RX0 2 D (tyL cI cQ) A) (hret : ∀ (pc : Nat) (r : Int32) (u : Unit) (lv : List (Nat × Value)), decode cX0_adds pc = .ok (.ireturn, 1) → post r → xG p l e (rmL 0 0 0 0) s mi args below meth co D A 2 Q 0 0 pc [.int r] [] lv) (hw : p_X0_adds p1 p2 post) : xG p l e (rmL 0 0 0 0) s mi args below meth co D A 2 Q 0 0 0 [] [] [(0, .int p1), (1, .int p2)] := by
  unfold p_X0_adds at hw
  try dsimp only at hw
  show xG p l e (rmL 0 0 0 0) s mi args below meth co D A 2 Q 0 0 0 [] [] [(0, .int p1), (1, .int p2)]
  refine g_iload_n C dX0_adds_0 0 rfl rfl ?_
  rcases Classical.em (p1 = 1) with hs1_0 | hs1_0
  · replace hw := hw.1 hs1_0
    refine g_tswIn (pc' := 36) C dX0_adds_1 1 hs1_0 (by decide) (by decide) rfl (by decide) ?_
    refine g_iload_n C dX0_adds_36 1 rfl rfl ?_
    exact hret 37 p2 () _ dX0_adds_37 hw
  · replace hw := hw.2 hs1_0
    rcases Classical.em (p1 = 2) with hs1_1 | hs1_1
    · replace hw := hw.1 hs1_1
      refine g_tswIn (pc' := 38) C dX0_adds_1 2 hs1_1 (by decide) (by decide) rfl (by decide) ?_
      refine g_iconst (v := 3) C dX0_adds_38 rfl rfl ?_
      exact hret 39 (3 : Int32) () _ dX0_adds_39 hw
    · replace hw := hw.2 hs1_1
      rcases Classical.em (p1 = 3) with hs1_2 | hs1_2
      · replace hw := hw.1 hs1_2
        refine g_tswIn (pc' := 40) C dX0_adds_1 3 hs1_2 (by decide) (by decide) rfl (by decide) ?_
        refine g_iconst (v := 0) C dX0_adds_40 rfl rfl ?_
        exact hret 41 (0 : Int32) () _ dX0_adds_41 hw
      · replace hw := hw.2 hs1_2
        rcases Classical.em (p1 = 4) with hs1_3 | hs1_3
        · replace hw := hw.1 hs1_3
          refine g_tswIn (pc' := 42) C dX0_adds_1 4 hs1_3 (by decide) (by decide) rfl (by decide) ?_
          refine g_iload_n C dX0_adds_42 1 rfl rfl ?_
          refine g_iconst (v := 2) C dX0_adds_43 rfl rfl ?_
          refine g_idiv C dX0_adds_44 (by decide) rfl ?_
          exact hret 45 (p2 / (2 : Int32)) () _ dX0_adds_45 hw
        · replace hw := hw.2 hs1_3
          rcases Classical.em (p1 = 5) with hs1_4 | hs1_4
          · replace hw := hw.1 hs1_4
            refine g_tswIn (pc' := 46) C dX0_adds_1 5 hs1_4 (by decide) (by decide) rfl (by decide) ?_
            refine g_iconst (v := 3) C dX0_adds_46 rfl rfl ?_
            refine g_iload_n C dX0_adds_47 1 rfl rfl ?_
            refine g_iadd C dX0_adds_48 rfl ?_
            exact hret 49 ((3 : Int32) + p2) () _ dX0_adds_49 hw
          · replace hw := hw.2 hs1_4
            have ht1 : (p1).toInt < 1 ∨ 5 < (p1).toInt := by
              have q0 := lv_neT (a := 1) hs1_0 (by decide)
              have q1 := lv_neT (a := 2) hs1_1 (by decide)
              have q2 := lv_neT (a := 3) hs1_2 (by decide)
              have q3 := lv_neT (a := 4) hs1_3 (by decide)
              have q4 := lv_neT (a := 5) hs1_4 (by decide)
              omega
            refine g_tswOut (pc' := 50) C dX0_adds_1 ht1 (by decide) ?_
            refine g_iconst (v := 1) C dX0_adds_50 rfl rfl ?_
            exact hret 51 (1 : Int32) () _ dX0_adds_51 hw
set_option maxRecDepth 100000 in
theorem c_X0_adds (l : Launch) (D : va_G) (cI cQ : ClassId) (p1 : Int32) (p2 : Int32) (post : Int32 → Prop) (sz : Nat) : Met l yX0_adds (wsY yX0_adds cX0_adds 2 (some .int)) (rmL 0 0 0 0) (xP D (tyL cI cQ) [.int p1, .int p2] [] sz (p_X0_adds p1 p2 post)) (xQi D (tyL cI cQ) (fun (r : Int32) (_ : Unit) => post r) (fun (u : Unit) => []) (va_A [].flatten sz)) 0 0 (va_A [].flatten sz) :=
  Met_i pn_X0 (Nat.le_of_ble_eq_true rfl) (fun p e s mi below meth co A Q _ C hret hw => w_X0_adds p1 p2 C hret hw)
theorem kS_X0_adds : Cond.static yX0_adds ∈ gTbl ∧ Cond.initialized yX0_adds.cls ∈ gTbl ∧ Cond.code yX0_adds cX0_adds 2 (some .int) ∈ gTbl ∧ (yX0_adds.cls ≠ "java/lang/invoke/MethodHandle" ∧ yX0_adds.cls ≠ "java/lang/invoke/VarHandle" ∧ (parseMethodDescriptor yX0_adds.desc).map (fun d => d.parameters.length) = some 2) := ⟨sm_X0_adds, in_X0, cd_X0_adds, (by decide +kernel)⟩
set_option maxRecDepth 100000 in
def p_X1_size (t : LT) (post : Int32 → Prop) : Prop := (fun (t_ar : F1) (t_sz : Int32) => post t_sz) t.1 t.2
set_option maxHeartbeats 4000000 in
set_option maxRecDepth 100000 in
theorem w_X1_size {p : Program} {l : Launch} {e : Env} {s : State} {mi : MethodId} {args : Array Value} {below : List Frame} {meth : Method} {co : Code} {D : va_G} {cI cQ : ClassId} {A : Nat → Prop} {Q : State → Prop} (a : Nat → Nat) (t : LT) {post : Int32 → Prop} (C : xC p s mi args co cX1_size RX1 1 D (tyL cI cQ) A) (hret : ∀ (pc : Nat) (r : Int32) (u : Unit) (lv : List (Nat × Value)), decode cX1_size pc = .ok (.ireturn, 1) → post r → xG p l e (rmL 0 0 0 0) s mi args below meth co D A 1 Q 0 0 pc [.int r] [gLet cI a t] lv) (hw : p_X1_size t post) : xG p l e (rmL 0 0 0 0) s mi args below meth co D A 1 Q 0 0 0 [] [gLet cI a t] [(0, .ref (a 0))] := by
  unfold p_X1_size at hw
  obtain ⟨t_ar, t_sz⟩ := t
  try dsimp only at hw
  show xG p l e (rmL 0 0 0 0) s mi args below meth co D A 1 Q 0 0 0 [] [gLet cI a (t_ar, t_sz)] [(0, .ref (a 0))]
  refine g_aload_n C dX1_size_0 0 rfl rfl ?_
  refine g_get (v := .int t_sz) (ci := 0) C dX1_size_1 inw_X1 rfl 0 0 1 rfl rfl (Nat.le_of_ble_eq_true rfl) rfl fl_X1_15 rfl rfl ?_
  exact hret 4 t_sz () _ dX1_size_4 hw
set_option maxRecDepth 100000 in
theorem c_X1_size (l : Launch) (D : va_G) (cI cQ : ClassId) (a : Nat → Nat) (t : LT) (post : Int32 → Prop) (sz : Nat) : Met l yX1_size (wsY yX1_size cX1_size 1 (some .int)) (rmL 0 0 0 0) (xP D (tyL cI cQ) [.ref (a 0)] [gLet cI a t] sz (p_X1_size t post)) (xQi D (tyL cI cQ) (fun (r : Int32) (_ : Unit) => post r) (fun (u : Unit) => [gLet cI a t]) (va_A [gLet cI a t].flatten sz)) 0 0 (va_A [gLet cI a t].flatten sz) :=
  Met_i pn_X1 (Nat.le_of_ble_eq_true rfl) (fun p e s mi below meth co A Q _ C hret hw => w_X1_size a t C hret hw)
theorem kV_X1_size : Cond.instanceMethod yX1_size ∈ gTbl ∧ Cond.selects yX1_size.cls yX1_size yX1_size ∈ gTbl ∧ Cond.initialized yX1_size.cls ∈ gTbl ∧ Cond.code yX1_size cX1_size 1 (some .int) ∈ gTbl ∧ (yX1_size.cls ≠ "java/lang/invoke/MethodHandle" ∧ yX1_size.cls ≠ "java/lang/invoke/VarHandle" ∧ (parseMethodDescriptor yX1_size.desc).map (fun d => d.parameters.length) = some 0) := ⟨im_X1_size, sl_X1_size, in_X1, cd_X1_size, (by decide +kernel)⟩
set_option maxRecDepth 100000 in
def p_X1_drop (t : LT) (post : LT → Prop) : Prop := (fun (t_ar : F1) (t_sz : Int32) => post (t_ar, (0 : Int32))) t.1 t.2
set_option maxHeartbeats 4000000 in
set_option maxRecDepth 100000 in
theorem w_X1_drop {p : Program} {l : Launch} {e : Env} {s : State} {mi : MethodId} {args : Array Value} {below : List Frame} {meth : Method} {co : Code} {D : va_G} {cI cQ : ClassId} {A : Nat → Prop} {Q : State → Prop} (a : Nat → Nat) (t : LT) {post : LT → Prop} (C : xC p s mi args co cX1_drop RX1 1 D (tyL cI cQ) A) (hret : ∀ (pc : Nat) (u : LT) (lv : List (Nat × Value)), decode cX1_drop pc = .ok (.return_, 1) → post u → xG p l e (rmL 0 0 0 0) s mi args below meth co D A 1 Q 0 0 pc [] [gLet cI a u] lv) (hw : p_X1_drop t post) : xG p l e (rmL 0 0 0 0) s mi args below meth co D A 1 Q 0 0 0 [] [gLet cI a t] [(0, .ref (a 0))] := by
  unfold p_X1_drop at hw
  obtain ⟨t_ar, t_sz⟩ := t
  try dsimp only at hw
  show xG p l e (rmL 0 0 0 0) s mi args below meth co D A 1 Q 0 0 0 [] [gLet cI a (t_ar, t_sz)] [(0, .ref (a 0))]
  refine g_aload_n C dX1_drop_0 0 rfl rfl ?_
  refine g_iconst (v := 0) C dX1_drop_1 rfl rfl ?_
  refine g_put (v' := .int (0 : Int32)) (ty := .int) (ci := 0) (gs' := [gLet cI a (t_ar, (0 : Int32))]) C dX1_drop_2 inw_X1 tyX1 tyX1_ok nmX1 rfl 0 0 1 rfl rfl (Nat.le_of_ble_eq_true rfl) rfl fl_X1_15 rfl fd_I rfl rfl rfl (Nat.le_of_ble_eq_true rfl) rfl rfl ?_
  exact hret 5 (t_ar, (0 : Int32)) _ dX1_drop_5 hw
set_option maxRecDepth 100000 in
theorem c_X1_drop (l : Launch) (D : va_G) (cI cQ : ClassId) (a : Nat → Nat) (t : LT) (post : LT → Prop) (sz : Nat) : Met l yX1_drop (wsY yX1_drop cX1_drop 1 none) (rmL 0 0 0 0) (xP D (tyL cI cQ) [.ref (a 0)] [gLet cI a t] sz (p_X1_drop t post)) (xQv D (tyL cI cQ) post (fun (u : LT) => [gLet cI a u]) (va_A [gLet cI a t].flatten sz)) 0 0 (va_A [gLet cI a t].flatten sz) :=
  Met_v pn_X1 (Nat.le_of_ble_eq_true rfl) (fun p e s mi below meth co A Q _ C hret hw => w_X1_drop a t C hret hw)
theorem kV_X1_drop : Cond.instanceMethod yX1_drop ∈ gTbl ∧ Cond.selects yX1_drop.cls yX1_drop yX1_drop ∈ gTbl ∧ Cond.initialized yX1_drop.cls ∈ gTbl ∧ Cond.code yX1_drop cX1_drop 1 none ∈ gTbl ∧ (yX1_drop.cls ≠ "java/lang/invoke/MethodHandle" ∧ yX1_drop.cls ≠ "java/lang/invoke/VarHandle" ∧ (parseMethodDescriptor yX1_drop.desc).map (fun d => d.parameters.length) = some 0) := ⟨im_X1_drop, sl_X1_drop, in_X1, cd_X1_drop, (by decide +kernel)⟩
set_option maxRecDepth 100000 in
def p_X1_add (t : LT) (p1 : Int32) (post : Int32 → LT → Prop) : Prop := (fun (t_ar : F1) (t_sz : Int32) => ((t_sz < (96 : Int32) → (vp_in t_sz 96 ∧ nm (upd t_ar (t_sz).toNatClampNeg p1) (fun (t_ar1 : F1) => nm ((t_sz + (1 : Int32)) : Int32) (fun (v2 : Int32) => post (1 : Int32) (t_ar1, v2))))) ∧ (¬ t_sz < (96 : Int32) → post (0 : Int32) (t_ar, t_sz)))) t.1 t.2
set_option maxHeartbeats 4000000 in
set_option maxRecDepth 100000 in
theorem w_X1_add {p : Program} {l : Launch} {e : Env} {s : State} {mi : MethodId} {args : Array Value} {below : List Frame} {meth : Method} {co : Code} {D : va_G} {cI cQ : ClassId} {A : Nat → Prop} {Q : State → Prop} (a : Nat → Nat) (t : LT) (p1 : Int32) {post : Int32 → LT → Prop} (C : xC p s mi args co cX1_add RX1 2 D (tyL cI cQ) A) (hret : ∀ (pc : Nat) (r : Int32) (u : LT) (lv : List (Nat × Value)), decode cX1_add pc = .ok (.ireturn, 1) → bz r → post r u → xG p l e (rmL 0 0 0 0) s mi args below meth co D A 2 Q 0 0 pc [.int r] [gLet cI a u] lv) (hw : p_X1_add t p1 post) : xG p l e (rmL 0 0 0 0) s mi args below meth co D A 2 Q 0 0 0 [] [gLet cI a t] [(0, .ref (a 0)), (1, .int p1)] := by
  unfold p_X1_add at hw
  obtain ⟨t_ar, t_sz⟩ := t
  try dsimp only at hw
  show xG p l e (rmL 0 0 0 0) s mi args below meth co D A 2 Q 0 0 0 [] [gLet cI a (t_ar, t_sz)] [(0, .ref (a 0)), (1, .int p1)]
  refine g_aload_n C dX1_add_0 0 rfl rfl ?_
  refine g_get (v := .int t_sz) (ci := 0) C dX1_add_1 inw_X1 rfl 0 0 1 rfl rfl (Nat.le_of_ble_eq_true rfl) rfl fl_X1_15 rfl rfl ?_
  refine g_bipush (v := 96) C dX1_add_4 (by decide) rfl ?_
  refine g_icmp_lt (tgt := 11) C dX1_add_6 (by decide) rfl hw (fun _ hw => ?_) (fun _ hw => ?_)
  · refine g_aload_n C dX1_add_11 0 rfl rfl ?_
    refine g_get (v := .ref (a 1)) (ci := 0) C dX1_add_12 inw_X1 rfl 0 0 0 rfl rfl (Nat.le_of_ble_eq_true rfl) rfl fl_X1_9 rfl rfl ?_
    refine g_aload_n C dX1_add_15 0 rfl rfl ?_
    refine g_get (v := .int t_sz) (ci := 0) C dX1_add_16 inw_X1 rfl 0 0 1 rfl rfl (Nat.le_of_ble_eq_true rfl) rfl fl_X1_15 rfl rfl ?_
    refine g_iload_n C dX1_add_19 1 rfl rfl ?_
    have hi20 := hw.1
    refine nm_el hw.2 (fun t_ar1 et_ar1 hw => ?_)
    refine g_iast (f := t_ar) (f' := t_ar1) (gs' := [gLet cI a (t_ar1, t_sz)]) C dX1_add_20 0 1 rfl rfl 0 rfl hi20 et_ar1.symm rfl rfl ?_
    refine g_aload_n C dX1_add_21 0 rfl rfl ?_
    refine g_dup C dX1_add_22 rfl rfl ?_
    refine g_get (v := .int t_sz) (ci := 0) C dX1_add_23 inw_X1 rfl 0 0 1 rfl rfl (Nat.le_of_ble_eq_true rfl) rfl fl_X1_15 rfl rfl ?_
    refine g_iconst (v := 1) C dX1_add_26 rfl rfl ?_
    refine g_iadd C dX1_add_27 rfl ?_
    refine nm_el hw (fun v2 ev2 hw => ?_)
    refine g_put (v' := .int v2) (ty := .int) (ci := 0) (gs' := [gLet cI a (t_ar1, v2)]) C dX1_add_28 inw_X1 tyX1 tyX1_ok nmX1 rfl 0 0 1 rfl rfl (Nat.le_of_ble_eq_true rfl) rfl fl_X1_15 rfl fd_I (congrArg Value.int ev2.symm) rfl rfl (Nat.le_of_ble_eq_true rfl) rfl rfl ?_
    refine g_iconst (v := 1) C dX1_add_31 rfl rfl ?_
    exact hret 32 (1 : Int32) (t_ar1, v2) _ dX1_add_32 ⟨rfl, rfl⟩ hw
  · refine g_iconst (v := 0) C dX1_add_9 rfl rfl ?_
    exact hret 10 (0 : Int32) (t_ar, t_sz) _ dX1_add_10 ⟨rfl, rfl⟩ hw
set_option maxRecDepth 100000 in
theorem c_X1_add (l : Launch) (D : va_G) (cI cQ : ClassId) (a : Nat → Nat) (t : LT) (p1 : Int32) (post : Int32 → LT → Prop) (sz : Nat) : Met l yX1_add (wsY yX1_add cX1_add 2 (some .boolean)) (rmL 0 0 0 0) (xP D (tyL cI cQ) [.ref (a 0), .int p1] [gLet cI a t] sz (p_X1_add t p1 post)) (xQi D (tyL cI cQ) post (fun (u : LT) => [gLet cI a u]) (va_A [gLet cI a t].flatten sz)) 0 0 (va_A [gLet cI a t].flatten sz) :=
  Met_z pn_X1 (Nat.le_of_ble_eq_true rfl) (fun p e s mi below meth co A Q _ C hret hw => w_X1_add a t p1 C hret hw)
theorem kV_X1_add : Cond.instanceMethod yX1_add ∈ gTbl ∧ Cond.selects yX1_add.cls yX1_add yX1_add ∈ gTbl ∧ Cond.initialized yX1_add.cls ∈ gTbl ∧ Cond.code yX1_add cX1_add 2 (some .boolean) ∈ gTbl ∧ (yX1_add.cls ≠ "java/lang/invoke/MethodHandle" ∧ yX1_add.cls ≠ "java/lang/invoke/VarHandle" ∧ (parseMethodDescriptor yX1_add.desc).map (fun d => d.parameters.length) = some 1) := ⟨im_X1_add, sl_X1_add, in_X1, cd_X1_add, (by decide +kernel)⟩
set_option maxRecDepth 100000 in
def p_X1_at (t : LT) (p1 : Int32) (post : Int32 → Prop) : Prop := (fun (t_ar : F1) (t_sz : Int32) => ((p1 < 0 → post (-1 : Int32)) ∧ (¬ p1 < 0 → ((t_sz ≤ p1 → post (-1 : Int32)) ∧ (¬ t_sz ≤ p1 → (vp_in p1 96 ∧ post (t_ar (p1).toNatClampNeg))))))) t.1 t.2
set_option maxHeartbeats 4000000 in
set_option maxRecDepth 100000 in
theorem w_X1_at {p : Program} {l : Launch} {e : Env} {s : State} {mi : MethodId} {args : Array Value} {below : List Frame} {meth : Method} {co : Code} {D : va_G} {cI cQ : ClassId} {A : Nat → Prop} {Q : State → Prop} (a : Nat → Nat) (t : LT) (p1 : Int32) {post : Int32 → Prop} (C : xC p s mi args co cX1_at RX1 2 D (tyL cI cQ) A) (hret : ∀ (pc : Nat) (r : Int32) (u : Unit) (lv : List (Nat × Value)), decode cX1_at pc = .ok (.ireturn, 1) → post r → xG p l e (rmL 0 0 0 0) s mi args below meth co D A 2 Q 0 0 pc [.int r] [gLet cI a t] lv) (hw : p_X1_at t p1 post) : xG p l e (rmL 0 0 0 0) s mi args below meth co D A 2 Q 0 0 0 [] [gLet cI a t] [(0, .ref (a 0)), (1, .int p1)] := by
  unfold p_X1_at at hw
  obtain ⟨t_ar, t_sz⟩ := t
  try dsimp only at hw
  show xG p l e (rmL 0 0 0 0) s mi args below meth co D A 2 Q 0 0 0 [] [gLet cI a (t_ar, t_sz)] [(0, .ref (a 0)), (1, .int p1)]
  refine g_iload_n C dX1_at_0 1 rfl rfl ?_
  refine g_if_lt (tgt := 21) C dX1_at_1 (by decide) rfl hw (fun _ hw => ?_) (fun _ hw => ?_)
  · refine g_iconst (v := -1) C dX1_at_21 (by decide) rfl ?_
    exact hret 22 (-1 : Int32) () _ dX1_at_22 hw
  · refine g_iload_n C dX1_at_4 1 rfl rfl ?_
    refine g_aload_n C dX1_at_5 0 rfl rfl ?_
    refine g_get (v := .int t_sz) (ci := 0) C dX1_at_6 inw_X1 rfl 0 0 1 rfl rfl (Nat.le_of_ble_eq_true rfl) rfl fl_X1_15 rfl rfl ?_
    refine g_icmp_ge (tgt := 21) C dX1_at_9 (by decide) rfl hw (fun _ hw => ?_) (fun _ hw => ?_)
    · refine g_iconst (v := -1) C dX1_at_21 (by decide) rfl ?_
      exact hret 22 (-1 : Int32) () _ dX1_at_22 hw
    · refine g_aload_n C dX1_at_12 0 rfl rfl ?_
      refine g_get (v := .ref (a 1)) (ci := 0) C dX1_at_13 inw_X1 rfl 0 0 0 rfl rfl (Nat.le_of_ble_eq_true rfl) rfl fl_X1_9 rfl rfl ?_
      refine g_iload_n C dX1_at_16 1 rfl rfl ?_
      have hi17 := hw.1
      replace hw := hw.2
      refine g_iald (f := t_ar) C dX1_at_17 0 1 rfl rfl 0 rfl hi17 rfl ?_
      refine g_goto (pc' := 22) C dX1_at_18 (by decide) rfl ?_
      exact hret 22 (t_ar (p1).toNatClampNeg) () _ dX1_at_22 hw
set_option maxRecDepth 100000 in
theorem c_X1_at (l : Launch) (D : va_G) (cI cQ : ClassId) (a : Nat → Nat) (t : LT) (p1 : Int32) (post : Int32 → Prop) (sz : Nat) : Met l yX1_at (wsY yX1_at cX1_at 2 (some .int)) (rmL 0 0 0 0) (xP D (tyL cI cQ) [.ref (a 0), .int p1] [gLet cI a t] sz (p_X1_at t p1 post)) (xQi D (tyL cI cQ) (fun (r : Int32) (_ : Unit) => post r) (fun (u : Unit) => [gLet cI a t]) (va_A [gLet cI a t].flatten sz)) 0 0 (va_A [gLet cI a t].flatten sz) :=
  Met_i pn_X1 (Nat.le_of_ble_eq_true rfl) (fun p e s mi below meth co A Q _ C hret hw => w_X1_at a t p1 C hret hw)
theorem kV_X1_at : Cond.instanceMethod yX1_at ∈ gTbl ∧ Cond.selects yX1_at.cls yX1_at yX1_at ∈ gTbl ∧ Cond.initialized yX1_at.cls ∈ gTbl ∧ Cond.code yX1_at cX1_at 2 (some .int) ∈ gTbl ∧ (yX1_at.cls ≠ "java/lang/invoke/MethodHandle" ∧ yX1_at.cls ≠ "java/lang/invoke/VarHandle" ∧ (parseMethodDescriptor yX1_at.desc).map (fun d => d.parameters.length) = some 1) := ⟨im_X1_at, sl_X1_at, in_X1, cd_X1_at, (by decide +kernel)⟩
set_option maxRecDepth 100000 in
def p_X1_isDigit (p1 : Int32) (post : Int32 → Prop) : Prop := ((p1 < (48 : Int32) → post (0 : Int32)) ∧ (¬ p1 < (48 : Int32) → (((57 : Int32) < p1 → post (0 : Int32)) ∧ (¬ (57 : Int32) < p1 → post (1 : Int32)))))
set_option maxHeartbeats 4000000 in
set_option maxRecDepth 100000 in
theorem w_X1_isDigit {p : Program} {l : Launch} {e : Env} {s : State} {mi : MethodId} {args : Array Value} {below : List Frame} {meth : Method} {co : Code} {D : va_G} {cI cQ : ClassId} {A : Nat → Prop} {Q : State → Prop} (p1 : Int32) {post : Int32 → Prop} (C : xC p s mi args co cX1_isDigit RX1 1 D (tyL cI cQ) A) (hret : ∀ (pc : Nat) (r : Int32) (u : Unit) (lv : List (Nat × Value)), decode cX1_isDigit pc = .ok (.ireturn, 1) → bz r → post r → xG p l e (rmL 0 0 0 0) s mi args below meth co D A 1 Q 0 0 pc [.int r] [] lv) (hw : p_X1_isDigit p1 post) : xG p l e (rmL 0 0 0 0) s mi args below meth co D A 1 Q 0 0 0 [] [] [(0, .int p1)] := by
  unfold p_X1_isDigit at hw
  try dsimp only at hw
  show xG p l e (rmL 0 0 0 0) s mi args below meth co D A 1 Q 0 0 0 [] [] [(0, .int p1)]
  refine g_iload_n C dX1_isDigit_0 0 rfl rfl ?_
  refine g_bipush (v := 48) C dX1_isDigit_1 (by decide) rfl ?_
  refine g_icmp_lt (tgt := 16) C dX1_isDigit_3 (by decide) rfl hw (fun _ hw => ?_) (fun _ hw => ?_)
  · refine g_iconst (v := 0) C dX1_isDigit_16 rfl rfl ?_
    exact hret 17 (0 : Int32) () _ dX1_isDigit_17 ⟨rfl, rfl⟩ hw
  · refine g_iload_n C dX1_isDigit_6 0 rfl rfl ?_
    refine g_bipush (v := 57) C dX1_isDigit_7 (by decide) rfl ?_
    refine g_icmp_gt (tgt := 16) C dX1_isDigit_9 (by decide) rfl hw (fun _ hw => ?_) (fun _ hw => ?_)
    · refine g_iconst (v := 0) C dX1_isDigit_16 rfl rfl ?_
      exact hret 17 (0 : Int32) () _ dX1_isDigit_17 ⟨rfl, rfl⟩ hw
    · refine g_iconst (v := 1) C dX1_isDigit_12 rfl rfl ?_
      refine g_goto (pc' := 17) C dX1_isDigit_13 (by decide) rfl ?_
      exact hret 17 (1 : Int32) () _ dX1_isDigit_17 ⟨rfl, rfl⟩ hw
set_option maxRecDepth 100000 in
theorem c_X1_isDigit (l : Launch) (D : va_G) (cI cQ : ClassId) (p1 : Int32) (post : Int32 → Prop) (sz : Nat) : Met l yX1_isDigit (wsY yX1_isDigit cX1_isDigit 1 (some .boolean)) (rmL 0 0 0 0) (xP D (tyL cI cQ) [.int p1] [] sz (p_X1_isDigit p1 post)) (xQi D (tyL cI cQ) (fun (r : Int32) (_ : Unit) => post r) (fun (u : Unit) => []) (va_A [].flatten sz)) 0 0 (va_A [].flatten sz) :=
  Met_z pn_X1 (Nat.le_of_ble_eq_true rfl) (fun p e s mi below meth co A Q _ C hret hw => w_X1_isDigit p1 C hret hw)
theorem kS_X1_isDigit : Cond.static yX1_isDigit ∈ gTbl ∧ Cond.initialized yX1_isDigit.cls ∈ gTbl ∧ Cond.code yX1_isDigit cX1_isDigit 1 (some .boolean) ∈ gTbl ∧ (yX1_isDigit.cls ≠ "java/lang/invoke/MethodHandle" ∧ yX1_isDigit.cls ≠ "java/lang/invoke/VarHandle" ∧ (parseMethodDescriptor yX1_isDigit.desc).map (fun d => d.parameters.length) = some 1) := ⟨sm_X1_isDigit, in_X1, cd_X1_isDigit, (by decide +kernel)⟩
set_option maxRecDepth 100000 in
def p_X1_digitAt (t : LT) (p1 : Int32) (post : Int32 → Prop) : Prop := (fun (t_ar : F1) (t_sz : Int32) => p_X1_at (t_ar, t_sz) p1 (fun (r1 : Int32) => p_X1_isDigit r1 (fun (r2 : Int32) => ((r2 = 0 → post (-1 : Int32)) ∧ (¬ r2 = 0 → post (r1 - (48 : Int32))))))) t.1 t.2
set_option maxHeartbeats 4000000 in
set_option maxRecDepth 100000 in
theorem w_X1_digitAt {p : Program} {l : Launch} {e : Env} {s : State} {mi : MethodId} {args : Array Value} {below : List Frame} {meth : Method} {co : Code} {D : va_G} {cI cQ : ClassId} {A : Nat → Prop} {Q : State → Prop} (a : Nat → Nat) (t : LT) (p1 : Int32) {post : Int32 → Prop} (C : xC p s mi args co cX1_digitAt RX1 3 D (tyL cI cQ) A) (hret : ∀ (pc : Nat) (r : Int32) (u : Unit) (lv : List (Nat × Value)), decode cX1_digitAt pc = .ok (.ireturn, 1) → post r → xG p l e (rmL 1 0 0 21) s mi args below meth co D A 3 Q 0 0 pc [.int r] [gLet cI a t] lv) (hw : p_X1_digitAt t p1 post) : xG p l e (rmL 1 0 0 21) s mi args below meth co D A 3 Q 0 0 0 [] [gLet cI a t] [(0, .ref (a 0)), (1, .int p1)] := by
  unfold p_X1_digitAt at hw
  obtain ⟨t_ar, t_sz⟩ := t
  try dsimp only at hw
  show xG p l e (rmL 1 0 0 21) s mi args below meth co D A 3 Q 0 0 0 [] [gLet cI a (t_ar, t_sz)] [(0, .ref (a 0)), (1, .int p1)]
  refine g_aload_n C dX1_digitAt_0 0 rfl rfl ?_
  refine g_iload_n C dX1_digitAt_1 1 rfl rfl ?_
  refine g_callVi (As := [.int p1]) (gr := []) C (c_X1_at l D cI cQ a (t_ar, t_sz) p1 _) dX1_digitAt_2 ⟨ml_X1_19, kV_X1_at⟩ ⟨Nat.le_of_ble_eq_true rfl, Nat.le_of_ble_eq_true rfl⟩ ⟨Nat.le_refl _, Nat.le_refl _⟩ rfl rfl 0 0 rfl rfl [0] rfl rfl rfl rfl (Nat.le_of_ble_eq_true rfl) rfl (fun (u : Unit) => [gLet cI a (t_ar, t_sz)]) [0] (fun _ => rfl) (fun _ => rfl) hw (fun r1 u1 hw => ?_)
  refine g_istore_n (v := r1) C dX1_digitAt_5 rfl (Nat.le_of_ble_eq_true rfl) (lv' := [(2, .int r1), (0, .ref (a 0)), (1, .int p1)]) rfl rfl ?_
  refine g_iload_n C dX1_digitAt_6 0 rfl rfl ?_
  refine g_callSi (As := [.int r1]) (gr := [gLet cI a (t_ar, t_sz)]) C (c_X1_isDigit l D cI cQ   r1 _) dX1_digitAt_7 ⟨ml_X1_23, kS_X1_isDigit⟩ ⟨Nat.le_of_ble_eq_true rfl, Nat.le_of_ble_eq_true rfl⟩ ⟨Nat.le_refl _, Nat.le_refl _⟩ [0] rfl rfl rfl rfl (Nat.le_of_ble_eq_true rfl) rfl (fun (u : Unit) => [gLet cI a (t_ar, t_sz)]) [0] (fun _ => rfl) (fun _ => rfl) hw (fun r2 u2 hw => ?_)
  refine g_if_eq (tgt := 20) C dX1_digitAt_10 (by decide) rfl hw (fun _ hw => ?_) (fun _ hw => ?_)
  · refine g_iconst (v := -1) C dX1_digitAt_20 (by decide) rfl ?_
    exact hret 21 (-1 : Int32) () _ dX1_digitAt_21 hw
  · refine g_iload_n C dX1_digitAt_13 0 rfl rfl ?_
    refine g_bipush (v := 48) C dX1_digitAt_14 (by decide) rfl ?_
    refine g_isub C dX1_digitAt_16 rfl ?_
    refine g_goto (pc' := 21) C dX1_digitAt_17 (by decide) rfl ?_
    exact hret 21 (r1 - (48 : Int32)) () _ dX1_digitAt_21 hw
set_option maxRecDepth 100000 in
theorem c_X1_digitAt (l : Launch) (D : va_G) (cI cQ : ClassId) (a : Nat → Nat) (t : LT) (p1 : Int32) (post : Int32 → Prop) (sz : Nat) : Met l yX1_digitAt (wsY yX1_digitAt cX1_digitAt 3 (some .int)) (rmL 1 0 0 21) (xP D (tyL cI cQ) [.ref (a 0), .int p1] [gLet cI a t] sz (p_X1_digitAt t p1 post)) (xQi D (tyL cI cQ) (fun (r : Int32) (_ : Unit) => post r) (fun (u : Unit) => [gLet cI a t]) (va_A [gLet cI a t].flatten sz)) 0 0 (va_A [gLet cI a t].flatten sz) :=
  Met_i pn_X1 (Nat.le_of_ble_eq_true rfl) (fun p e s mi below meth co A Q _ C hret hw => w_X1_digitAt a t p1 C hret hw)
theorem kV_X1_digitAt : Cond.instanceMethod yX1_digitAt ∈ gTbl ∧ Cond.selects yX1_digitAt.cls yX1_digitAt yX1_digitAt ∈ gTbl ∧ Cond.initialized yX1_digitAt.cls ∈ gTbl ∧ Cond.code yX1_digitAt cX1_digitAt 3 (some .int) ∈ gTbl ∧ (yX1_digitAt.cls ≠ "java/lang/invoke/MethodHandle" ∧ yX1_digitAt.cls ≠ "java/lang/invoke/VarHandle" ∧ (parseMethodDescriptor yX1_digitAt.desc).map (fun d => d.parameters.length) = some 1) := ⟨im_X1_digitAt, sl_X1_digitAt, in_X1, cd_X1_digitAt, (by decide +kernel)⟩
set_option maxRecDepth 100000 in
def p_X1_beginsAt (t : LT) (p1 : Int32) (post : Int32 → Prop) : Prop := (fun (t_ar : F1) (t_sz : Int32) => ((p1 = 0 → post (1 : Int32)) ∧ (¬ p1 = 0 → p_X1_at (t_ar, t_sz) (p1 - (1 : Int32)) (fun (r1 : Int32) => ((r1 = (59 : Int32) → post (1 : Int32)) ∧ (¬ r1 = (59 : Int32) → post (0 : Int32))))))) t.1 t.2
set_option maxHeartbeats 4000000 in
set_option maxRecDepth 100000 in
theorem w_X1_beginsAt {p : Program} {l : Launch} {e : Env} {s : State} {mi : MethodId} {args : Array Value} {below : List Frame} {meth : Method} {co : Code} {D : va_G} {cI cQ : ClassId} {A : Nat → Prop} {Q : State → Prop} (a : Nat → Nat) (t : LT) (p1 : Int32) {post : Int32 → Prop} (C : xC p s mi args co cX1_beginsAt RX1 2 D (tyL cI cQ) A) (hret : ∀ (pc : Nat) (r : Int32) (u : Unit) (lv : List (Nat × Value)), decode cX1_beginsAt pc = .ok (.ireturn, 1) → bz r → post r → xG p l e (rmL 1 0 0 21) s mi args below meth co D A 2 Q 0 0 pc [.int r] [gLet cI a t] lv) (hw : p_X1_beginsAt t p1 post) : xG p l e (rmL 1 0 0 21) s mi args below meth co D A 2 Q 0 0 0 [] [gLet cI a t] [(0, .ref (a 0)), (1, .int p1)] := by
  unfold p_X1_beginsAt at hw
  obtain ⟨t_ar, t_sz⟩ := t
  try dsimp only at hw
  show xG p l e (rmL 1 0 0 21) s mi args below meth co D A 2 Q 0 0 0 [] [gLet cI a (t_ar, t_sz)] [(0, .ref (a 0)), (1, .int p1)]
  refine g_iload_n C dX1_beginsAt_0 1 rfl rfl ?_
  refine g_if_eq (tgt := 16) C dX1_beginsAt_1 (by decide) rfl hw (fun _ hw => ?_) (fun _ hw => ?_)
  · refine g_iconst (v := 1) C dX1_beginsAt_16 rfl rfl ?_
    refine g_goto (pc' := 21) C dX1_beginsAt_17 (by decide) rfl ?_
    exact hret 21 (1 : Int32) () _ dX1_beginsAt_21 ⟨rfl, rfl⟩ hw
  · refine g_aload_n C dX1_beginsAt_4 0 rfl rfl ?_
    refine g_iload_n C dX1_beginsAt_5 1 rfl rfl ?_
    refine g_iconst (v := 1) C dX1_beginsAt_6 rfl rfl ?_
    refine g_isub C dX1_beginsAt_7 rfl ?_
    refine g_callVi (As := [.int (p1 - (1 : Int32))]) (gr := []) C (c_X1_at l D cI cQ a (t_ar, t_sz) (p1 - (1 : Int32)) _) dX1_beginsAt_8 ⟨ml_X1_19, kV_X1_at⟩ ⟨Nat.le_of_ble_eq_true rfl, Nat.le_of_ble_eq_true rfl⟩ ⟨Nat.le_refl _, Nat.le_refl _⟩ rfl rfl 0 0 rfl rfl [0] rfl rfl rfl rfl (Nat.le_of_ble_eq_true rfl) rfl (fun (u : Unit) => [gLet cI a (t_ar, t_sz)]) [0] (fun _ => rfl) (fun _ => rfl) hw (fun r1 u1 hw => ?_)
    refine g_bipush (v := 59) C dX1_beginsAt_11 (by decide) rfl ?_
    refine g_icmp_ne (tgt := 20) C dX1_beginsAt_13 (by decide) rfl hw (fun _ hw => ?_) (fun _ hw => ?_)
    · refine g_iconst (v := 0) C dX1_beginsAt_20 rfl rfl ?_
      exact hret 21 (0 : Int32) () _ dX1_beginsAt_21 ⟨rfl, rfl⟩ hw
    · refine g_iconst (v := 1) C dX1_beginsAt_16 rfl rfl ?_
      refine g_goto (pc' := 21) C dX1_beginsAt_17 (by decide) rfl ?_
      exact hret 21 (1 : Int32) () _ dX1_beginsAt_21 ⟨rfl, rfl⟩ hw
set_option maxRecDepth 100000 in
theorem c_X1_beginsAt (l : Launch) (D : va_G) (cI cQ : ClassId) (a : Nat → Nat) (t : LT) (p1 : Int32) (post : Int32 → Prop) (sz : Nat) : Met l yX1_beginsAt (wsY yX1_beginsAt cX1_beginsAt 2 (some .boolean)) (rmL 1 0 0 21) (xP D (tyL cI cQ) [.ref (a 0), .int p1] [gLet cI a t] sz (p_X1_beginsAt t p1 post)) (xQi D (tyL cI cQ) (fun (r : Int32) (_ : Unit) => post r) (fun (u : Unit) => [gLet cI a t]) (va_A [gLet cI a t].flatten sz)) 0 0 (va_A [gLet cI a t].flatten sz) :=
  Met_z pn_X1 (Nat.le_of_ble_eq_true rfl) (fun p e s mi below meth co A Q _ C hret hw => w_X1_beginsAt a t p1 C hret hw)
theorem kV_X1_beginsAt : Cond.instanceMethod yX1_beginsAt ∈ gTbl ∧ Cond.selects yX1_beginsAt.cls yX1_beginsAt yX1_beginsAt ∈ gTbl ∧ Cond.initialized yX1_beginsAt.cls ∈ gTbl ∧ Cond.code yX1_beginsAt cX1_beginsAt 2 (some .boolean) ∈ gTbl ∧ (yX1_beginsAt.cls ≠ "java/lang/invoke/MethodHandle" ∧ yX1_beginsAt.cls ≠ "java/lang/invoke/VarHandle" ∧ (parseMethodDescriptor yX1_beginsAt.desc).map (fun d => d.parameters.length) = some 1) := ⟨im_X1_beginsAt, sl_X1_beginsAt, in_X1, cd_X1_beginsAt, (by decide +kernel)⟩
set_option maxRecDepth 100000 in
def p_X1_digitsBehind (p1 : Int32) (post : Int32 → Prop) : Prop := ((p1 = 98 → post (1 : Int32)) ∧ (¬ p1 = 98 → ((p1 = 99 → post (0 : Int32)) ∧ (¬ p1 = 99 → ((p1 = 100 → post (2 : Int32)) ∧ (¬ p1 = 100 → ((p1 = 110 → post (2 : Int32)) ∧ (¬ p1 = 110 → ((p1 = 118 → post (3 : Int32)) ∧ (¬ p1 = 118 → ((p1 = 120 → post (2 : Int32)) ∧ (¬ p1 = 120 → post (-1 : Int32)))))))))))))
set_option maxHeartbeats 4000000 in
set_option maxRecDepth 100000 in
theorem w_X1_digitsBehind {p : Program} {l : Launch} {e : Env} {s : State} {mi : MethodId} {args : Array Value} {below : List Frame} {meth : Method} {co : Code} {D : va_G} {cI cQ : ClassId} {A : Nat → Prop} {Q : State → Prop} (p1 : Int32) {post : Int32 → Prop} (C : xC p s mi args co cX1_digitsBehind RX1 1 D (tyL cI cQ) A) (hret : ∀ (pc : Nat) (r : Int32) (u : Unit) (lv : List (Nat × Value)), decode cX1_digitsBehind pc = .ok (.ireturn, 1) → post r → xG p l e (rmL 0 0 0 0) s mi args below meth co D A 1 Q 0 0 pc [.int r] [] lv) (hw : p_X1_digitsBehind p1 post) : xG p l e (rmL 0 0 0 0) s mi args below meth co D A 1 Q 0 0 0 [] [] [(0, .int p1)] := by
  unfold p_X1_digitsBehind at hw
  try dsimp only at hw
  show xG p l e (rmL 0 0 0 0) s mi args below meth co D A 1 Q 0 0 0 [] [] [(0, .int p1)]
  refine g_iload_n C dX1_digitsBehind_0 0 rfl rfl ?_
  rcases Classical.em (p1 = 98) with hs1_0 | hs1_0
  · replace hw := hw.1 hs1_0
    refine g_lsw (pc' := 62) C dX1_digitsBehind_1 (by decide) (by first | (rw [hs1_0]; done) | (rw [hs1_0]; rfl)) (by decide) ?_
    refine g_iconst (v := 1) C dX1_digitsBehind_62 rfl rfl ?_
    exact hret 63 (1 : Int32) () _ dX1_digitsBehind_63 hw
  · replace hw := hw.2 hs1_0
    rcases Classical.em (p1 = 99) with hs1_1 | hs1_1
    · replace hw := hw.1 hs1_1
      refine g_lsw (pc' := 60) C dX1_digitsBehind_1 (by decide) (by first | (rw [hs1_1]; done) | (rw [hs1_1]; rfl)) (by decide) ?_
      refine g_iconst (v := 0) C dX1_digitsBehind_60 rfl rfl ?_
      exact hret 61 (0 : Int32) () _ dX1_digitsBehind_61 hw
    · replace hw := hw.2 hs1_1
      rcases Classical.em (p1 = 100) with hs1_2 | hs1_2
      · replace hw := hw.1 hs1_2
        refine g_lsw (pc' := 64) C dX1_digitsBehind_1 (by decide) (by first | (rw [hs1_2]; done) | (rw [hs1_2]; rfl)) (by decide) ?_
        refine g_iconst (v := 2) C dX1_digitsBehind_64 rfl rfl ?_
        exact hret 65 (2 : Int32) () _ dX1_digitsBehind_65 hw
      · replace hw := hw.2 hs1_2
        rcases Classical.em (p1 = 110) with hs1_3 | hs1_3
        · replace hw := hw.1 hs1_3
          refine g_lsw (pc' := 64) C dX1_digitsBehind_1 (by decide) (by first | (rw [hs1_3]; done) | (rw [hs1_3]; rfl)) (by decide) ?_
          refine g_iconst (v := 2) C dX1_digitsBehind_64 rfl rfl ?_
          exact hret 65 (2 : Int32) () _ dX1_digitsBehind_65 hw
        · replace hw := hw.2 hs1_3
          rcases Classical.em (p1 = 118) with hs1_4 | hs1_4
          · replace hw := hw.1 hs1_4
            refine g_lsw (pc' := 66) C dX1_digitsBehind_1 (by decide) (by first | (rw [hs1_4]; done) | (rw [hs1_4]; rfl)) (by decide) ?_
            refine g_iconst (v := 3) C dX1_digitsBehind_66 rfl rfl ?_
            exact hret 67 (3 : Int32) () _ dX1_digitsBehind_67 hw
          · replace hw := hw.2 hs1_4
            rcases Classical.em (p1 = 120) with hs1_5 | hs1_5
            · replace hw := hw.1 hs1_5
              refine g_lsw (pc' := 64) C dX1_digitsBehind_1 (by decide) (by first | (rw [hs1_5]; done) | (rw [hs1_5]; rfl)) (by decide) ?_
              refine g_iconst (v := 2) C dX1_digitsBehind_64 rfl rfl ?_
              exact hret 65 (2 : Int32) () _ dX1_digitsBehind_65 hw
            · replace hw := hw.2 hs1_5
              refine g_lsw (off := 67) (pc' := 68) C dX1_digitsBehind_1 (by decide) (by show Op.lookupswitch.offset [(98, 61), (99, 59), (100, 63), (110, 63), (118, 65), (120, 63)] 67 _ = 67; rw [lv_osw hs1_0 (by decide), lv_osw hs1_1 (by decide), lv_osw hs1_2 (by decide), lv_osw hs1_3 (by decide), lv_osw hs1_4 (by decide), lv_osw hs1_5 (by decide)]; rfl) (by decide) ?_
              refine g_iconst (v := -1) C dX1_digitsBehind_68 (by decide) rfl ?_
              exact hret 69 (-1 : Int32) () _ dX1_digitsBehind_69 hw
set_option maxRecDepth 100000 in
theorem c_X1_digitsBehind (l : Launch) (D : va_G) (cI cQ : ClassId) (p1 : Int32) (post : Int32 → Prop) (sz : Nat) : Met l yX1_digitsBehind (wsY yX1_digitsBehind cX1_digitsBehind 1 (some .int)) (rmL 0 0 0 0) (xP D (tyL cI cQ) [.int p1] [] sz (p_X1_digitsBehind p1 post)) (xQi D (tyL cI cQ) (fun (r : Int32) (_ : Unit) => post r) (fun (u : Unit) => []) (va_A [].flatten sz)) 0 0 (va_A [].flatten sz) :=
  Met_i pn_X1 (Nat.le_of_ble_eq_true rfl) (fun p e s mi below meth co A Q _ C hret hw => w_X1_digitsBehind p1 C hret hw)
theorem kS_X1_digitsBehind : Cond.static yX1_digitsBehind ∈ gTbl ∧ Cond.initialized yX1_digitsBehind.cls ∈ gTbl ∧ Cond.code yX1_digitsBehind cX1_digitsBehind 1 (some .int) ∈ gTbl ∧ (yX1_digitsBehind.cls ≠ "java/lang/invoke/MethodHandle" ∧ yX1_digitsBehind.cls ≠ "java/lang/invoke/VarHandle" ∧ (parseMethodDescriptor yX1_digitsBehind.desc).map (fun d => d.parameters.length) = some 1) := ⟨sm_X1_digitsBehind, in_X1, cd_X1_digitsBehind, (by decide +kernel)⟩
set_option maxRecDepth 100000 in
def p_X1_firstFault (t : LT) (post : Int32 → Prop) : Prop := (fun (t_ar : F1) (t_sz : Int32) => lpN (fun (K3 : (Int32 × Int32) → Prop) (z3 : Int32 × Int32) => (fun (x1 : Int32) (x2 : Int32) => ((t_sz ≤ x2 → ((t_sz ≤ 0 → post t_sz) ∧ (¬ t_sz ≤ 0 → ((x1 = (-1 : Int32) → post (-1 : Int32)) ∧ (¬ x1 = (-1 : Int32) → post t_sz))))) ∧ (¬ t_sz ≤ x2 → (vp_in x2 96 ∧ nm ((t_ar (x2).toNatClampNeg) : Int32) (fun (v4 : Int32) => ((x1 = (-1 : Int32) → p_X1_digitsBehind v4 (fun (r6 : Int32) => (((0 : Int32) ≤ r6 → K3 (r6, (x2 + 1))) ∧ (¬ (0 : Int32) ≤ r6 → post x2)))) ∧ (¬ x1 = (-1 : Int32) → ((x1 ≤ 0 → ((v4 = (59 : Int32) → K3 ((-1 : Int32), (x2 + 1))) ∧ (¬ v4 = (59 : Int32) → post x2))) ∧ (¬ x1 ≤ 0 → p_X1_isDigit v4 (fun (r5 : Int32) => ((r5 = 0 → post x2) ∧ (¬ r5 = 0 → K3 ((x1 + (-1)), (x2 + 1)))))))))))))) z3.1 z3.2) 1000 ((-1 : Int32), (0 : Int32))) t.1 t.2
set_option maxHeartbeats 4000000 in
set_option maxRecDepth 100000 in
theorem w_X1_firstFault {p : Program} {l : Launch} {e : Env} {s : State} {mi : MethodId} {args : Array Value} {below : List Frame} {meth : Method} {co : Code} {D : va_G} {cI cQ : ClassId} {A : Nat → Prop} {Q : State → Prop} (a : Nat → Nat) (t : LT) {post : Int32 → Prop} (C : xC p s mi args co cX1_firstFault RX1 4 D (tyL cI cQ) A) (hret : ∀ (pc : Nat) (r : Int32) (u : Unit) (lv : List (Nat × Value)), decode cX1_firstFault pc = .ok (.ireturn, 1) → post r → xG p l e (rmL 1 0 0 20) s mi args below meth co D A 4 Q 0 0 pc [.int r] [gLet cI a t] lv) (hw : p_X1_firstFault t post) : xG p l e (rmL 1 0 0 20) s mi args below meth co D A 4 Q 0 0 0 [] [gLet cI a t] [(0, .ref (a 0))] := by
  unfold p_X1_firstFault at hw
  obtain ⟨t_ar, t_sz⟩ := t
  try dsimp only at hw
  show xG p l e (rmL 1 0 0 20) s mi args below meth co D A 4 Q 0 0 0 [] [gLet cI a (t_ar, t_sz)] [(0, .ref (a 0))]
  refine g_iconst (v := -1) C dX1_firstFault_0 (by decide) rfl ?_
  refine g_istore_n (v := (-1 : Int32)) C dX1_firstFault_1 rfl (Nat.le_of_ble_eq_true rfl) (lv' := [(1, .int (-1 : Int32)), (0, .ref (a 0))]) rfl rfl ?_
  refine g_iconst (v := 0) C dX1_firstFault_2 rfl rfl ?_
  refine g_istore_n (v := (0 : Int32)) C dX1_firstFault_3 rfl (Nat.le_of_ble_eq_true rfl) (lv' := [(2, .int (0 : Int32)), (1, .int (-1 : Int32)), (0, .ref (a 0))]) rfl rfl ?_
  refine g_lv [2, 1, 0] rfl ?_
  refine lpN_ind (G := (fun (z3 : Int32 × Int32) => (fun (x1 : Int32) (x2 : Int32) => xG p l e (rmL 1 0 0 20) s mi args below meth co D A 4 Q 0 0 4 [] [gLet cI a (t_ar, t_sz)] [(0, .ref (a 0)), (1, .int x1), (2, .int x2)]) z3.1 z3.2)) ?_ 1000 ((-1 : Int32), (0 : Int32)) hw
  rintro K3 ⟨x1, x2⟩ ih3 hw
  show xG p l e (rmL 1 0 0 20) s mi args below meth co D A 4 Q 0 0 4 [] [gLet cI a (t_ar, t_sz)] [(0, .ref (a 0)), (1, .int x1), (2, .int x2)]
  refine g_iload_n C dX1_firstFault_4 2 rfl rfl ?_
  refine g_aload_n C dX1_firstFault_5 0 rfl rfl ?_
  refine g_get (v := .int t_sz) (ci := 0) C dX1_firstFault_6 inw_X1 rfl 0 0 1 rfl rfl (Nat.le_of_ble_eq_true rfl) rfl fl_X1_15 rfl rfl ?_
  refine g_icmp_ge (tgt := 70) C dX1_firstFault_9 (by decide) rfl hw (fun _ hw => ?_) (fun _ hw => ?_)
  · refine g_aload_n C dX1_firstFault_70 0 rfl rfl ?_
    refine g_get (v := .int t_sz) (ci := 0) C dX1_firstFault_71 inw_X1 rfl 0 0 1 rfl rfl (Nat.le_of_ble_eq_true rfl) rfl fl_X1_15 rfl rfl ?_
    refine g_if_le (tgt := 86) C dX1_firstFault_74 (by decide) rfl hw (fun _ hw => ?_) (fun _ hw => ?_)
    · refine g_aload_n C dX1_firstFault_86 0 rfl rfl ?_
      refine g_get (v := .int t_sz) (ci := 0) C dX1_firstFault_87 inw_X1 rfl 0 0 1 rfl rfl (Nat.le_of_ble_eq_true rfl) rfl fl_X1_15 rfl rfl ?_
      exact hret 90 t_sz () _ dX1_firstFault_90 hw
    · refine g_iload_n C dX1_firstFault_77 1 rfl rfl ?_
      refine g_iconst (v := -1) C dX1_firstFault_78 (by decide) rfl ?_
      refine g_icmp_ne (tgt := 86) C dX1_firstFault_79 (by decide) rfl hw (fun _ hw => ?_) (fun _ hw => ?_)
      · refine g_aload_n C dX1_firstFault_86 0 rfl rfl ?_
        refine g_get (v := .int t_sz) (ci := 0) C dX1_firstFault_87 inw_X1 rfl 0 0 1 rfl rfl (Nat.le_of_ble_eq_true rfl) rfl fl_X1_15 rfl rfl ?_
        exact hret 90 t_sz () _ dX1_firstFault_90 hw
      · refine g_iconst (v := -1) C dX1_firstFault_82 (by decide) rfl ?_
        refine g_goto (pc' := 90) C dX1_firstFault_83 (by decide) rfl ?_
        exact hret 90 (-1 : Int32) () _ dX1_firstFault_90 hw
  · refine g_aload_n C dX1_firstFault_12 0 rfl rfl ?_
    refine g_get (v := .ref (a 1)) (ci := 0) C dX1_firstFault_13 inw_X1 rfl 0 0 0 rfl rfl (Nat.le_of_ble_eq_true rfl) rfl fl_X1_9 rfl rfl ?_
    refine g_iload_n C dX1_firstFault_16 2 rfl rfl ?_
    have hi17 := hw.1
    replace hw := hw.2
    refine g_iald (f := t_ar) C dX1_firstFault_17 0 1 rfl rfl 0 rfl hi17 rfl ?_
    refine nm_el hw (fun v4 ev4 hw => ?_)
    refine g_istore_n (v := v4) C dX1_firstFault_18 ev4.symm (Nat.le_of_ble_eq_true rfl) (lv' := [(3, .int v4), (0, .ref (a 0)), (1, .int x1), (2, .int x2)]) rfl rfl ?_
    refine g_iload_n C dX1_firstFault_19 2 rfl rfl ?_
    refine g_iconst (v := -1) C dX1_firstFault_20 (by decide) rfl ?_
    refine g_icmp_ne (tgt := 35) C dX1_firstFault_21 (by decide) rfl hw (fun _ hw => ?_) (fun _ hw => ?_)
    · refine g_iload_n C dX1_firstFault_35 2 rfl rfl ?_
      refine g_if_le (tgt := 54) C dX1_firstFault_36 (by decide) rfl hw (fun _ hw => ?_) (fun _ hw => ?_)
      · refine g_iload_n C dX1_firstFault_54 0 rfl rfl ?_
        refine g_bipush (v := 59) C dX1_firstFault_55 (by decide) rfl ?_
        refine g_icmp_eq (tgt := 62) C dX1_firstFault_57 (by decide) rfl hw (fun _ hw => ?_) (fun _ hw => ?_)
        · refine g_iconst (v := -1) C dX1_firstFault_62 (by decide) rfl ?_
          refine g_istore_n (v := (-1 : Int32)) C dX1_firstFault_63 rfl (Nat.le_of_ble_eq_true rfl) (lv' := [(1, .int (-1 : Int32)), (3, .int v4), (0, .ref (a 0)), (2, .int x2)]) rfl rfl ?_
          refine g_iinc (v := (x2 + 1)) (j := 3) C dX1_firstFault_64 rfl rfl (Nat.le_of_ble_eq_true rfl) (lv' := [(2, .int (x2 + 1)), (1, .int (-1 : Int32)), (3, .int v4), (0, .ref (a 0))]) rfl rfl ?_
          refine g_goto (pc' := 4) C dX1_firstFault_67 (by decide) rfl ?_
          refine g_lv [3, 1, 0] rfl ?_
          exact ih3 ((-1 : Int32), (x2 + 1)) hw
        · refine g_iload_n C dX1_firstFault_60 3 rfl rfl ?_
          exact hret 61 x2 () _ dX1_firstFault_61 hw
      · refine g_iload_n C dX1_firstFault_39 0 rfl rfl ?_
        refine g_callSi (As := [.int v4]) (gr := [gLet cI a (t_ar, t_sz)]) C (c_X1_isDigit l D cI cQ   v4 _) dX1_firstFault_40 ⟨ml_X1_23, kS_X1_isDigit⟩ ⟨Nat.le_of_ble_eq_true rfl, Nat.le_of_ble_eq_true rfl⟩ ⟨Nat.le_refl _, Nat.le_refl _⟩ [0] rfl rfl rfl rfl (Nat.le_of_ble_eq_true rfl) rfl (fun (u : Unit) => [gLet cI a (t_ar, t_sz)]) [0] (fun _ => rfl) (fun _ => rfl) hw (fun r5 u5 hw => ?_)
        refine g_if_ne (tgt := 48) C dX1_firstFault_43 (by decide) rfl hw (fun _ hw => ?_) (fun _ hw => ?_)
        · refine g_iinc (v := (x1 + (-1))) (j := 2) C dX1_firstFault_48 rfl (congrArg _ (by decide)) (Nat.le_of_ble_eq_true rfl) (lv' := [(1, .int (x1 + (-1))), (3, .int v4), (0, .ref (a 0)), (2, .int x2)]) rfl rfl ?_
          refine g_goto (pc' := 64) C dX1_firstFault_51 (by decide) rfl ?_
          refine g_iinc (v := (x2 + 1)) (j := 3) C dX1_firstFault_64 rfl rfl (Nat.le_of_ble_eq_true rfl) (lv' := [(2, .int (x2 + 1)), (1, .int (x1 + (-1))), (3, .int v4), (0, .ref (a 0))]) rfl rfl ?_
          refine g_goto (pc' := 4) C dX1_firstFault_67 (by decide) rfl ?_
          refine g_lv [3, 1, 0] rfl ?_
          exact ih3 ((x1 + (-1)), (x2 + 1)) hw
        · refine g_iload_n C dX1_firstFault_46 3 rfl rfl ?_
          exact hret 47 x2 () _ dX1_firstFault_47 hw
    · refine g_iload_n C dX1_firstFault_24 0 rfl rfl ?_
      refine g_callSi (As := [.int v4]) (gr := [gLet cI a (t_ar, t_sz)]) C (c_X1_digitsBehind l D cI cQ   v4 _) dX1_firstFault_25 ⟨ml_X1_27, kS_X1_digitsBehind⟩ ⟨Nat.le_of_ble_eq_true rfl, Nat.le_of_ble_eq_true rfl⟩ ⟨Nat.le_refl _, Nat.le_refl _⟩ [0] rfl rfl rfl rfl (Nat.le_of_ble_eq_true rfl) rfl (fun (u : Unit) => [gLet cI a (t_ar, t_sz)]) [0] (fun _ => rfl) (fun _ => rfl) hw (fun r6 u6 hw => ?_)
      refine g_istore_n (v := r6) C dX1_firstFault_28 rfl (Nat.le_of_ble_eq_true rfl) (lv' := [(1, .int r6), (3, .int v4), (0, .ref (a 0)), (2, .int x2)]) rfl rfl ?_
      refine g_iload_n C dX1_firstFault_29 0 rfl rfl ?_
      refine g_if_ge (tgt := 64) C dX1_firstFault_30 (by decide) rfl hw (fun _ hw => ?_) (fun _ hw => ?_)
      · refine g_iinc (v := (x2 + 1)) (j := 3) C dX1_firstFault_64 rfl rfl (Nat.le_of_ble_eq_true rfl) (lv' := [(2, .int (x2 + 1)), (1, .int r6), (3, .int v4), (0, .ref (a 0))]) rfl rfl ?_
        refine g_goto (pc' := 4) C dX1_firstFault_67 (by decide) rfl ?_
        refine g_lv [3, 1, 0] rfl ?_
        exact ih3 (r6, (x2 + 1)) hw
      · refine g_iload_n C dX1_firstFault_33 3 rfl rfl ?_
        exact hret 34 x2 () _ dX1_firstFault_34 hw
set_option maxRecDepth 100000 in
theorem c_X1_firstFault (l : Launch) (D : va_G) (cI cQ : ClassId) (a : Nat → Nat) (t : LT) (post : Int32 → Prop) (sz : Nat) : Met l yX1_firstFault (wsY yX1_firstFault cX1_firstFault 4 (some .int)) (rmL 1 0 0 20) (xP D (tyL cI cQ) [.ref (a 0)] [gLet cI a t] sz (p_X1_firstFault t post)) (xQi D (tyL cI cQ) (fun (r : Int32) (_ : Unit) => post r) (fun (u : Unit) => [gLet cI a t]) (va_A [gLet cI a t].flatten sz)) 0 0 (va_A [gLet cI a t].flatten sz) :=
  Met_i pn_X1 (Nat.le_of_ble_eq_true rfl) (fun p e s mi below meth co A Q _ C hret hw => w_X1_firstFault a t C hret hw)
theorem kV_X1_firstFault : Cond.instanceMethod yX1_firstFault ∈ gTbl ∧ Cond.selects yX1_firstFault.cls yX1_firstFault yX1_firstFault ∈ gTbl ∧ Cond.initialized yX1_firstFault.cls ∈ gTbl ∧ Cond.code yX1_firstFault cX1_firstFault 4 (some .int) ∈ gTbl ∧ (yX1_firstFault.cls ≠ "java/lang/invoke/MethodHandle" ∧ yX1_firstFault.cls ≠ "java/lang/invoke/VarHandle" ∧ (parseMethodDescriptor yX1_firstFault.desc).map (fun d => d.parameters.length) = some 0) := ⟨im_X1_firstFault, sl_X1_firstFault, in_X1, cd_X1_firstFault, (by decide +kernel)⟩
set_option maxRecDepth 100000 in
def p_X2_size (t : LT) (post : Int32 → Prop) : Prop := (fun (t_ar : F1) (t_sz : Int32) => post t_sz) t.1 t.2
set_option maxHeartbeats 4000000 in
set_option maxRecDepth 100000 in
theorem w_X2_size {p : Program} {l : Launch} {e : Env} {s : State} {mi : MethodId} {args : Array Value} {below : List Frame} {meth : Method} {co : Code} {D : va_G} {cI cQ : ClassId} {A : Nat → Prop} {Q : State → Prop} (a : Nat → Nat) (t : LT) {post : Int32 → Prop} (C : xC p s mi args co cX2_size RX2 1 D (tyL cI cQ) A) (hret : ∀ (pc : Nat) (r : Int32) (u : Unit) (lv : List (Nat × Value)), decode cX2_size pc = .ok (.ireturn, 1) → post r → xG p l e (rmL 0 0 0 0) s mi args below meth co D A 1 Q 0 0 pc [.int r] [gNum cI a t] lv) (hw : p_X2_size t post) : xG p l e (rmL 0 0 0 0) s mi args below meth co D A 1 Q 0 0 0 [] [gNum cI a t] [(0, .ref (a 0))] := by
  unfold p_X2_size at hw
  obtain ⟨t_ar, t_sz⟩ := t
  try dsimp only at hw
  show xG p l e (rmL 0 0 0 0) s mi args below meth co D A 1 Q 0 0 0 [] [gNum cI a (t_ar, t_sz)] [(0, .ref (a 0))]
  refine g_aload_n C dX2_size_0 0 rfl rfl ?_
  refine g_get (v := .int t_sz) (ci := 1) C dX2_size_1 inw_X2 rfl 0 0 1 rfl rfl (Nat.le_of_ble_eq_true rfl) rfl fl_X2_15 rfl rfl ?_
  exact hret 4 t_sz () _ dX2_size_4 hw
set_option maxRecDepth 100000 in
theorem c_X2_size (l : Launch) (D : va_G) (cI cQ : ClassId) (a : Nat → Nat) (t : LT) (post : Int32 → Prop) (sz : Nat) : Met l yX2_size (wsY yX2_size cX2_size 1 (some .int)) (rmL 0 0 0 0) (xP D (tyL cI cQ) [.ref (a 0)] [gNum cI a t] sz (p_X2_size t post)) (xQi D (tyL cI cQ) (fun (r : Int32) (_ : Unit) => post r) (fun (u : Unit) => [gNum cI a t]) (va_A [gNum cI a t].flatten sz)) 0 0 (va_A [gNum cI a t].flatten sz) :=
  Met_i pn_X2 (Nat.le_of_ble_eq_true rfl) (fun p e s mi below meth co A Q _ C hret hw => w_X2_size a t C hret hw)
theorem kV_X2_size : Cond.instanceMethod yX2_size ∈ gTbl ∧ Cond.selects yX2_size.cls yX2_size yX2_size ∈ gTbl ∧ Cond.initialized yX2_size.cls ∈ gTbl ∧ Cond.code yX2_size cX2_size 1 (some .int) ∈ gTbl ∧ (yX2_size.cls ≠ "java/lang/invoke/MethodHandle" ∧ yX2_size.cls ≠ "java/lang/invoke/VarHandle" ∧ (parseMethodDescriptor yX2_size.desc).map (fun d => d.parameters.length) = some 0) := ⟨im_X2_size, sl_X2_size, in_X2, cd_X2_size, (by decide +kernel)⟩
set_option maxRecDepth 100000 in
def p_X2_drop (t : LT) (post : LT → Prop) : Prop := (fun (t_ar : F1) (t_sz : Int32) => post (t_ar, (0 : Int32))) t.1 t.2
set_option maxHeartbeats 4000000 in
set_option maxRecDepth 100000 in
theorem w_X2_drop {p : Program} {l : Launch} {e : Env} {s : State} {mi : MethodId} {args : Array Value} {below : List Frame} {meth : Method} {co : Code} {D : va_G} {cI cQ : ClassId} {A : Nat → Prop} {Q : State → Prop} (a : Nat → Nat) (t : LT) {post : LT → Prop} (C : xC p s mi args co cX2_drop RX2 1 D (tyL cI cQ) A) (hret : ∀ (pc : Nat) (u : LT) (lv : List (Nat × Value)), decode cX2_drop pc = .ok (.return_, 1) → post u → xG p l e (rmL 0 0 0 0) s mi args below meth co D A 1 Q 0 0 pc [] [gNum cI a u] lv) (hw : p_X2_drop t post) : xG p l e (rmL 0 0 0 0) s mi args below meth co D A 1 Q 0 0 0 [] [gNum cI a t] [(0, .ref (a 0))] := by
  unfold p_X2_drop at hw
  obtain ⟨t_ar, t_sz⟩ := t
  try dsimp only at hw
  show xG p l e (rmL 0 0 0 0) s mi args below meth co D A 1 Q 0 0 0 [] [gNum cI a (t_ar, t_sz)] [(0, .ref (a 0))]
  refine g_aload_n C dX2_drop_0 0 rfl rfl ?_
  refine g_iconst (v := 0) C dX2_drop_1 rfl rfl ?_
  refine g_put (v' := .int (0 : Int32)) (ty := .int) (ci := 1) (gs' := [gNum cI a (t_ar, (0 : Int32))]) C dX2_drop_2 inw_X2 tyX2 tyX2_ok nmX2 rfl 0 0 1 rfl rfl (Nat.le_of_ble_eq_true rfl) rfl fl_X2_15 rfl fd_I rfl rfl rfl (Nat.le_of_ble_eq_true rfl) rfl rfl ?_
  exact hret 5 (t_ar, (0 : Int32)) _ dX2_drop_5 hw
set_option maxRecDepth 100000 in
theorem c_X2_drop (l : Launch) (D : va_G) (cI cQ : ClassId) (a : Nat → Nat) (t : LT) (post : LT → Prop) (sz : Nat) : Met l yX2_drop (wsY yX2_drop cX2_drop 1 none) (rmL 0 0 0 0) (xP D (tyL cI cQ) [.ref (a 0)] [gNum cI a t] sz (p_X2_drop t post)) (xQv D (tyL cI cQ) post (fun (u : LT) => [gNum cI a u]) (va_A [gNum cI a t].flatten sz)) 0 0 (va_A [gNum cI a t].flatten sz) :=
  Met_v pn_X2 (Nat.le_of_ble_eq_true rfl) (fun p e s mi below meth co A Q _ C hret hw => w_X2_drop a t C hret hw)
theorem kV_X2_drop : Cond.instanceMethod yX2_drop ∈ gTbl ∧ Cond.selects yX2_drop.cls yX2_drop yX2_drop ∈ gTbl ∧ Cond.initialized yX2_drop.cls ∈ gTbl ∧ Cond.code yX2_drop cX2_drop 1 none ∈ gTbl ∧ (yX2_drop.cls ≠ "java/lang/invoke/MethodHandle" ∧ yX2_drop.cls ≠ "java/lang/invoke/VarHandle" ∧ (parseMethodDescriptor yX2_drop.desc).map (fun d => d.parameters.length) = some 0) := ⟨im_X2_drop, sl_X2_drop, in_X2, cd_X2_drop, (by decide +kernel)⟩
set_option maxRecDepth 100000 in
def p_X2_add (t : LT) (p1 : Int32) (post : Int32 → LT → Prop) : Prop := (fun (t_ar : F1) (t_sz : Int32) => ((t_sz < (12 : Int32) → (vp_in t_sz 12 ∧ nm (upd t_ar (t_sz).toNatClampNeg p1) (fun (t_ar1 : F1) => nm ((t_sz + (1 : Int32)) : Int32) (fun (v2 : Int32) => post (1 : Int32) (t_ar1, v2))))) ∧ (¬ t_sz < (12 : Int32) → post (0 : Int32) (t_ar, t_sz)))) t.1 t.2
set_option maxHeartbeats 4000000 in
set_option maxRecDepth 100000 in
theorem w_X2_add {p : Program} {l : Launch} {e : Env} {s : State} {mi : MethodId} {args : Array Value} {below : List Frame} {meth : Method} {co : Code} {D : va_G} {cI cQ : ClassId} {A : Nat → Prop} {Q : State → Prop} (a : Nat → Nat) (t : LT) (p1 : Int32) {post : Int32 → LT → Prop} (C : xC p s mi args co cX2_add RX2 2 D (tyL cI cQ) A) (hret : ∀ (pc : Nat) (r : Int32) (u : LT) (lv : List (Nat × Value)), decode cX2_add pc = .ok (.ireturn, 1) → bz r → post r u → xG p l e (rmL 0 0 0 0) s mi args below meth co D A 2 Q 0 0 pc [.int r] [gNum cI a u] lv) (hw : p_X2_add t p1 post) : xG p l e (rmL 0 0 0 0) s mi args below meth co D A 2 Q 0 0 0 [] [gNum cI a t] [(0, .ref (a 0)), (1, .int p1)] := by
  unfold p_X2_add at hw
  obtain ⟨t_ar, t_sz⟩ := t
  try dsimp only at hw
  show xG p l e (rmL 0 0 0 0) s mi args below meth co D A 2 Q 0 0 0 [] [gNum cI a (t_ar, t_sz)] [(0, .ref (a 0)), (1, .int p1)]
  refine g_aload_n C dX2_add_0 0 rfl rfl ?_
  refine g_get (v := .int t_sz) (ci := 1) C dX2_add_1 inw_X2 rfl 0 0 1 rfl rfl (Nat.le_of_ble_eq_true rfl) rfl fl_X2_15 rfl rfl ?_
  refine g_bipush (v := 12) C dX2_add_4 (by decide) rfl ?_
  refine g_icmp_lt (tgt := 11) C dX2_add_6 (by decide) rfl hw (fun _ hw => ?_) (fun _ hw => ?_)
  · refine g_aload_n C dX2_add_11 0 rfl rfl ?_
    refine g_get (v := .ref (a 1)) (ci := 1) C dX2_add_12 inw_X2 rfl 0 0 0 rfl rfl (Nat.le_of_ble_eq_true rfl) rfl fl_X2_9 rfl rfl ?_
    refine g_aload_n C dX2_add_15 0 rfl rfl ?_
    refine g_get (v := .int t_sz) (ci := 1) C dX2_add_16 inw_X2 rfl 0 0 1 rfl rfl (Nat.le_of_ble_eq_true rfl) rfl fl_X2_15 rfl rfl ?_
    refine g_iload_n C dX2_add_19 1 rfl rfl ?_
    have hi20 := hw.1
    refine nm_el hw.2 (fun t_ar1 et_ar1 hw => ?_)
    refine g_iast (f := t_ar) (f' := t_ar1) (gs' := [gNum cI a (t_ar1, t_sz)]) C dX2_add_20 0 1 rfl rfl 0 rfl hi20 et_ar1.symm rfl rfl ?_
    refine g_aload_n C dX2_add_21 0 rfl rfl ?_
    refine g_dup C dX2_add_22 rfl rfl ?_
    refine g_get (v := .int t_sz) (ci := 1) C dX2_add_23 inw_X2 rfl 0 0 1 rfl rfl (Nat.le_of_ble_eq_true rfl) rfl fl_X2_15 rfl rfl ?_
    refine g_iconst (v := 1) C dX2_add_26 rfl rfl ?_
    refine g_iadd C dX2_add_27 rfl ?_
    refine nm_el hw (fun v2 ev2 hw => ?_)
    refine g_put (v' := .int v2) (ty := .int) (ci := 1) (gs' := [gNum cI a (t_ar1, v2)]) C dX2_add_28 inw_X2 tyX2 tyX2_ok nmX2 rfl 0 0 1 rfl rfl (Nat.le_of_ble_eq_true rfl) rfl fl_X2_15 rfl fd_I (congrArg Value.int ev2.symm) rfl rfl (Nat.le_of_ble_eq_true rfl) rfl rfl ?_
    refine g_iconst (v := 1) C dX2_add_31 rfl rfl ?_
    exact hret 32 (1 : Int32) (t_ar1, v2) _ dX2_add_32 ⟨rfl, rfl⟩ hw
  · refine g_iconst (v := 0) C dX2_add_9 rfl rfl ?_
    exact hret 10 (0 : Int32) (t_ar, t_sz) _ dX2_add_10 ⟨rfl, rfl⟩ hw
set_option maxRecDepth 100000 in
theorem c_X2_add (l : Launch) (D : va_G) (cI cQ : ClassId) (a : Nat → Nat) (t : LT) (p1 : Int32) (post : Int32 → LT → Prop) (sz : Nat) : Met l yX2_add (wsY yX2_add cX2_add 2 (some .boolean)) (rmL 0 0 0 0) (xP D (tyL cI cQ) [.ref (a 0), .int p1] [gNum cI a t] sz (p_X2_add t p1 post)) (xQi D (tyL cI cQ) post (fun (u : LT) => [gNum cI a u]) (va_A [gNum cI a t].flatten sz)) 0 0 (va_A [gNum cI a t].flatten sz) :=
  Met_z pn_X2 (Nat.le_of_ble_eq_true rfl) (fun p e s mi below meth co A Q _ C hret hw => w_X2_add a t p1 C hret hw)
theorem kV_X2_add : Cond.instanceMethod yX2_add ∈ gTbl ∧ Cond.selects yX2_add.cls yX2_add yX2_add ∈ gTbl ∧ Cond.initialized yX2_add.cls ∈ gTbl ∧ Cond.code yX2_add cX2_add 2 (some .boolean) ∈ gTbl ∧ (yX2_add.cls ≠ "java/lang/invoke/MethodHandle" ∧ yX2_add.cls ≠ "java/lang/invoke/VarHandle" ∧ (parseMethodDescriptor yX2_add.desc).map (fun d => d.parameters.length) = some 1) := ⟨im_X2_add, sl_X2_add, in_X2, cd_X2_add, (by decide +kernel)⟩
set_option maxRecDepth 100000 in
def p_X2_at (t : LT) (p1 : Int32) (post : Int32 → Prop) : Prop := (fun (t_ar : F1) (t_sz : Int32) => ((p1 < 0 → post (-1 : Int32)) ∧ (¬ p1 < 0 → ((t_sz ≤ p1 → post (-1 : Int32)) ∧ (¬ t_sz ≤ p1 → (vp_in p1 12 ∧ post (t_ar (p1).toNatClampNeg))))))) t.1 t.2
set_option maxHeartbeats 4000000 in
set_option maxRecDepth 100000 in
theorem w_X2_at {p : Program} {l : Launch} {e : Env} {s : State} {mi : MethodId} {args : Array Value} {below : List Frame} {meth : Method} {co : Code} {D : va_G} {cI cQ : ClassId} {A : Nat → Prop} {Q : State → Prop} (a : Nat → Nat) (t : LT) (p1 : Int32) {post : Int32 → Prop} (C : xC p s mi args co cX2_at RX2 2 D (tyL cI cQ) A) (hret : ∀ (pc : Nat) (r : Int32) (u : Unit) (lv : List (Nat × Value)), decode cX2_at pc = .ok (.ireturn, 1) → post r → xG p l e (rmL 0 0 0 0) s mi args below meth co D A 2 Q 0 0 pc [.int r] [gNum cI a t] lv) (hw : p_X2_at t p1 post) : xG p l e (rmL 0 0 0 0) s mi args below meth co D A 2 Q 0 0 0 [] [gNum cI a t] [(0, .ref (a 0)), (1, .int p1)] := by
  unfold p_X2_at at hw
  obtain ⟨t_ar, t_sz⟩ := t
  try dsimp only at hw
  show xG p l e (rmL 0 0 0 0) s mi args below meth co D A 2 Q 0 0 0 [] [gNum cI a (t_ar, t_sz)] [(0, .ref (a 0)), (1, .int p1)]
  refine g_iload_n C dX2_at_0 1 rfl rfl ?_
  refine g_if_lt (tgt := 21) C dX2_at_1 (by decide) rfl hw (fun _ hw => ?_) (fun _ hw => ?_)
  · refine g_iconst (v := -1) C dX2_at_21 (by decide) rfl ?_
    exact hret 22 (-1 : Int32) () _ dX2_at_22 hw
  · refine g_iload_n C dX2_at_4 1 rfl rfl ?_
    refine g_aload_n C dX2_at_5 0 rfl rfl ?_
    refine g_get (v := .int t_sz) (ci := 1) C dX2_at_6 inw_X2 rfl 0 0 1 rfl rfl (Nat.le_of_ble_eq_true rfl) rfl fl_X2_15 rfl rfl ?_
    refine g_icmp_ge (tgt := 21) C dX2_at_9 (by decide) rfl hw (fun _ hw => ?_) (fun _ hw => ?_)
    · refine g_iconst (v := -1) C dX2_at_21 (by decide) rfl ?_
      exact hret 22 (-1 : Int32) () _ dX2_at_22 hw
    · refine g_aload_n C dX2_at_12 0 rfl rfl ?_
      refine g_get (v := .ref (a 1)) (ci := 1) C dX2_at_13 inw_X2 rfl 0 0 0 rfl rfl (Nat.le_of_ble_eq_true rfl) rfl fl_X2_9 rfl rfl ?_
      refine g_iload_n C dX2_at_16 1 rfl rfl ?_
      have hi17 := hw.1
      replace hw := hw.2
      refine g_iald (f := t_ar) C dX2_at_17 0 1 rfl rfl 0 rfl hi17 rfl ?_
      refine g_goto (pc' := 22) C dX2_at_18 (by decide) rfl ?_
      exact hret 22 (t_ar (p1).toNatClampNeg) () _ dX2_at_22 hw
set_option maxRecDepth 100000 in
theorem c_X2_at (l : Launch) (D : va_G) (cI cQ : ClassId) (a : Nat → Nat) (t : LT) (p1 : Int32) (post : Int32 → Prop) (sz : Nat) : Met l yX2_at (wsY yX2_at cX2_at 2 (some .int)) (rmL 0 0 0 0) (xP D (tyL cI cQ) [.ref (a 0), .int p1] [gNum cI a t] sz (p_X2_at t p1 post)) (xQi D (tyL cI cQ) (fun (r : Int32) (_ : Unit) => post r) (fun (u : Unit) => [gNum cI a t]) (va_A [gNum cI a t].flatten sz)) 0 0 (va_A [gNum cI a t].flatten sz) :=
  Met_i pn_X2 (Nat.le_of_ble_eq_true rfl) (fun p e s mi below meth co A Q _ C hret hw => w_X2_at a t p1 C hret hw)
theorem kV_X2_at : Cond.instanceMethod yX2_at ∈ gTbl ∧ Cond.selects yX2_at.cls yX2_at yX2_at ∈ gTbl ∧ Cond.initialized yX2_at.cls ∈ gTbl ∧ Cond.code yX2_at cX2_at 2 (some .int) ∈ gTbl ∧ (yX2_at.cls ≠ "java/lang/invoke/MethodHandle" ∧ yX2_at.cls ≠ "java/lang/invoke/VarHandle" ∧ (parseMethodDescriptor yX2_at.desc).map (fun d => d.parameters.length) = some 1) := ⟨im_X2_at, sl_X2_at, in_X2, cd_X2_at, (by decide +kernel)⟩
set_option maxRecDepth 100000 in
def p_J6_bitCount_0f7a4 (p1 : Int32) (post : Int32 → Prop) : Prop := nm ((p1 - (((p1.toUInt32 >>> ((1 : Int32).toUInt32 &&& Int32.toUInt32 31)).toInt32) &&& (1431655765 : Int32))) : Int32) (fun (v1 : Int32) => nm (((v1 &&& (858993459 : Int32)) + (((v1.toUInt32 >>> ((2 : Int32).toUInt32 &&& Int32.toUInt32 31)).toInt32) &&& (858993459 : Int32))) : Int32) (fun (v2 : Int32) => nm (((v2 + ((v2.toUInt32 >>> ((4 : Int32).toUInt32 &&& Int32.toUInt32 31)).toInt32)) &&& (252645135 : Int32)) : Int32) (fun (v3 : Int32) => nm ((v3 + ((v3.toUInt32 >>> ((8 : Int32).toUInt32 &&& Int32.toUInt32 31)).toInt32)) : Int32) (fun (v4 : Int32) => nm ((v4 + ((v4.toUInt32 >>> ((16 : Int32).toUInt32 &&& Int32.toUInt32 31)).toInt32)) : Int32) (fun (v5 : Int32) => post (v5 &&& (63 : Int32)))))))
set_option maxHeartbeats 4000000 in
set_option maxRecDepth 100000 in
theorem w_J6_bitCount_0f7a4 {p : Program} {l : Launch} {e : Env} {s : State} {mi : MethodId} {args : Array Value} {below : List Frame} {meth : Method} {co : Code} {D : va_G} {cI cQ : ClassId} {A : Nat → Prop} {Q : State → Prop} (p1 : Int32) {post : Int32 → Prop} (C : xC p s mi args co cJ6_bitCount_0f7a4 RJ6 1 D (tyL cI cQ) A) (hret : ∀ (pc : Nat) (r : Int32) (u : Unit) (lv : List (Nat × Value)), decode cJ6_bitCount_0f7a4 pc = .ok (.ireturn, 1) → post r → xG p l e (rmL 0 0 0 0) s mi args below meth co D A 1 Q 0 0 pc [.int r] [] lv) (hw : p_J6_bitCount_0f7a4 p1 post) : xG p l e (rmL 0 0 0 0) s mi args below meth co D A 1 Q 0 0 0 [] [] [(0, .int p1)] := by
  unfold p_J6_bitCount_0f7a4 at hw
  try dsimp only at hw
  show xG p l e (rmL 0 0 0 0) s mi args below meth co D A 1 Q 0 0 0 [] [] [(0, .int p1)]
  refine g_iload_n C dJ6_bitCount_0f7a4_0 0 rfl rfl ?_
  refine g_iload_n C dJ6_bitCount_0f7a4_1 0 rfl rfl ?_
  refine g_iconst (v := 1) C dJ6_bitCount_0f7a4_2 rfl rfl ?_
  refine g_iushr C dJ6_bitCount_0f7a4_3 rfl ?_
  refine g_ldcw C dJ6_bitCount_0f7a4_4 ct_J6_265 rfl ?_
  refine g_iand C dJ6_bitCount_0f7a4_7 rfl ?_
  refine g_isub C dJ6_bitCount_0f7a4_8 rfl ?_
  refine nm_el hw (fun v1 ev1 hw => ?_)
  refine g_istore_n (v := v1) C dJ6_bitCount_0f7a4_9 ev1.symm (Nat.le_of_ble_eq_true rfl) (lv' := [(0, .int v1)]) rfl rfl ?_
  refine g_iload_n C dJ6_bitCount_0f7a4_10 0 rfl rfl ?_
  refine g_ldcw C dJ6_bitCount_0f7a4_11 ct_J6_266 rfl ?_
  refine g_iand C dJ6_bitCount_0f7a4_14 rfl ?_
  refine g_iload_n C dJ6_bitCount_0f7a4_15 0 rfl rfl ?_
  refine g_iconst (v := 2) C dJ6_bitCount_0f7a4_16 rfl rfl ?_
  refine g_iushr C dJ6_bitCount_0f7a4_17 rfl ?_
  refine g_ldcw C dJ6_bitCount_0f7a4_18 ct_J6_266 rfl ?_
  refine g_iand C dJ6_bitCount_0f7a4_21 rfl ?_
  refine g_iadd C dJ6_bitCount_0f7a4_22 rfl ?_
  refine nm_el hw (fun v2 ev2 hw => ?_)
  refine g_istore_n (v := v2) C dJ6_bitCount_0f7a4_23 ev2.symm (Nat.le_of_ble_eq_true rfl) (lv' := [(0, .int v2)]) rfl rfl ?_
  refine g_iload_n C dJ6_bitCount_0f7a4_24 0 rfl rfl ?_
  refine g_iload_n C dJ6_bitCount_0f7a4_25 0 rfl rfl ?_
  refine g_iconst (v := 4) C dJ6_bitCount_0f7a4_26 rfl rfl ?_
  refine g_iushr C dJ6_bitCount_0f7a4_27 rfl ?_
  refine g_iadd C dJ6_bitCount_0f7a4_28 rfl ?_
  refine g_ldcw C dJ6_bitCount_0f7a4_29 ct_J6_267 rfl ?_
  refine g_iand C dJ6_bitCount_0f7a4_32 rfl ?_
  refine nm_el hw (fun v3 ev3 hw => ?_)
  refine g_istore_n (v := v3) C dJ6_bitCount_0f7a4_33 ev3.symm (Nat.le_of_ble_eq_true rfl) (lv' := [(0, .int v3)]) rfl rfl ?_
  refine g_iload_n C dJ6_bitCount_0f7a4_34 0 rfl rfl ?_
  refine g_iload_n C dJ6_bitCount_0f7a4_35 0 rfl rfl ?_
  refine g_bipush (v := 8) C dJ6_bitCount_0f7a4_36 (by decide) rfl ?_
  refine g_iushr C dJ6_bitCount_0f7a4_38 rfl ?_
  refine g_iadd C dJ6_bitCount_0f7a4_39 rfl ?_
  refine nm_el hw (fun v4 ev4 hw => ?_)
  refine g_istore_n (v := v4) C dJ6_bitCount_0f7a4_40 ev4.symm (Nat.le_of_ble_eq_true rfl) (lv' := [(0, .int v4)]) rfl rfl ?_
  refine g_iload_n C dJ6_bitCount_0f7a4_41 0 rfl rfl ?_
  refine g_iload_n C dJ6_bitCount_0f7a4_42 0 rfl rfl ?_
  refine g_bipush (v := 16) C dJ6_bitCount_0f7a4_43 (by decide) rfl ?_
  refine g_iushr C dJ6_bitCount_0f7a4_45 rfl ?_
  refine g_iadd C dJ6_bitCount_0f7a4_46 rfl ?_
  refine nm_el hw (fun v5 ev5 hw => ?_)
  refine g_istore_n (v := v5) C dJ6_bitCount_0f7a4_47 ev5.symm (Nat.le_of_ble_eq_true rfl) (lv' := [(0, .int v5)]) rfl rfl ?_
  refine g_iload_n C dJ6_bitCount_0f7a4_48 0 rfl rfl ?_
  refine g_bipush (v := 63) C dJ6_bitCount_0f7a4_49 (by decide) rfl ?_
  refine g_iand C dJ6_bitCount_0f7a4_51 rfl ?_
  exact hret 52 (v5 &&& (63 : Int32)) () _ dJ6_bitCount_0f7a4_52 hw
set_option maxRecDepth 100000 in
theorem c_J6_bitCount_0f7a4 (l : Launch) (D : va_G) (cI cQ : ClassId) (p1 : Int32) (post : Int32 → Prop) (sz : Nat) : Met l yJ6_bitCount_0f7a4 (wsY yJ6_bitCount_0f7a4 cJ6_bitCount_0f7a4 1 (some .int)) (rmL 0 0 0 0) (xP D (tyL cI cQ) [.int p1] [] sz (p_J6_bitCount_0f7a4 p1 post)) (xQi D (tyL cI cQ) (fun (r : Int32) (_ : Unit) => post r) (fun (u : Unit) => []) (va_A [].flatten sz)) 0 0 (va_A [].flatten sz) :=
  Met_i pn_J6 (Nat.le_of_ble_eq_true rfl) (fun p e s mi below meth co A Q _ C hret hw => w_J6_bitCount_0f7a4 p1 C hret hw)
theorem kS_J6_bitCount_0f7a4 : Cond.static yJ6_bitCount_0f7a4 ∈ gTbl ∧ Cond.initialized yJ6_bitCount_0f7a4.cls ∈ gTbl ∧ Cond.code yJ6_bitCount_0f7a4 cJ6_bitCount_0f7a4 1 (some .int) ∈ gTbl ∧ (yJ6_bitCount_0f7a4.cls ≠ "java/lang/invoke/MethodHandle" ∧ yJ6_bitCount_0f7a4.cls ≠ "java/lang/invoke/VarHandle" ∧ (parseMethodDescriptor yJ6_bitCount_0f7a4.desc).map (fun d => d.parameters.length) = some 1) := ⟨sm_J6_bitCount_0f7a4, in_J6, cd_J6_bitCount_0f7a4, (by decide +kernel)⟩
