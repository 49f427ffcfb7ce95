/-! searches over hours -/
theorem srch6 {a : AP} {d : Nat} {P : Nat → Prop} {F : (Int32 × Int32 × PT → Prop) → Int32 × Int32 × PT → Prop} (hd1 : d ≤ 61) (hd2 : ∀ j, j < d → P j) (hd3 : d = 61 ∨ (d < 61 ∧ ¬ P d)) (body : ∀ (K : Int32 × Int32 × PT → Prop) (j : Nat) (t : PT), j ≤ 60 → RP t (hoursA a j) → (∀ t', RP t' (hoursA a (j + 1)) → (P j → K (-9, nI j + 1, t')) ∧ (¬ P j → K (nI j, nI j + 1, t'))) → F K (-9, nI j, t)) (ex1 : ∀ (K : Int32 × Int32 × PT → Prop) (t : PT), d = 61 → RP t (hoursA a 61) → F K (-9, nI 61, t)) (ex2 : ∀ (K : Int32 × Int32 × PT → Prop) (t : PT), d < 61 → RP t (hoursA a (d + 1)) → F K (nI d, nI (d + 1), t)) (t0 : PT) (h0 : RP t0 a) : lpN F 1000 (-9, 0, t0) := by
  rcases hd3 with hd3 | ⟨hd3, hd4⟩
  · refine lpN_up 61 (fun j z => z.1 = -9 ∧ z.2.1 = nI j ∧ RP z.2.2 (hoursA a j)) (by decide) ?_ ?_ _ ⟨rfl, rfl, h0⟩
    · rintro K j ⟨x, y, t⟩ hj ⟨e1, e2, e3⟩ hK
      dsimp only at e1 e2 e3
      subst e1; subst e2
      exact body K j t (by omega) e3 (fun t' ht' => ⟨fun _ => hK _ ⟨rfl, nI_1 j, ht'⟩, fun w => absurd (hd2 j (by omega)) w⟩)
    · rintro K ⟨x, y, t⟩ ⟨e1, e2, e3⟩
      dsimp only at e1 e2 e3
      subst e1; subst e2
      exact ex1 K t hd3 e3
  · refine lpN_up (d + 1) (fun j z => ((j ≤ d ∧ z.1 = -9) ∨ (j = d + 1 ∧ z.1 = nI d)) ∧ z.2.1 = nI j ∧ RP z.2.2 (hoursA a j)) (by omega) ?_ ?_ _ ⟨Or.inl ⟨Nat.zero_le _, rfl⟩, rfl, h0⟩
    · rintro K j ⟨x, y, t⟩ hj ⟨e1, e2, e3⟩ hK
      dsimp only at e1 e2 e3
      rcases e1 with ⟨-, e1⟩ | ⟨e1, -⟩
      · subst e1; subst e2
        refine body K j t (by omega) e3 (fun t' ht' => ⟨fun w => hK _ ⟨Or.inl ⟨?_, rfl⟩, nI_1 j, ht'⟩, fun w => hK _ ⟨Or.inr ?_, nI_1 j, ht'⟩⟩)
        · rcases Nat.lt_or_ge j d with b | b
          · omega
          · exact absurd w (by rw [show j = d by omega]; exact hd4)
        · rcases Nat.lt_or_ge j d with b | b
          · exact absurd (hd2 j b) w
          · have ej : j = d := by omega
            subst ej
            exact ⟨rfl, rfl⟩
      · omega
    · rintro K ⟨x, y, t⟩ ⟨e1, e2, e3⟩
      dsimp only at e1 e2 e3
      rcases e1 with ⟨e1, -⟩ | ⟨-, e1⟩
      · omega
      · subst e1; subst e2
        exact ex2 K t hd3 e3
theorem srch5 {a : AP} {d : Nat} {P : Nat → Prop} {F : (Int32 × PT → Prop) → Int32 × PT → Prop} (hd1 : d ≤ 61) (hd2 : ∀ j, j < d → P j) (body : ∀ (K : Int32 × PT → Prop) (j : Nat) (t : PT), j < d → RP t (flowsA a j) → P j → (∀ t', RP t' (flowsA a (j + 1)) → K (nI j + 1, t')) → F K (nI j, t)) (ex : ∀ (K : Int32 × PT → Prop) (t : PT), RP t (flowsA a d) → F K (nI d, t)) (t0 : PT) (h0 : RP t0 a) : lpN F 1000 (0, t0) := by
  refine lpN_up d (fun j z => z.1 = nI j ∧ RP z.2 (flowsA a j)) (by omega) ?_ ?_ _ ⟨rfl, h0⟩
  · rintro K j ⟨x, t⟩ hj ⟨e1, e2⟩ hK
    dsimp only at e1 e2
    subst e1
    exact body K j t hj e2 (hd2 j hj) (fun t' ht' => hK _ ⟨nI_1 j, ht'⟩)
  · rintro K ⟨x, t⟩ ⟨e1, e2⟩
    dsimp only at e1 e2
    subst e1
    exact ex K t e2
def resN (d : Nat) : Int32 := if d = 61 then -9 else nI d
theorem first5 {n m : PT} {a : AP} {d : Nat} {post : Int32 → PT → Prop} (h : RP n a) (g : GP a) (hd1 : d ≤ 61) (hd2 : ∀ j, j < d → aC (flowsA a j) ≤ aC a) (hd3 : d = 61 ∨ (d < 61 ∧ ¬ aC (flowsA a d) ≤ aC a)) (k : ∀ m', post (resN d) m') : p_X5_firstDrip n m post := by
  have cb : ∀ j, aC (flowsA a j) ≤ 9999 := fun j => (g.flows j).2.2.2.2.2
  have cb0 : aC a ≤ 9999 := g.2.2.2.2.2
  unfold p_X5_firstDrip
  refine sp_think5 h (fun m' hm => srch5 (a := a) hd1 hd2 (fun K j t hj ht hP hK => ?_) (fun K t ht => ?_) m' hm)
  · exact bLt 60 j rfl rfl (by omega) (by omega) (fun w => absurd w (by omega)) (fun _ => sp_inCup ht (sp_inCup h (bLe _ _ rfl rfl (by have := cb j; omega) (by omega) (fun _ => sp_flow ht (g.flows j) (fun t' ht' _ => hK t' ht')) (fun w => absurd hP (Nat.not_le.mpr w)))))
  · unfold resN at k
    rcases hd3 with rfl | ⟨hd3, hd4⟩
    · exact bLt 60 61 rfl rfl (by omega) (by omega) (fun _ => k t) (fun w => absurd w (by omega))
    · rw [if_neg (by omega)] at k
      exact bLt 60 d rfl rfl (by omega) (by omega) (fun w => absurd w (by omega)) (fun _ => sp_inCup ht (sp_inCup h (bLe _ _ rfl rfl (by have := cb d; omega) (by omega) (fun w => absurd w hd4) (fun _ => k t))))
theorem first6 {c : PT} {ks : KS} {kp : F1} {a : AP} {d : Nat} {post : Int32 → PT × KS × F1 → Prop} (h : RP c a) (g : GP a) (hd1 : d ≤ 61) (hd2 : ∀ j, j < d → aC (flowsA a j) ≤ aC a) (hd3 : d = 61 ∨ (d < 61 ∧ ¬ aC (flowsA a d) ≤ aC a)) (k : ∀ c' ks' kp', RP c' a → post (resN d) (c', ks', kp')) : p_X6_firstDrip c ks kp post := by
  have cb : ∀ j, aC (flowsA a j) ≤ 9999 := fun j => (g.flows j).2.2.2.2.2
  have cb0 : aC a ≤ 9999 := g.2.2.2.2.2
  unfold p_X6_firstDrip
  refine sp_think6 h (fun c' ks' kp' hc hkk => srch6 (a := a) hd1 hd2 hd3 (fun K j t hj ht hK => ?_) (fun K t e ht => ?_) (fun K t e ht => ?_) c' hc)
  · refine bLt 60 j rfl rfl (by omega) (by omega) (fun w => absurd w (by omega)) (fun _ => br_f (show ¬ (0 : Int32) ≤ -9 by decide) ?_)
    refine bLe (aC (flowsA a j)) (aC a) ht.2.2.2.2.1 h.2.2.2.2.1 (by have := cb j; omega) (by omega) (fun w => ?_) (fun w => ?_)
    · exact sp_hour0 ht (g.hours j) (fun t' ht' _ => (hK t' (by rw [tick_hours] at ht'; exact ht')).1 w)
    · exact sp_hour0 ht (g.hours j) (fun t' ht' _ => (hK t' (by rw [tick_hours] at ht'; exact ht')).2 (Nat.not_le.mpr w))
  · unfold resN at k
    rw [if_pos e] at k
    exact bLt 60 61 rfl rfl (by omega) (by omega) (fun _ => sp_again6 hkk (fun t3 ks3 ht3 => k t3 ks3 kp' ht3)) (fun w => absurd w (by omega))
  · unfold resN at k
    rw [if_neg (by omega)] at k
    exact bLt 60 (d + 1) rfl rfl (by omega) (by omega) (fun _ => sp_again6 hkk (fun t3 ks3 ht3 => k t3 ks3 kp' ht3)) (fun _ => br_t (show (0 : Int32) ≤ nI d from nI_pos' (by omega)) (sp_again6 hkk (fun t3 ks3 ht3 => k t3 ks3 kp' ht3)))
def allN (a : AP) (j : Nat) : Nat := sumN (aH (flowsA a j)) (aN (flowsA a j))
theorem sum_le {f : Nat → Nat} {B : Nat} (h : ∀ i, i < 9 → f i < B) : ∀ n, n ≤ 9 → sumN f n ≤ n * B
  | 0, _ => Nat.zero_le _
  | n + 1, hn => by
    have e : sumN f (n + 1) = sumN f n + f n := rfl
    have := sum_le h n (by omega)
    have := h n (by omega)
    rw [e, Nat.succ_mul]; omega
theorem allN_le {a : AP} (g : GP a) (j : Nat) : allN a j ≤ 900 := by
  have gj := g.flows j
  have := sum_le (f := aH (flowsA a j)) (B := 100) (fun i hi => (gj.2.1 i hi).2.2.1) _ gj.1
  have h9 := gj.1
  unfold allN
  have : aN (flowsA a j) * 100 ≤ 9 * 100 := Nat.mul_le_mul_right _ h9
  omega
theorem eq0 {A B : Prop} {x : Int32} (z : Nat) (e : x = nI z) (hz : z < 2 ^ 31) (f : z = 0 → A) (h : z ≠ 0 → B) : (x = 0 → A) ∧ (¬ x = 0 → B) := bEq z 0 e rfl hz (by decide) f h
theorem dried5 {n m : PT} {a : AP} {d : Nat} {post : Int32 → PT → Prop} (h : RP n a) (g : GP a) (hd1 : d ≤ 61) (hd2 : ∀ j, j < d → allN a j ≠ 0) (hd3 : d = 61 ∨ (d < 61 ∧ ¬ allN a d ≠ 0)) (k : ∀ m', post (resN d) m') : p_X5_driedAfter n m post := by
  have cb := allN_le g
  unfold p_X5_driedAfter
  refine sp_think5 h (fun m' hm => srch5 (a := a) hd1 hd2 (fun K j t hj ht hP hK => ?_) (fun K t ht => ?_) m' hm)
  · exact bLt 60 j rfl rfl (by omega) (by omega) (fun w => absurd w (by omega)) (fun _ => sp_holdsAll ht (g.flows j) (eq0 (allN a j) rfl (by have := cb j; omega) (fun w => absurd w hP) (fun _ => sp_flow ht (g.flows j) (fun t' ht' _ => hK t' ht'))))
  · unfold resN at k
    rcases hd3 with rfl | ⟨hd3, hd4⟩
    · exact bLt 60 61 rfl rfl (by omega) (by omega) (fun _ => k t) (fun w => absurd w (by omega))
    · rw [if_neg (by omega)] at k
      exact bLt 60 d rfl rfl (by omega) (by omega) (fun w => absurd w (by omega)) (fun _ => sp_holdsAll ht (g.flows d) (eq0 (allN a d) rfl (by have := cb d; omega) (fun _ => k t) (fun w => absurd w hd4)))
theorem dried6 {c : PT} {ks : KS} {kp : F1} {a : AP} {d : Nat} {post : Int32 → PT × KS × F1 → Prop} (h : RP c a) (g : GP a) (hd1 : d ≤ 61) (hd2 : ∀ j, j < d → allN a j ≠ 0) (hd3 : d = 61 ∨ (d < 61 ∧ ¬ allN a d ≠ 0)) (k : ∀ c' ks' kp', RP c' a → post (resN d) (c', ks', kp')) : p_X6_dryIn c ks kp post := by
  have cb := allN_le g
  unfold p_X6_dryIn
  refine sp_think6 h (fun c' ks' kp' hc hkk => srch6 (a := a) hd1 hd2 hd3 (fun K j t hj ht hK => ?_) (fun K t e ht => ?_) (fun K t e ht => ?_) c' hc)
  · refine bLt 60 j rfl rfl (by omega) (by omega) (fun w => absurd w (by omega)) (fun _ => br_f (show ¬ (0 : Int32) ≤ -9 by decide) (sp_allHold ht (g.hours j) ?_))
    refine eq0 (allN a j) rfl (by have := cb j; omega) (fun w => ?_) (fun w => ?_)
    · exact sp_hour0 ht (g.hours j) (fun t' ht' _ => (hK t' (by rw [tick_hours] at ht'; exact ht')).2 (fun q => q w))
    · exact sp_hour0 ht (g.hours j) (fun t' ht' _ => (hK t' (by rw [tick_hours] at ht'; exact ht')).1 w)
  · unfold resN at k
    rw [if_pos e] at k
    exact bLt 60 61 rfl rfl (by omega) (by omega) (fun _ => sp_again6 hkk (fun t3 ks3 ht3 => k t3 ks3 kp' ht3)) (fun w => absurd w (by omega))
  · unfold resN at k
    rw [if_neg (by omega)] at k
    exact bLt 60 (d + 1) rfl rfl (by omega) (by omega) (fun _ => sp_again6 hkk (fun t3 ks3 ht3 => k t3 ks3 kp' ht3)) (fun _ => br_t (show (0 : Int32) ≤ nI d from nI_pos' (by omega)) (sp_again6 hkk (fun t3 ks3 ht3 => k t3 ks3 kp' ht3)))
/-! settled -/
theorem fl_at {a : AP} {i : Nat} {s : AP × Nat × Nat} {d : Nat} (h : d < i) (hx : i < aX s.1 i) : aH (flS i s).1 d = aH s.1 d := by
  unfold flS
  (repeat' split)
  · rfl
  · show upN (upN (aH s.1) i _) (aX s.1 i) _ d = _
    rw [upN_n (by omega), upN_n (by omega)]
  · show upN (aH s.1) i _ d = _
    rw [upN_n (by omega)]
theorem flwd_less {a : AP} (g : GP a) (h : flwd a ≠ 0) : ∃ i, i < aN a ∧ aH (flowA a) i < aH a i := by
  obtain ⟨d, hd1, hd2, hd3⟩ := first_or (fun j => lvA a j = 0) (aN a)
  have still : ∀ j, j ≤ d → flP a j = (a, 0, 0) := by
    intro j
    induction j with
    | zero => exact fun _ => rfl
    | succ j ih =>
      intro hj
      show flS j (flP a j) = _
      rw [ih (by omega)]
      unfold flS
      rw [if_pos (hd2 j (by omega))]
  rcases hd3 with hd3 | ⟨hd3, hd4⟩
  · exfalso
    apply h
    unfold flwd
    rw [still (aN a) (by omega)]
  · refine ⟨d, hd3, ?_⟩
    have later : ∀ k, d + 1 + k ≤ aN a → aH (flP a (d + 1 + k)).1 d = aH a d - lvA a d := by
      intro k
      induction k with
      | zero =>
        intro _
        show aH (flS d (flP a d)).1 d = _
        rw [still d (Nat.le_refl _)]
        have hx := g.2.2.1 d hd3
        unfold flS
        rw [if_neg hd4]
        split
        · show upN (upN (aH a) d _) (aX a d) _ d = _
          rw [upN_n (by omega), upN_s]
        · show upN (aH a) d _ d = _
          rw [upN_s]
      | succ k ih =>
        intro hk
        have hx := g.2.2.1 (d + 1 + k) (by omega)
        have e := (flP_inv g (d + 1 + k) (by omega)).2.2.2.2.2.2.1
        show aH (flS (d + 1 + k) (flP a (d + 1 + k))).1 d = _
        rw [fl_at (a := a) (by omega) (by rw [e]; exact hx)]
        exact ih (by omega)
    have z := later (aN a - (d + 1)) (by omega)
    rw [show d + 1 + (aN a - (d + 1)) = aN a by omega] at z
    show aH (flP a (aN a)).1 d < _
    rw [z]
    have := lvA_le a d
    have : lvA a d ≠ 0 := hd4
    omega
theorem sp_isAsHad {t : PT} {b : AP} {f : F1} {h : Nat → Nat} {post : Int32 → Prop} (ht : RP t b) (g : GP b) (hf : ∀ i, i < aN b → f i = nI (h i)) (hb : ∀ i, i < aN b → h i < 100) (k : ∀ r : Nat, (r = 1 ∧ ∀ i, i < aN b → aH b i = h i) ∨ (r = 0 ∧ ∃ i, i < aN b ∧ aH b i ≠ h i) → post (nI r)) : p_X6_isAsHad t f post := by
  have h9 := g.1
  unfold p_X6_isAsHad
  refine lpN_up (aN b) (fun j z => z.2 = nI j ∧ ((z.1 = 1 ∧ ∀ i, i < j → aH b i = h i) ∨ (z.1 = 0 ∧ ∃ i, i < j ∧ aH b i ≠ h i))) (by omega) ?_ ?_ _ ⟨rfl, Or.inl ⟨rfl, fun i hi => absurd hi (Nat.not_lt_zero _)⟩⟩
  · rintro K j ⟨x, y⟩ hj ⟨e1, e2⟩ hK
    dsimp only at e1 e2
    subst e1
    refine bLe (aN b) j ht.2.1 rfl (by omega) (by omega) (fun w => absurd w (by omega)) (fun _ => ?_)
    rcases e2 with ⟨e2, e3⟩ | ⟨e2, i, hi, e3⟩
    · subst e2
      refine br_f (show ¬ (1 : Int32) = 0 by decide) ⟨vin9 (by omega), vin9 (by omega), ?_⟩
      refine bEq (aH b j) (h j) (ht.h (by omega)) (by rw [cl_nI (by omega)]; exact hf j hj) (by have := (g.2.1 j (by omega)).2.2.1; omega) (by have := hb j hj; omega) (fun w => hK _ ⟨nI_1 j, Or.inl ⟨rfl, fun i hi => ?_⟩⟩) (fun w => hK _ ⟨nI_1 j, Or.inr ⟨rfl, j, by omega, w⟩⟩)
      rcases Nat.lt_or_ge i j with q | q
      · exact e3 i q
      · rw [show i = j by omega]; exact w
    · subst e2
      exact br_t rfl (hK _ ⟨nI_1 j, Or.inr ⟨rfl, i, by omega, e3⟩⟩)
  · rintro K ⟨x, y⟩ ⟨e1, e2⟩
    dsimp only at e1 e2
    subst e1
    refine bLe (aN b) (aN b) ht.2.1 rfl (by omega) (by omega) (fun _ => ?_) (fun w => absurd w (by omega))
    rcases e2 with ⟨e2, e3⟩ | ⟨e2, e3⟩
    · subst e2
      exact ⟨bz_1, k 1 (Or.inl ⟨rfl, e3⟩)⟩
    · subst e2
      exact ⟨bz_0, k 0 (Or.inr ⟨rfl, e3⟩)⟩
