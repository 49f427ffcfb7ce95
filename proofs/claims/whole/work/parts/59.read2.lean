/-! the reference reads one saying, then all -/
theorem sp_isL {x : Nat} {post : Int32 → Prop} (hx : x < 256) (q1 : isLt x → post 1) (q2 : ¬ isLt x → post 0) : p_X6_isLetter (nI x) post := by
  unfold p_X6_isLetter
  refine bEq x 110 rfl rfl (by omega) (by omega) (fun w => q1 (by subst w; exact Or.inr (Or.inr (Or.inr (Or.inl rfl))))) (fun w1 => ?_)
  refine bEq x 120 rfl rfl (by omega) (by omega) (fun w => q1 (by subst w; exact Or.inr (Or.inr (Or.inr (Or.inr (Or.inr rfl)))))) (fun w2 => ?_)
  refine bEq x 98 rfl rfl (by omega) (by omega) (fun w => q1 (by subst w; exact Or.inl rfl)) (fun w3 => ?_)
  refine bEq x 118 rfl rfl (by omega) (by omega) (fun w => q1 (by subst w; exact Or.inr (Or.inr (Or.inr (Or.inr (Or.inl rfl)))))) (fun w4 => ?_)
  refine bEq x 99 rfl rfl (by omega) (by omega) (fun w => q1 (by subst w; exact Or.inr (Or.inl rfl))) (fun w5 => ?_)
  refine bEq x 100 rfl rfl (by omega) (by omega) (fun w => q1 (by subst w; exact Or.inr (Or.inr (Or.inl rfl)))) (fun w6 => ?_)
  exact q2 (by unfold isLt; omega)
theorem sp_isLm {post : Int32 → Prop} (q : post 0) : p_X6_isLetter (-1) post := by
  unfold p_X6_isLetter
  exact br_f (by decide) (br_f (by decide) (br_f (by decide) (br_f (by decide) (br_f (by decide) (br_f (by decide) q)))))
theorem GD.lt {f : Nat → Nat} {k s : Nat} (h : GD f k s) : s + dbN (f s) + 1 < k := by
  have := (h (dbN (f s) + 1) (Nat.le_refl _)).1
  omega
theorem GD.let {f : Nat → Nat} {k s : Nat} (h : GD f k s) : isLt (f s) := (h 0 (by omega)).2.1 rfl
theorem GD.dig {f : Nat → Nat} {k s : Nat} (h : GD f k s) {e : Nat} (h1 : 0 < e) (h2 : e ≤ dbN (f s)) : s + e < k ∧ isDg (f (s + e)) := ⟨(h e (by omega)).1, (h e (by omega)).2.2.1 h1 h2⟩
theorem GD.end {f : Nat → Nat} {k s : Nat} (h : GD f k s) : f (s + (dbN (f s) + 1)) = 59 := (h _ (Nat.le_refl _)).2.2.2 (Nat.lt_succ_self _)
theorem sp_rst_ok {f : Nat → Nat} {k s j : Nat} {t : LT} {pi lo nb : F1} {post : QT → Prop} (h : RLe f k t) (hk : k ≤ 96) (hj : j < 49) (hd : GD f k s) (q : ∀ pi' lo' nb', pi' = upd pi j (nI s) → lo' = upd lo j (nI (f s)) → nb' = upd (upd nb (2 * j) (nI (n1N f s))) (2 * j + 1) (nI (n2N f s)) → post (pi', lo', nb', nI (s + 2 + dbN (f s)), 0, nI (j + 1))) : p_X6_readStatement t (pi, lo, nb, nI s, 0, nI j) post := by
  have hl := hd.lt
  have hx := (h.2 s (by omega)).2
  unfold p_X6_readStatement
  refine sp_here_t h hk (by omega) ?_
  refine ⟨vin49 hj, nm_in (fun pi2 e1 => ⟨vin49 hj, nm_in (fun lo2 e2 => ?_)⟩)⟩
  refine br_t rfl (sp_isL hx (fun _ => br_f (by decide) ?_) (fun w => absurd hd.let w))
  refine ⟨bz_0, br_t rfl (nm_in (fun v8 e8 => br_t rfl ?_))⟩
  have e8' : v8 = nI (s + 1) := e8.trans (nI_1 _)
  subst e8'
  show p_X6_readNumbers t (pi2, lo2, nb, nI (s + 1), 0, nI j) (nI (f s)) ((2 : Int32) * nI j) _
  rw [show (2 : Int32) * nI j = nI (2 * j) from nI_mulN 2 j]
  refine sp_rnum_ok h hk hd.let hx hj (fun e a1 a2 => hd.dig a1 a2) (fun nb' e3 => ?_)
  refine br_t rfl (sp_here_t h hk (by omega) (br_t ?_ ⟨bz_0, br_t rfl (nm_in (fun v20 e20 => nm_in (fun v21 e21 => ?_)))⟩))
  · rw [show s + 1 + dbN (f s) = s + (dbN (f s) + 1) by omega, hd.end]; rfl
  have a1 : v20 = nI (s + 2 + dbN (f s)) := by rw [e20]; show nI (s + 1 + dbN (f s)) + 1 = _; rw [nI_1, show s + 1 + dbN (f s) + 1 = s + 2 + dbN (f s) by omega]
  have a2 : v21 = nI (j + 1) := e21.trans (nI_1 _)
  subst a1; subst a2
  refine q pi2 lo2 nb' ?_ ?_ e3
  · rw [e1, cl_nI (by omega)]
  · rw [e2, cl_nI (by omega)]
theorem sp_rst_bad {f : Nat → Nat} {k s j e : Nat} {t : LT} {pi lo nb : F1} {post : QT → Prop} (h : RLe f k t) (hk : k ≤ 96) (hs : s ≤ k) (hj : j < 49) (he : e ≤ dbN (f s) + 1) (hd : ∀ e', e' < e → okE f k s e') (hb : ¬ okE f k s e) (q : ∀ pi' lo' nb', post (pi', lo', nb', nI (s + e), 1, nI (j + 1))) : p_X6_readStatement t (pi, lo, nb, nI s, 0, nI j) post := by
  have l3 := dbN_le (f s)
  have fin : ∀ (pi2 lo2 nb2 : F1), (bz 1 ∧ (((1 : Int32) = 0 → nm (nI (s + e) + 1) (fun v20 => nm (nI j + (1 : Int32)) (fun v21 => post (pi2, lo2, nb2, v20, 1, v21)))) ∧ (¬ (1 : Int32) = 0 → nm (nI (s + e) + 0) (fun v20 => nm (nI j + (1 : Int32)) (fun v21 => post (pi2, lo2, nb2, v20, 1, v21)))))) := by
    intro pi2 lo2 nb2
    refine ⟨bz_1, br_f (by decide) (nm_in (fun v20 e20 => nm_in (fun v21 e21 => ?_)))⟩
    rw [e20, e21, nI_1, Int32.add_zero]
    exact q _ _ _
  unfold p_X6_readStatement
  by_cases e0 : e = 0
  · subst e0
    have hz : nI s + 0 = nI (s + 0) := Int32.add_zero _
    rcases Nat.lt_or_ge s k with w | w
    · have hx := (h.2 s w).2
      refine sp_here_t h hk w ?_
      refine ⟨vin49 hj, nm_in (fun pi2 e1 => ⟨vin49 hj, nm_in (fun lo2 e2 => ?_)⟩)⟩
      refine br_t rfl (sp_isL hx (fun z => absurd ⟨by omega, fun _ => z, fun y => absurd y (by omega), fun y => absurd y (by omega)⟩ hb) (fun _ => br_t rfl ?_))
      refine ⟨bz_1, br_f (by decide) (nm_in (fun v8 e8 => br_f (by decide) (br_f (show ¬ (1 : Int32) = 0 by decide) ?_)))⟩
      rw [e8.trans hz]
      exact fin _ _ _
    · refine sp_here_f h hk w (by omega) ?_
      refine ⟨vin49 hj, nm_in (fun pi2 e1 => ⟨vin49 hj, nm_in (fun lo2 e2 => ?_)⟩)⟩
      refine br_t rfl (sp_isLm (br_t rfl ?_))
      refine ⟨bz_1, br_f (by decide) (nm_in (fun v8 e8 => br_f (by decide) (br_f (show ¬ (1 : Int32) = 0 by decide) ?_)))⟩
      rw [e8.trans hz]
      exact fin _ _ _
  · have ok0 := hd 0 (by omega)
    have hsk : s < k := ok0.1
    have hx := (h.2 s hsk).2
    have hl : isLt (f s) := ok0.2.1 rfl
    have dg : ∀ e', 0 < e' → e' < e → e' ≤ dbN (f s) → s + e' < k ∧ isDg (f (s + e')) := fun e' a1 a2 a3 => ⟨(hd e' a2).1, (hd e' a2).2.2.1 a1 a3⟩
    refine sp_here_t h hk hsk ?_
    refine ⟨vin49 hj, nm_in (fun pi2 e1 => ⟨vin49 hj, nm_in (fun lo2 e2 => ?_)⟩)⟩
    refine br_t rfl (sp_isL hx (fun _ => br_f (by decide) ?_) (fun w => absurd hl w))
    refine ⟨bz_0, br_t rfl (nm_in (fun v8 e8 => br_t rfl ?_))⟩
    have e8' : v8 = nI (s + 1) := e8.trans (nI_1 _)
    subst e8'
    show p_X6_readNumbers t (pi2, lo2, nb, nI (s + 1), 0, nI j) (nI (f s)) ((2 : Int32) * nI j) _
    rw [show (2 : Int32) * nI j = nI (2 * j) from nI_mulN 2 j]
    rcases (show e ≤ dbN (f s) ∨ e = dbN (f s) + 1 by omega) with w | w
    · refine sp_rnum_bad h hk hsk hl hx hj (by omega) w (fun e' a1 a2 => dg e' a1 a2 (by omega)) (fun z => hb ⟨z.1, fun y => absurd y e0, fun _ _ => z.2, fun y => absurd y (by omega)⟩) (fun nb' => ?_)
      exact br_f (show ¬ (1 : Int32) = 0 by decide) (fin _ _ _)
    · have es : s + 1 + dbN (f s) = s + e := by omega
      refine sp_rnum_ok h hk hl hx hj (fun e' a1 a2 => dg e' a1 (by omega) a2) (fun nb' e3 => ?_)
      rw [es]
      refine br_t rfl ?_
      rcases Nat.lt_or_ge (s + e) k with v | v
      · refine sp_here_t h hk v (bEq (f (s + e)) 59 rfl rfl (by have := (h.2 _ v).2; omega) (by omega) (fun y => ?_) (fun _ => fin _ _ _))
        exact absurd ⟨v, fun z => absurd z e0, fun _ z => absurd z (by omega), fun _ => y⟩ hb
      · exact sp_here_f h hk v (by omega) (br_f (by decide) (fin _ _ _))
/-- the table of what was read -/
def TB (f : Nat → Nat) (m : Nat) (pi lo nb : F1) : Prop := ∀ j, j < m → pi j = nI (stp f j) ∧ lo j = nI (f (stp f j)) ∧ nb (2 * j) = nI (n1N f (stp f j)) ∧ nb (2 * j + 1) = nI (n2N f (stp f j))
theorem TB.add {f : Nat → Nat} {m : Nat} {pi lo nb : F1} (h : TB f m pi lo nb) {pi' lo' nb' : F1} (e1 : pi' = upd pi m (nI (stp f m))) (e2 : lo' = upd lo m (nI (f (stp f m)))) (e3 : nb' = upd (upd nb (2 * m) (nI (n1N f (stp f m)))) (2 * m + 1) (nI (n2N f (stp f m)))) : TB f (m + 1) pi' lo' nb' := by
  subst e1; subst e2; subst e3
  intro j hj
  by_cases e : j = m
  · subst e
    refine ⟨pk_us, pk_us, ?_, pk_us⟩
    rw [pk_un (by omega)]; exact pk_us
  · obtain ⟨h1, h2, h3, h4⟩ := h j (by omega)
    refine ⟨?_, ?_, ?_, ?_⟩
    · rw [pk_un e]; exact h1
    · rw [pk_un e]; exact h2
    · rw [pk_un (by omega), pk_un (by omega)]; exact h3
    · rw [pk_un (by omega), pk_un (by omega)]; exact h4
