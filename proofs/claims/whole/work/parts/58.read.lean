/-! a parish told in letters: how the reference reads -/
def c1N (x : Nat) : Nat := if x = 99 then 0 else if x = 100 then 2 else 1
def c2N (x : Nat) : Nat := if x = 110 then 1 else if x = 120 then 1 else if x = 118 then 2 else 0
theorem c12 {x : Nat} (h : isLt x) : c1N x + c2N x = dbN x := by
  rcases h with rfl | rfl | rfl | rfl | rfl | rfl <;> rfl
theorem c1_le (x : Nat) : c1N x ≤ 2 := by unfold c1N; (repeat' split) <;> omega
theorem c2_le (x : Nat) : c2N x ≤ 2 := by unfold c2N; (repeat' split) <;> omega
def valN (f : Nat → Nat) (s c : Nat) : Nat := pre (fun j x => 10 * x + (f (s + j) - 48)) 0 c
def n1N (f : Nat → Nat) (s : Nat) : Nat := valN f (s + 1) (c1N (f s))
def n2N (f : Nat → Nat) (s : Nat) : Nat := valN f (s + 1 + c1N (f s)) (c2N (f s))
theorem nI_10 (x y : Nat) (hy : 48 ≤ y) : ((10 : Int32) * nI x + nI y) - (48 : Int32) = nI (10 * x + (y - 48)) := by
  rw [show (10 : Int32) * nI x = nI (10 * x) from nI_mulN 10 x, nI_add, show nI (10 * x + y) - (48 : Int32) = nI (10 * x + y - 48) from nI_subN (a := 10 * x + y) (b := 48) (by omega)]
  rw [show 10 * x + y - 48 = 10 * x + (y - 48) by omega]
theorem jnC1 {x : Nat} {r : Int32 → Prop} (hx : x < 256) (q : r (nI (c1N x))) : jn r (fun J2 => ((nI x = (99 : Int32) → J2 (0 : Int32)) ∧ (¬ nI x = (99 : Int32) → ((nI x = (100 : Int32) → J2 (2 : Int32)) ∧ (¬ nI x = (100 : Int32) → J2 (1 : Int32)))))) := by
  unfold jn
  refine bEq x 99 rfl rfl (by omega) (by omega) (fun w => ?_) (fun w1 => bEq x 100 rfl rfl (by omega) (by omega) (fun w => ?_) (fun w2 => ?_))
  · subst w; exact q
  · subst w; exact q
  · have : c1N x = 1 := by unfold c1N; rw [if_neg w1, if_neg w2]
    rw [this] at q; exact q
theorem jnC2 {x : Nat} {r : Int32 → Prop} (hx : x < 256) (q : r (nI (c2N x))) : jn r (fun J12 => jn (fun (z21 : Unit) => J12 (1 : Int32)) (fun J21 => ((nI x = (110 : Int32) → J21 ()) ∧ (¬ nI x = (110 : Int32) → ((nI x = (120 : Int32) → J21 ()) ∧ (¬ nI x = (120 : Int32) → ((nI x = (118 : Int32) → J12 (2 : Int32)) ∧ (¬ nI x = (118 : Int32) → J12 (0 : Int32))))))))) := by
  unfold jn
  dsimp only
  refine bEq x 110 rfl rfl (by omega) (by omega) (fun w => ?_) (fun w1 => bEq x 120 rfl rfl (by omega) (by omega) (fun w => ?_) (fun w2 => bEq x 118 rfl rfl (by omega) (by omega) (fun w => ?_) (fun w3 => ?_)))
  · subst w; exact q
  · subst w; exact q
  · subst w; exact q
  · have : c2N x = 0 := by unfold c2N; rw [if_neg w1, if_neg w2, if_neg w3]
    rw [this] at q; exact q
theorem sp_here_t {f : Nat → Nat} {k i : Nat} {t : LT} {pi lo nb : F1} {bd ss : Int32} {post : Int32 → Prop} (h : RLe f k t) (hk : k ≤ 96) (hi : i < k) (q : post (nI (f i))) : p_X6_here t (pi, lo, nb, nI i, bd, ss) post := by
  unfold p_X6_here
  refine bLe k i h.1 rfl (by omega) (by omega) (fun w => absurd w (by omega)) (fun _ => ⟨vin96 (by omega), ?_⟩)
  rw [← h.at hk hi] at q
  exact q
theorem sp_here_f {f : Nat → Nat} {k i : Nat} {t : LT} {pi lo nb : F1} {bd ss : Int32} {post : Int32 → Prop} (h : RLe f k t) (hk : k ≤ 96) (hi : k ≤ i) (hi2 : i < 200) (q : post (-1)) : p_X6_here t (pi, lo, nb, nI i, bd, ss) post := by
  unfold p_X6_here
  exact bLe k i h.1 rfl (by omega) (by omega) (fun _ => q) (fun w => absurd w (by omega))
/-- the digits, all there -/
theorem sp_rdig_ok {f : Nat → Nat} {k s c : Nat} {t : LT} {pi lo nb : F1} {ss : Int32} {post : Int32 → QT → Prop} (h : RLe f k t) (hk : k ≤ 96) (hc : c ≤ 2) (hd : ∀ e, e < c → s + e < k ∧ isDg (f (s + e))) (q : post (nI (valN f s c)) (pi, lo, nb, nI (s + c), 0, ss)) : p_X6_readDigits t (pi, lo, nb, nI s, 0, ss) (nI c) post := by
  unfold p_X6_readDigits
  refine lpN_up c (fun i z => z = (nI (valN f s i), nI i, nI (s + i), 0)) (by omega) ?_ ?_ _ rfl
  · rintro K i ⟨x1, x2, at3, bd4⟩ hi e hK
    obtain ⟨e1, e2, e3, e4⟩ : x1 = nI (valN f s i) ∧ x2 = nI i ∧ at3 = nI (s + i) ∧ bd4 = 0 := by
      injection e with e1 e; injection e with e2 e; injection e with e3 e4
      exact ⟨e1, e2, e3, e4⟩
    subst e1; subst e2; subst e3; subst e4
    obtain ⟨d0, d1, d2⟩ := hd i hi
    refine bLe c i rfl rfl (by omega) (by omega) (fun w => absurd w (by omega)) (fun _ => ?_)
    refine br_t rfl (sp_here_t h hk d0 (sp_inN_t (Y := 48) (Z := 57) rfl rfl d1 d2 (by omega) (br_f (by decide) ⟨bz_0, br_t rfl ⟨vin96 (by omega), ?_⟩⟩)))
    refine br_t rfl (nm_in (fun v ev => hK _ ?_))
    show (((10 : Int32) * nI (valN f s i) + t.1 (nI (s + i)).toNatClampNeg) - (48 : Int32), nI i + 1, v, (0 : Int32)) = _
    rw [h.at hk d0, nI_10 _ _ d1, ev, nI_1, nI_1]
    rfl
  · rintro K ⟨x1, x2, at3, bd4⟩ e
    obtain ⟨e1, e2, e3, e4⟩ : x1 = nI (valN f s c) ∧ x2 = nI c ∧ at3 = nI (s + c) ∧ bd4 = 0 := by
      injection e with e1 e; injection e with e2 e; injection e with e3 e4
      exact ⟨e1, e2, e3, e4⟩
    subst e1; subst e2; subst e3; subst e4
    exact bLe c c rfl rfl (by omega) (by omega) (fun _ => q) (fun w => absurd w (by omega))
/-- the digits, a fault before or among them -/
theorem sp_rdig_bad {f : Nat → Nat} {k s c e b : Nat} {t : LT} {pi lo nb : F1} {ss : Int32} {post : Int32 → QT → Prop} (h : RLe f k t) (hk : k ≤ 96) (hs : s < 150) (hc : c ≤ 2) (hd : ∀ e', e' < e → s + e' < k ∧ isDg (f (s + e'))) (hb : (b = 1 ∧ e = 0) ∨ (b = 0 ∧ e < c ∧ ¬ (s + e < k ∧ isDg (f (s + e))))) (q : ∀ v, post v (pi, lo, nb, nI (s + e), 1, ss)) : p_X6_readDigits t (pi, lo, nb, nI s, nI b, ss) (nI c) post := by
  have hbs : (b = 0 ∧ e < c ∧ ¬ (s + e < k ∧ isDg (f (s + e)))) ∨ (b = 1 ∧ e = 0) := hb.symm
  unfold p_X6_readDigits
  refine lpN_up c (fun i z => z.2.1 = nI i ∧ ((i ≤ e ∧ b = 0 ∧ z.2.2.1 = nI (s + i) ∧ z.2.2.2 = 0) ∨ ((e < i ∨ b = 1) ∧ z.2.2.1 = nI (s + e) ∧ z.2.2.2 = 1))) (by omega) ?_ ?_ _ ⟨rfl, ?_⟩
  · rintro K i ⟨x1, x2, at3, bd4⟩ hi ⟨e2, e3⟩ hK
    dsimp only at e2 e3
    subst e2
    refine bLe c i rfl rfl (by omega) (by omega) (fun w => absurd w (by omega)) (fun _ => ?_)
    have bad : ∀ bd : Int32, bd = bd4 → (e < i + 1 ∨ b = 1) → at3 = nI (s + e) → (bz 1 ∧ (((1 : Int32) = 0 → (vp_in at3 96 ∧ (((1 : Int32) = 0 → nm (at3 + 1) (fun v12 => K (((10 : Int32) * x1 + t.1 at3.toNatClampNeg) - 48, nI i + 1, v12, 1))) ∧ (¬ (1 : Int32) = 0 → nm (at3 + 0) (fun v12 => K (((10 : Int32) * x1 + t.1 at3.toNatClampNeg) - 48, nI i + 1, v12, 1)))))) ∧ (¬ (1 : Int32) = 0 → (((1 : Int32) = 0 → nm (at3 + 1) (fun v12 => K (0, nI i + 1, v12, 1))) ∧ (¬ (1 : Int32) = 0 → nm (at3 + 0) (fun v12 => K (0, nI i + 1, v12, 1))))))) := by
      intro bd _ w1 w2
      subst w2
      refine ⟨bz_1, br_f (by decide) (br_f (by decide) (nm_in (fun v ev => hK _ ⟨nI_1 i, Or.inr ⟨w1, ?_, rfl⟩⟩)))⟩
      exact ev.trans (Int32.add_zero _)
    rcases e3 with ⟨w1, w2, w3, w4⟩ | ⟨w1, w3, w4⟩
    · subst w3; subst w4
      refine br_t rfl ?_
      rcases (show i < e ∨ i = e by omega) with z | z
      · obtain ⟨d0, d1, d2⟩ := hd i z
        refine sp_here_t h hk d0 (sp_inN_t (Y := 48) (Z := 57) rfl rfl d1 d2 (by omega) (br_f (by decide) ⟨bz_0, br_t rfl ⟨vin96 (by omega), ?_⟩⟩))
        exact br_t rfl (nm_in (fun v ev => hK _ ⟨nI_1 i, Or.inl ⟨z, w2, ev.trans (nI_1 _), rfl⟩⟩))
      · subst z
        rcases hb with ⟨z1, -⟩ | ⟨-, z2, z3⟩
        · omega
        rcases Nat.lt_or_ge (s + i) k with v | v
        · refine sp_here_t h hk v (sp_inN_f (Y := 48) (Z := 57) rfl rfl (fun j j1 j2 ej => ?_) (br_t rfl (bad 0 rfl (Or.inl (by omega)) rfl)))
          have := nI_inj (by have := (h.2 _ v).2; omega) (by omega) ej
          exact z3 ⟨v, by rw [this]; exact ⟨j1, j2⟩⟩
        · exact sp_here_f h hk v (by omega) (sp_inN_f (Y := 48) (Z := 57) rfl rfl (fun j j1 j2 ej => nI_ne_m1 (by omega) ej.symm) (br_t rfl (bad 0 rfl (Or.inl (by omega)) rfl)))
    · subst w4
      exact br_f (show ¬ (1 : Int32) = 0 by decide) (bad 1 rfl (by omega) w3)
  · rintro K ⟨x1, x2, at3, bd4⟩ ⟨e2, e3⟩
    dsimp only at e2 e3
    subst e2
    refine bLe c c rfl rfl (by omega) (by omega) (fun _ => ?_) (fun w => absurd w (by omega))
    rcases e3 with ⟨w1, w2, w3, w4⟩ | ⟨w1, w3, w4⟩
    · omega
    · subst w3; subst w4
      exact q x1
  · dsimp only
    rcases hb with ⟨z1, z2⟩ | ⟨z1, z2, z3⟩
    · subst z1; subst z2; exact Or.inr ⟨Or.inr rfl, rfl, rfl⟩
    · subst z1; exact Or.inl ⟨Nat.zero_le _, rfl, rfl, rfl⟩
theorem vin98 {i : Nat} (h : i < 98) : vp_in (nI i) 98 := vp_in_nI h (by decide)
theorem vin49 {i : Nat} (h : i < 49) : vp_in (nI i) 49 := vp_in_nI h (by decide)
/-- the numbers behind a letter -/
theorem sp_rnum_ok {f : Nat → Nat} {k s j : Nat} {t : LT} {pi lo nb : F1} {ss : Int32} {post : QT → Prop} (h : RLe f k t) (hk : k ≤ 96) (hl : isLt (f s)) (hx : f s < 256) (hj : j < 49) (hd : ∀ e, 0 < e → e ≤ dbN (f s) → s + e < k ∧ isDg (f (s + e))) (q : ∀ nb', nb' = upd (upd nb (2 * j) (nI (n1N f s))) (2 * j + 1) (nI (n2N f s)) → post (pi, lo, nb', nI (s + 1 + dbN (f s)), 0, ss)) : p_X6_readNumbers t (pi, lo, nb, nI (s + 1), 0, ss) (nI (f s)) (nI (2 * j)) post := by
  have e12 := c12 hl
  unfold p_X6_readNumbers
  refine jnC1 hx ?_
  refine sp_rdig_ok h hk (c1_le _) (fun e he => ?_) ?_
  · have := hd (e + 1) (by omega) (by omega)
    rw [show s + 1 + e = s + (e + 1) by omega]
    exact this
  refine ⟨vin98 (by omega), nm_in (fun nb1 e1 => ?_)⟩
  refine jnC2 hx ?_
  refine sp_rdig_ok h hk (c2_le _) (fun e he => ?_) ?_
  · have := hd (c1N (f s) + 1 + e) (by omega) (by omega)
    rw [show s + 1 + c1N (f s) + e = s + (c1N (f s) + 1 + e) by omega]
    exact this
  have e3 : nI (2 * j) + (1 : Int32) = nI (2 * j + 1) := nI_1 _
  refine ⟨by rw [e3]; exact vin98 (by omega), nm_in (fun nb2 e2 => ?_)⟩
  have := q nb2 (by rw [e2, e3, cl_nI (by omega), e1, cl_nI (by omega)]; rfl)
  rw [← e12, ← Nat.add_assoc] at this
  exact this
theorem sp_rnum_bad {f : Nat → Nat} {k s j e : Nat} {t : LT} {pi lo nb : F1} {ss : Int32} {post : QT → Prop} (h : RLe f k t) (hk : k ≤ 96) (hs : s < k) (hl : isLt (f s)) (hx : f s < 256) (hj : j < 49) (h1 : 1 ≤ e) (h2 : e ≤ dbN (f s)) (hd : ∀ e', 0 < e' → e' < e → s + e' < k ∧ isDg (f (s + e'))) (hb : ¬ (s + e < k ∧ isDg (f (s + e)))) (q : ∀ nb', post (pi, lo, nb', nI (s + e), 1, ss)) : p_X6_readNumbers t (pi, lo, nb, nI (s + 1), 0, ss) (nI (f s)) (nI (2 * j)) post := by
  have e12 := c12 hl
  have l1 := c1_le (f s)
  have l2 := c2_le (f s)
  have e3 : nI (2 * j) + (1 : Int32) = nI (2 * j + 1) := nI_1 _
  unfold p_X6_readNumbers
  refine jnC1 hx ?_
  rcases (show e ≤ c1N (f s) ∨ c1N (f s) < e by omega) with w | w
  · refine sp_rdig_bad (b := 0) (e := e - 1) h hk (by omega) (c1_le _) (fun e' he => ?_) (Or.inr ⟨rfl, by omega, ?_⟩) (fun v => ?_)
    · have := hd (e' + 1) (by omega) (by omega)
      rw [show s + 1 + e' = s + (e' + 1) by omega]
      exact this
    · rw [show s + 1 + (e - 1) = s + e by omega]; exact hb
    rw [show s + 1 + (e - 1) = s + e by omega]
    refine ⟨vin98 (by omega), nm_in (fun nb1 e1 => ?_)⟩
    refine jnC2 hx ?_
    refine sp_rdig_bad (b := 1) (e := 0) h hk (by omega) (c2_le _) (fun e' he => absurd he (by omega)) (Or.inl ⟨rfl, rfl⟩) (fun v2 => ?_)
    exact ⟨by rw [e3]; exact vin98 (by omega), nm_in (fun nb2 e2 => q nb2)⟩
  · refine sp_rdig_ok h hk (c1_le _) (fun e' he => ?_) ?_
    · have := hd (e' + 1) (by omega) (by omega)
      rw [show s + 1 + e' = s + (e' + 1) by omega]
      exact this
    refine ⟨vin98 (by omega), nm_in (fun nb1 e1 => ?_)⟩
    refine jnC2 hx ?_
    refine sp_rdig_bad (b := 0) (e := e - 1 - c1N (f s)) h hk (by omega) (c2_le _) (fun e' he => ?_) (Or.inr ⟨rfl, by omega, ?_⟩) (fun v => ?_)
    · have := hd (c1N (f s) + 1 + e') (by omega) (by omega)
      rw [show s + 1 + c1N (f s) + e' = s + (c1N (f s) + 1 + e') by omega]
      exact this
    · rw [show s + 1 + c1N (f s) + (e - 1 - c1N (f s)) = s + e by omega]; exact hb
    rw [show s + 1 + c1N (f s) + (e - 1 - c1N (f s)) = s + e by omega]
    exact ⟨by rw [e3]; exact vin98 (by omega), nm_in (fun nb2 e2 => q nb2)⟩
