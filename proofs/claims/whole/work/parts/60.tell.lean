/-! a saying comes to pass -/
def cup0A (a : AP) : AP := (aK a, aF a, aH a, aX a, aN a, aS a, aW a, 0, aO a)
def tellOk (a : AP) (x p q : Nat) : Prop := (x = 98 → p < aN a) ∧ (x = 100 → 1 ≤ p ∧ p ≤ 60 ∧ aO a + p ≤ 999) ∧ (x = 110 → p ≤ 5 ∧ aN a < 9) ∧ (x = 118 → p < aN a) ∧ (x = 120 → p < aN a ∧ p < q)
def tellA (a : AP) (x p q : Nat) : AP := if x = 98 then setS a (aS a ^^^ 2 ^ p) else if x = 99 then cup0A a else if x = 100 then hoursA a p else if x = 110 then buildA a p q else if x = 118 then fillA a p q else leadA a p q
def tellB (x p q : Nat) : Prop := (x ≠ 100 → p ≤ 9) ∧ p ≤ 99 ∧ q ≤ 99 ∧ (x ≠ 118 → q ≤ 9)
theorem tell_good {a : AP} {x p q : Nat} (g : GP a) (ho : aO a ≤ 999) (hx : isLt x) (hb : tellB x p q) (h : tellOk a x p q) : GP (tellA a x p q) ∧ aO (tellA a x p q) ≤ 999 := by
  obtain ⟨h1, h2, h3, h4, h5⟩ := h
  obtain ⟨b1, b2, b3, b4⟩ := hb
  rcases hx with rfl | rfl | rfl | rfl | rfl | rfl
  · exact ⟨g.setS (Nat.xor_lt_two_pow g.2.2.2.1 (Nat.pow_lt_pow_right (by decide) (h1 rfl))), ho⟩
  · exact ⟨⟨g.1, g.2.1, g.2.2.1, g.2.2.2.1, g.2.2.2.2.1, Nat.zero_le _⟩, ho⟩
  · exact ⟨g.hours p, (h2 rfl).2.2⟩
  · exact ⟨g.build (h3 rfl).1 (b4 (by decide)) (h3 rfl).2, ho⟩
  · exact ⟨g.fill (h4 rfl), ho⟩
  · exact ⟨g.lead (h5 rfl).2 (b4 (by decide)), ho⟩
theorem xorS {a : AP} {i : Nat} {x : Int32} (hi : i < 9) (h : x = nI (aS a)) : x ^^^ ((1 : Int32) <<< (nI i &&& 31)) = nI (aS a ^^^ 2 ^ i) := by
  rw [h, shl9 i (by omega), fa_xor]
theorem sp_leadN {t : PT} {a : AP} {i v : Nat} {post : Int32 → PT → Prop} (h : RP t a) (g : GP a) (hi : i < 100) (hv : v ≤ 9) (hn : ¬ (i < aN a ∧ i < v)) (k : post 0 t) : p_X3_lead t (nI i) (nI v) post := by
  have h9 := g.1
  unfold p_X3_lead
  rcases Nat.lt_or_ge i (aN a) with w | w
  · exact sp_there_t h g w (br_f (by decide) (br_t (nI_le (by omega) (by omega)) k))
  · exact sp_there_n h g w (by omega) (br_t rfl k)
theorem sp_lead' {t : PT} {a : AP} {i v : Nat} {post : Int32 → PT → Prop} (h : RP t a) (g : GP a) (hi : i < aN a) (h1 : i < v) (h2 : v ≤ 9) (k : ∀ t', RP t' (leadA a i v) → post 1 t') : p_X3_lead t (nI i) (nI v) post := sp_lead h g hi h1 h2 k
theorem sp_tell5 {m : PT} {a : AP} {f : Nat → Nat} {k s : Nat} {t : LT} {post : Int32 → PT → Prop} (h : RLe f k t) (hk : k ≤ 96) (gd : GD f k s) (hr : RP m a) (g : GP a) (ho : aO a ≤ 999) (hb : tellB (f s) (n1N f s) (n2N f s)) (q1 : tellOk a (f s) (n1N f s) (n2N f s) → ∀ m', RP m' (tellA a (f s) (n1N f s) (n2N f s)) → post 1 m') (q0 : ¬ tellOk a (f s) (n1N f s) (n2N f s) → ∀ m', post 0 m') : p_X5_tell m t (nI s) post := by
  have h9 := g.1
  have hl := gd.lt
  obtain ⟨b1, b2, b3, b4⟩ := hb
  have a1 : nI s + (1 : Int32) = nI (s + 1) := nI_1 s
  have a2 : nI s + (2 : Int32) = nI (s + 2) := nI_add s 2
  have a3 : nI s + (3 : Int32) = nI (s + 3) := nI_add s 3
  have m10 : ∀ x y : Nat, (10 : Int32) * nI x + nI y = nI (10 * x + y) := fun x y => by
    rw [show (10 : Int32) * nI x = nI (10 * x) from nI_mulN 10 x, nI_add]
  unfold p_X5_tell
  rw [a1, a2]
  rcases gd.let with e | e | e | e | e | e
  · have ed : dbN (f s) = 1 := by rw [e]; rfl
    have e1 : n1N f s = f (s + 1) - 48 := by
      unfold n1N; rw [e]; show 10 * 0 + (f (s + 1) - 48) = _; omega
    obtain ⟨d0, d1⟩ := gd.dig (e := 1) (by omega) (by omega)
    refine sp_digIs h hk d0 d1 (sp_digAny h hk (by omega) (fun v2 => sp_at h hk (by omega) ?_))
    rw [e] at q1 q0 ⊢
    rw [e1] at q1 q0 b2
    refine br_t rfl ?_
    unfold p_X3_blockOrFree
    rcases Nat.lt_or_ge (f (s + 1) - 48) (aN a) with w | w
    · refine sp_there_t hr g w (br_f (by decide) (nm_in (fun st est => ⟨bz_1, q1 ?_ _ (hr.setS (est.trans (xorS (by omega) hr.2.2.1)))⟩)))
      exact ⟨fun _ => w, fun z => absurd z (by decide), fun z => absurd z (by decide), fun z => absurd z (by decide), fun z => absurd z (by decide)⟩
    · exact sp_there_n hr g w (by omega) (br_t rfl ⟨bz_0, q0 (fun z => absurd (z.1 rfl) (by omega)) _⟩)
  · have ed : dbN (f s) = 0 := by rw [e]; rfl
    refine sp_digAny h hk (by omega) (fun v1 => sp_digAny h hk (by omega) (fun v2 => sp_at h hk (by omega) ?_))
    rw [e] at q1 q0 ⊢
    refine br_f (by decide) (br_t rfl ?_)
    unfold p_X3_emptyCup
    refine q1 ?_ _ ⟨hr.1, hr.2.1, hr.2.2.1, hr.2.2.2.1, rfl, hr.2.2.2.2.2⟩
    exact ⟨fun z => absurd z (by decide), fun z => absurd z (by decide), fun z => absurd z (by decide), fun z => absurd z (by decide), fun z => absurd z (by decide)⟩
  · have ed : dbN (f s) = 2 := by rw [e]; rfl
    have e1 : n1N f s = 10 * (f (s + 1) - 48) + (f (s + 2) - 48) := by
      unfold n1N; rw [e]; show 10 * (10 * 0 + (f (s + 1) - 48)) + (f (s + 2) - 48) = _; omega
    obtain ⟨d0, d1⟩ := gd.dig (e := 1) (by omega) (by omega)
    obtain ⟨c0, c1⟩ := gd.dig (e := 2) (by omega) (by omega)
    refine sp_digIs h hk d0 d1 (sp_digIs h hk c0 c1 (sp_at h hk (by omega) ?_))
    rw [e] at q1 q0 ⊢
    rw [m10, ← e1]
    refine br_f (by decide) (br_f (by decide) (br_t rfl ?_))
    unfold p_X3_hasTimeFor
    have no : ¬ (1 ≤ n1N f s ∧ n1N f s ≤ 60 ∧ aO a + n1N f s ≤ 999) → ((0 : Int32) = 0 → post (0 : Int32) m) := fun w _ => q0 (fun z => w (z.2.1 rfl)) m
    have noB : ∀ A : Prop, ¬ (1 ≤ n1N f s ∧ n1N f s ≤ 60 ∧ aO a + n1N f s ≤ 999) → (((0 : Int32) = 0 → post (0 : Int32) m) ∧ (¬ (0 : Int32) = 0 → A)) := fun A w => br_t rfl (no w rfl)
    refine bLt (n1N f s) 1 rfl rfl (by omega) (by omega) (fun w => noB _ (by omega)) (fun w1 => ?_)
    refine bLt 60 (n1N f s) rfl rfl (by omega) (by omega) (fun w => noB _ (by omega)) (fun w2 => ?_)
    have eo : (999 : Int32) - m.2.2.2.2.2.2.2.2.1 = nI (999 - aO a) := by
      rw [hr.2.2.2.2.2]; exact nI_subN (a := 999) ho
    refine bLt (999 - aO a) (n1N f s) eo rfl (by omega) (by omega) (fun w => noB _ (by omega)) (fun w3 => br_f (by decide) ?_)
    refine sp_pass hr g (by omega) (fun m' hm' => q1 ?_ _ hm')
    exact ⟨fun z => absurd z (by decide), fun _ => ⟨by omega, w2, by omega⟩, fun z => absurd z (by decide), fun z => absurd z (by decide), fun z => absurd z (by decide)⟩
  · have ed : dbN (f s) = 2 := by rw [e]; rfl
    have e1 : n1N f s = f (s + 1) - 48 := by
      unfold n1N; rw [e]; show 10 * 0 + (f (s + 1) - 48) = _; omega
    have e2 : n2N f s = f (s + 2) - 48 := by
      unfold n2N; rw [e]; show 10 * 0 + (f (s + 2) - 48) = _; omega
    obtain ⟨d0, d1⟩ := gd.dig (e := 1) (by omega) (by omega)
    obtain ⟨c0, c1⟩ := gd.dig (e := 2) (by omega) (by omega)
    refine sp_digIs h hk d0 d1 (sp_digIs h hk c0 c1 (sp_at h hk (by omega) ?_))
    rw [← e1, ← e2]
    rw [e] at q1 q0 b4 ⊢
    have b4' := b4 (by decide)
    refine br_f (by decide) (br_f (by decide) (br_f (by decide) (br_t rfl ?_)))
    unfold p_X3_build
    refine bLe 9 (aN a) rfl hr.2.1 (by omega) (by omega) (fun w => ⟨bz_0, q0 (fun z => absurd (z.2.2.1 rfl).2 (by omega)) _⟩) (fun w => ?_)
    refine br_f (Int32.not_lt.mpr (nI_pos' (by omega))) (bLe (n1N f s) 5 rfl rfl (by omega) (by omega) (fun w2 => ?_) (fun w2 => ⟨bz_0, q0 (fun z => absurd (z.2.2.1 rfl).1 (by omega)) _⟩))
    have vb : vp_in m.2.2.2.2.1 9 := by rw [hr.2.1]; exact vin9 w
    refine ⟨vb, nm_in (fun x1 d1 => ⟨vb, nm_in (fun x2 d2 => ⟨vb, nm_in (fun x3 d3 => ⟨vb, nm_in (fun x4 d4 => nm_in (fun v d5 => ⟨bz_1, q1 ?_ _ (hr.build w d1 d2 d3 d4 d5 rfl rfl _)⟩))⟩)⟩)⟩)⟩
    exact ⟨fun z => absurd z (by decide), fun z => absurd z (by decide), fun _ => ⟨w2, w⟩, fun z => absurd z (by decide), fun z => absurd z (by decide)⟩
  · have ed : dbN (f s) = 3 := by rw [e]; rfl
    have e1 : n1N f s = f (s + 1) - 48 := by
      unfold n1N; rw [e]; show 10 * 0 + (f (s + 1) - 48) = _; omega
    have e2 : n2N f s = 10 * (f (s + 2) - 48) + (f (s + 3) - 48) := by
      unfold n2N; rw [e]; show 10 * (10 * 0 + (f (s + 2) - 48)) + (f (s + 3) - 48) = _; omega
    obtain ⟨d0, d1⟩ := gd.dig (e := 1) (by omega) (by omega)
    obtain ⟨c0, c1⟩ := gd.dig (e := 2) (by omega) (by omega)
    obtain ⟨c2, c3⟩ := gd.dig (e := 3) (by omega) (by omega)
    refine sp_digIs h hk d0 d1 (sp_digIs h hk c0 c1 (sp_at h hk (by omega) ?_))
    rw [← e1, a3]
    rw [e] at q1 q0 ⊢
    refine br_f (by decide) (br_f (by decide) (br_f (by decide) (br_f (by decide) (br_t rfl (sp_digIs h hk c2 c3 ?_)))))
    rw [m10, ← e2]
    rcases Nat.lt_or_ge (n1N f s) (aN a) with w | w
    · refine sp_fill hr g w (by omega) (fun m' hm' _ => ⟨bz_1, q1 ?_ _ hm'⟩)
      exact ⟨fun z => absurd z (by decide), fun z => absurd z (by decide), fun z => absurd z (by decide), fun _ => w, fun z => absurd z (by decide)⟩
    · exact sp_fillN hr g w (by omega) ⟨bz_0, q0 (fun z => absurd (z.2.2.2.1 rfl) (by omega)) _⟩
  · have ed : dbN (f s) = 2 := by rw [e]; rfl
    have e1 : n1N f s = f (s + 1) - 48 := by
      unfold n1N; rw [e]; show 10 * 0 + (f (s + 1) - 48) = _; omega
    have e2 : n2N f s = f (s + 2) - 48 := by
      unfold n2N; rw [e]; show 10 * 0 + (f (s + 2) - 48) = _; omega
    obtain ⟨d0, d1⟩ := gd.dig (e := 1) (by omega) (by omega)
    obtain ⟨c0, c1⟩ := gd.dig (e := 2) (by omega) (by omega)
    refine sp_digIs h hk d0 d1 (sp_digIs h hk c0 c1 (sp_at h hk (by omega) ?_))
    rw [← e1, ← e2]
    rw [e] at q1 q0 b4 ⊢
    have b4' := b4 (by decide)
    refine br_f (by decide) (br_f (by decide) (br_f (by decide) (br_f (by decide) (br_f (by decide) (br_t rfl ?_)))))
    by_cases w : n1N f s < aN a ∧ n1N f s < n2N f s
    · refine sp_lead' hr g w.1 w.2 b4' (fun m' hm' => ⟨bz_1, q1 ?_ _ hm'⟩)
      exact ⟨fun z => absurd z (by decide), fun z => absurd z (by decide), fun z => absurd z (by decide), fun z => absurd z (by decide), fun _ => w⟩
    · exact sp_leadN hr g (by omega) b4' w ⟨bz_0, q0 (fun z => w (z.2.2.2.2 rfl)) _⟩
theorem gd_tellB {f : Nat → Nat} {k s : Nat} (gd : GD f k s) : tellB (f s) (n1N f s) (n2N f s) := by
  have dg : ∀ e, 0 < e → e ≤ dbN (f s) → f (s + e) - 48 ≤ 9 := fun e x1 x2 => by have := (gd.dig x1 x2).2.2; omega
  have key : ∀ x, isLt x → f s = x → tellB x (n1N f s) (n2N f s) := by
    intro x hx e
    unfold n1N n2N
    rw [e]
    rw [e] at dg
    rcases hx with rfl | rfl | rfl | rfl | rfl | rfl
    · have := dg 1 (by decide) (by decide)
      have e1 : valN f (s + 1) (c1N 98) = 10 * 0 + (f (s + 1) - 48) := rfl
      have e2 : valN f (s + 1 + c1N 98) (c2N 98) = 0 := rfl
      rw [e1, e2]; unfold tellB; omega
    · have e1 : valN f (s + 1) (c1N 99) = 0 := rfl
      have e2 : valN f (s + 1 + c1N 99) (c2N 99) = 0 := rfl
      rw [e1, e2]; unfold tellB; omega
    · have := dg 1 (by decide) (by decide)
      have := dg 2 (by decide) (by decide)
      have e1 : valN f (s + 1) (c1N 100) = 10 * (10 * 0 + (f (s + 1) - 48)) + (f (s + 2) - 48) := rfl
      have e2 : valN f (s + 1 + c1N 100) (c2N 100) = 0 := rfl
      rw [e1, e2]; unfold tellB; omega
    · have := dg 1 (by decide) (by decide)
      have := dg 2 (by decide) (by decide)
      have e1 : valN f (s + 1) (c1N 110) = 10 * 0 + (f (s + 1) - 48) := rfl
      have e2 : valN f (s + 1 + c1N 110) (c2N 110) = 10 * 0 + (f (s + 2) - 48) := rfl
      rw [e1, e2]; unfold tellB; omega
    · have := dg 1 (by decide) (by decide)
      have := dg 2 (by decide) (by decide)
      have := dg 3 (by decide) (by decide)
      have e1 : valN f (s + 1) (c1N 118) = 10 * 0 + (f (s + 1) - 48) := rfl
      have e2 : valN f (s + 1 + c1N 118) (c2N 118) = 10 * (10 * 0 + (f (s + 2) - 48)) + (f (s + 3) - 48) := rfl
      rw [e1, e2]; unfold tellB; omega
    · have := dg 1 (by decide) (by decide)
      have := dg 2 (by decide) (by decide)
      have e1 : valN f (s + 1) (c1N 120) = 10 * 0 + (f (s + 1) - 48) := rfl
      have e2 : valN f (s + 1 + c1N 120) (c2N 120) = 10 * 0 + (f (s + 2) - 48) := rfl
      rw [e1, e2]; unfold tellB; omega
  exact key (f s) gd.let rfl
