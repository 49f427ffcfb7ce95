/-! a saying comes to pass, in the reference -/
theorem isH_or {t : PT} {a : AP} {i : Nat} {post : Int32 → Prop} (h : RP t a) (g : GP a) (hi : i < 100) (q1 : i < aN a → post 1) (q0 : aN a ≤ i → post 0) : p_X6_isHouse t (nI i) post := by
  have h9 := g.1
  rcases Nat.lt_or_ge i (aN a) with w | w
  · exact sp_isH_t h g w (q1 w)
  · refine sp_isH_f h g (fun j hj e => ?_) (q0 w)
    have := nI_inj (by omega) (by omega) e
    omega
theorem sp_tell6 {c : PT} {a : AP} {pi lo nb : F1} {at' bd ss : Int32} {j x p q : Nat} {post : Int32 → PT → Prop} (hj : j < 49) (hx : isLt x) (hlo : lo j = nI x) (hp : nb (2 * j) = nI p) (hq : nb (2 * j + 1) = nI q) (hr : RP c a) (g : GP a) (ho : aO a ≤ 999) (hb : tellB x p q) (q1 : tellOk a x p q → ∀ c', RP c' (tellA a x p q) → post 1 c') (q0 : ¬ tellOk a x p q → ∀ c', post 0 c') : p_X6_comesTold c (pi, lo, nb, at', bd, ss) (nI j) post := by
  have h9 := g.1
  obtain ⟨b1, b2, b3, b4⟩ := hb
  have a2 : (2 : Int32) * nI j = nI (2 * j) := nI_mulN 2 j
  have a3 : nI (2 * j) + (1 : Int32) = nI (2 * j + 1) := nI_1 _
  unfold p_X6_comesTold
  rw [a2, a3]
  refine ⟨vin98 (by omega), nm_in (fun v1 e1 => ⟨vin98 (by omega), nm_in (fun v2 e2 => ?_)⟩)⟩
  have e1' : v1 = nI p := by rw [e1, cl_nI (by omega)]; exact hp
  have e2' : v2 = nI q := by rw [e2, cl_nI (by omega)]; exact hq
  subst e1'; subst e2'
  have el : lo (nI j).toNatClampNeg = nI x := by rw [cl_nI (by omega)]; exact hlo
  rcases hx with rfl | rfl | rfl | rfl | rfl | rfl
  · refine isH_or hr g (by omega) (fun w => ⟨vin49 hj, br_t el ?_⟩) (fun w => ⟨vin49 hj, br_t el ?_⟩)
    · refine br_f (by decide) (nm_in (fun st est => ⟨bz_1, q1 ?_ _ (hr.setS (est.trans (xorS (by omega) hr.2.2.1)))⟩))
      exact ⟨fun _ => w, fun z => absurd z (by decide), fun z => absurd z (by decide), fun z => absurd z (by decide), fun z => absurd z (by decide)⟩
    · exact br_t rfl (nm_in (fun st est => ⟨bz_0, q0 (fun z => absurd (z.1 rfl) (by omega)) _⟩))
  · have go : (post 1 (c.1, c.2.1, c.2.2.1, c.2.2.2.1, c.2.2.2.2.1, c.2.2.2.2.2.1, c.2.2.2.2.2.2.1, 0, c.2.2.2.2.2.2.2.2.1, c.2.2.2.2.2.2.2.2.2)) := by
      refine q1 ?_ _ ⟨hr.1, hr.2.1, hr.2.2.1, hr.2.2.2.1, rfl, hr.2.2.2.2.2⟩
      exact ⟨fun z => absurd z (by decide), fun z => absurd z (by decide), fun z => absurd z (by decide), fun z => absurd z (by decide), fun z => absurd z (by decide)⟩
    have n1 : ¬ lo (nI j).toNatClampNeg = 98 := by rw [el]; decide
    exact isH_or hr g (by omega) (fun w => ⟨vin49 hj, br_f n1 (br_t el go)⟩) (fun w => ⟨vin49 hj, br_f n1 (br_t el go)⟩)
  · have n1 : ¬ lo (nI j).toNatClampNeg = 98 := by rw [el]; decide
    have n2 : ¬ lo (nI j).toNatClampNeg = 99 := by rw [el]; decide
    have n3 : ¬ lo (nI j).toNatClampNeg = 110 := by rw [el]; decide
    have n4 : ¬ lo (nI j).toNatClampNeg = 118 := by rw [el]; decide
    have n5 : ¬ lo (nI j).toNatClampNeg = 120 := by rw [el]; decide
    have go : p_X6_hoursTold c (nI p) (fun (r33 : Int32) (u33 : PT) => bz r33 ∧ post r33 u33) := by
      unfold p_X6_hoursTold
      by_cases w : 1 ≤ p ∧ p ≤ 60
      · refine sp_inN_t (Y := 1) (Z := 60) rfl rfl w.1 w.2 (by omega) (br_f (by decide) ?_)
        have eo : c.2.2.2.2.2.2.2.2.1 + nI p = nI (aO a + p) := by rw [hr.2.2.2.2.2, nI_add]
        refine bLt 999 (aO a + p) rfl eo (by omega) (by omega) (fun w2 => ?_) (fun w2 => ?_)
        · exact br_t rfl ⟨bz_0, bz_0, q0 (fun z => absurd (z.2.1 rfl) (by omega)) _⟩
        · refine br_f (by decide) (sp_goHours hr g (by omega) (fun c' hc' => ⟨bz_1, bz_1, q1 ?_ _ hc'⟩))
          exact ⟨fun z => absurd z (by decide), fun _ => ⟨w.1, w.2, w2⟩, fun z => absurd z (by decide), fun z => absurd z (by decide), fun z => absurd z (by decide)⟩
      · refine sp_inN_f (Y := 1) (Z := 60) rfl rfl (fun i i1 i2 ei => ?_) (br_t rfl (br_t rfl ⟨bz_0, bz_0, q0 (fun z => absurd (z.2.1 rfl) (by omega)) _⟩))
        have := nI_inj (by omega) (by omega) ei
        omega
    exact isH_or hr g (by omega) (fun w => ⟨vin49 hj, br_f n1 (br_f n2 (br_f n3 (br_f n4 (br_f n5 go))))⟩) (fun w => ⟨vin49 hj, br_f n1 (br_f n2 (br_f n3 (br_f n4 (br_f n5 go))))⟩)
  · have n1 : ¬ lo (nI j).toNatClampNeg = 98 := by rw [el]; decide
    have n2 : ¬ lo (nI j).toNatClampNeg = 99 := by rw [el]; decide
    have b4' := b4 (by decide)
    have vb : aN a < 9 → vp_in c.2.2.2.2.1 9 := fun w => by rw [hr.2.1]; exact vin9 w
    have go : p_X6_houseComes c (nI p) (nI q) (fun (r7 : Int32) (u7 : PT) => bz r7 ∧ post r7 u7) := by
      unfold p_X6_houseComes
      have no : ¬ (p ≤ 5 ∧ aN a < 9) → (bz 0 ∧ (bz 0 ∧ post 0 c)) := fun w => ⟨bz_0, bz_0, q0 (fun z => w (z.2.2.1 rfl)) _⟩
      refine bLe 6 p rfl rfl (by omega) (by omega) (fun w => br_t rfl (no (by omega))) (fun w1 => ?_)
      refine bLe 9 (aN a) rfl hr.2.1 (by omega) (by omega) (fun w => br_t rfl (no (by omega))) (fun w2 => ?_)
      refine br_f (show ¬ (1 : Int32) = 0 by decide) ?_
      refine ⟨vb w2, nm_in (fun y1 c1 => ⟨vb w2, nm_in (fun y2 c2 => ⟨vb w2, nm_in (fun y3 c3 => ⟨vb w2, nm_in (fun y4 c4 => nm_in (fun s c5 => nm_in (fun w6 c6 => nm_in (fun v6 c7 => ⟨bz_1, bz_1, ?_⟩))))⟩)⟩)⟩)⟩
      have z5 : s = c.2.2.2.2.2.1 := by
        refine c5.trans ?_
        show c.2.2.2.2.2.1 &&& (((1 : Int32) <<< (c.2.2.2.2.1 &&& 31)) ^^^ (-1 : Int32)) = c.2.2.2.2.2.1
        rw [hr.2.1, hr.2.2.1]
        exact clr9 _ w2 _ g.2.2.2.1
      have z6 : w6 = c.2.2.2.2.2.2.1 := by
        refine c6.trans ?_
        show c.2.2.2.2.2.2.1 &&& (((1 : Int32) <<< (c.2.2.2.2.1 &&& 31)) ^^^ (-1 : Int32)) = c.2.2.2.2.2.2.1
        rw [hr.2.1, hr.2.2.2.1]
        exact clr9 _ w2 _ g.2.2.2.2.1
      refine q1 ?_ _ (hr.build w2 c1 c2 c3 c4 c7 z5 z6 _)
      exact ⟨fun z => absurd z (by decide), fun z => absurd z (by decide), fun _ => ⟨by omega, w2⟩, fun z => absurd z (by decide), fun z => absurd z (by decide)⟩
    exact isH_or hr g (by omega) (fun w => ⟨vin49 hj, br_f n1 (br_f n2 (br_t el go))⟩) (fun w => ⟨vin49 hj, br_f n1 (br_f n2 (br_t el go))⟩)
  · have n1 : ¬ lo (nI j).toNatClampNeg = 98 := by rw [el]; decide
    have n2 : ¬ lo (nI j).toNatClampNeg = 99 := by rw [el]; decide
    have n3 : ¬ lo (nI j).toNatClampNeg = 110 := by rw [el]; decide
    refine isH_or hr g (by omega) (fun w => ⟨vin49 hj, br_f n1 (br_f n2 (br_f n3 (br_t el ?_)))⟩) (fun w => ⟨vin49 hj, br_f n1 (br_f n2 (br_f n3 (br_t el ?_)))⟩)
    · refine br_f (by decide) (sp_pourIn hr g w (by omega) (fun c' hc' _ => ⟨bz_1, q1 ?_ _ hc'⟩))
      exact ⟨fun z => absurd z (by decide), fun z => absurd z (by decide), fun z => absurd z (by decide), fun _ => w, fun z => absurd z (by decide)⟩
    · exact br_t rfl ⟨bz_0, q0 (fun z => absurd (z.2.2.2.1 rfl) (by omega)) _⟩
  · have n1 : ¬ lo (nI j).toNatClampNeg = 98 := by rw [el]; decide
    have n2 : ¬ lo (nI j).toNatClampNeg = 99 := by rw [el]; decide
    have n3 : ¬ lo (nI j).toNatClampNeg = 110 := by rw [el]; decide
    have n4 : ¬ lo (nI j).toNatClampNeg = 118 := by rw [el]; decide
    have b4' := b4 (by decide)
    refine isH_or hr g (by omega) (fun w => ⟨vin49 hj, br_f n1 (br_f n2 (br_f n3 (br_f n4 (br_t el ?_))))⟩) (fun w => ⟨vin49 hj, br_f n1 (br_f n2 (br_f n3 (br_f n4 (br_t el ?_))))⟩)
    · refine br_f (by decide) (bLe q p rfl rfl (by omega) (by omega) (fun w2 => ?_) (fun w2 => ?_))
      · exact br_t rfl ⟨bz_0, q0 (fun z => absurd (z.2.2.2.2 rfl) (by omega)) _⟩
      · refine br_f (by decide) ⟨vin9 (by omega), nm_in (fun nx enx => ⟨bz_1, q1 ?_ _ (hr.lead (by omega) enx)⟩)⟩
        exact ⟨fun z => absurd z (by decide), fun z => absurd z (by decide), fun z => absurd z (by decide), fun z => absurd z (by decide), fun _ => ⟨w, w2⟩⟩
    · exact br_t rfl (br_t rfl ⟨bz_0, q0 (fun z => absurd (z.2.2.2.2 rfl) (by omega)) _⟩)
