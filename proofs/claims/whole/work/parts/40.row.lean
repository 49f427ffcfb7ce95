/-! the row told -/
def rowP (f : F1) (k : Nat) (b : AP) : Prop := ∀ j, j < k → f j = nI (aC (flowsA b j))
def rowN (f : F1) (b : AP) (k : Nat) : Nat := pre (fun j r => if f j = nI (aC (flowsA b j)) then r else 1) 0 k
theorem row_iff (f : F1) (b : AP) : ∀ k, rowN f b k = 0 ↔ rowP f k b
  | 0 => ⟨fun _ j hj => absurd hj (Nat.not_lt_zero _), fun _ => rfl⟩
  | k + 1 => by
    have ih := row_iff f b k
    have e : rowN f b (k + 1) = if f k = nI (aC (flowsA b k)) then rowN f b k else 1 := rfl
    rw [e]
    by_cases w : f k = nI (aC (flowsA b k))
    · rw [if_pos w, ih]
      refine ⟨fun h j hj => ?_, fun h j hj => h j (by omega)⟩
      rcases Nat.lt_or_ge j k with q | q
      · exact h j q
      · rw [show j = k by omega]; exact w
    · rw [if_neg w]
      exact ⟨fun h => absurd h (by decide), fun h => absurd (h k (by omega)) w⟩
theorem sp_rowT {m : PT} {b : AP} {nu : LT} {f : F1} {k : Nat} {post : Int32 → PT → Prop} (hm : RP m b) (g : GP b) (hs : nu.2 = nI k) (hk : k ≤ 12) (hv : ∀ i, i < k → ∃ v, v < 100 ∧ f i = nI v ∧ nu.1 i = nI v) (t : rowP f k b → ∀ m', post 1 m') (e : ¬ rowP f k b → ∀ m', post 0 m') : p_X5_rowTellsCup m nu post := by
  obtain ⟨d, hd1, hd2, hd3⟩ := first_or (fun j => f j = nI (aC (flowsA b j))) k
  have atv : ∀ (j : Nat) {Q : Int32 → Prop}, j < k → Q (f j) → p_X2_at nu (nI j) Q := by
    intro j Q hj h
    obtain ⟨v, -, v2, v3⟩ := hv j hj
    rw [v2] at h
    exact sp_at2 hs hk hj v3 h
  unfold p_X5_rowTellsCup
  refine srch5 (a := b) (d := d) (P := fun j => f j = nI (aC (flowsA b j))) (by omega) hd2 (fun K j t' hj ht hP hK => ?_) (fun K t' ht => ?_) m hm
  · unfold p_X2_size
    exact bLe k j hs rfl (by omega) (by omega) (fun w => absurd w (by omega)) (fun _ => atv j (by omega) (sp_inCup ht (br_t hP (sp_flow ht (g.flows j) (fun t2 ht2 _ => hK t2 ht2)))))
  · unfold p_X2_size
    rcases hd3 with rfl | ⟨hd3, hd4⟩
    · exact bLe d d hs rfl (by omega) (by omega) (fun _ => t hd2 t') (fun w => absurd w (by omega))
    · exact bLe k d hs rfl (by omega) (by omega) (fun w => absurd w (by omega)) (fun _ => atv d (by omega) (sp_inCup ht (br_f hd4 (e (fun h => hd4 (h d hd3)) t'))))
theorem sp_isRow {c : PT} {a b : AP} {ks : KS} {ro : LT} {kp f : F1} {k : Nat} {post : Int32 → PT × KS × F1 → Prop} (hc : RP c b) (g : GP b) (hkk : RK kp a) (hs : ro.2 = nI k) (hk : k ≤ 12) (hv : ∀ i, i < k → ∃ v, v < 100 ∧ f i = nI v ∧ ro.1 i = nI v) (q : ∀ t' ks' (r : Int32), RP t' a → ((r = 1 ∧ rowP f k b) ∨ (r = 0 ∧ ¬ rowP f k b)) → post r (t', ks', kp)) : p_X6_isRow c ks ro kp post := by
  obtain ⟨d, hd1, hd2, hd3⟩ := first_or (fun j => f j = nI (aC (flowsA b j))) k
  have rv : ∀ j, j < k → ro.1 (nI j).toNatClampNeg = f j := by
    intro j hj
    obtain ⟨v, -, v2, v3⟩ := hv j hj
    rw [cl_nI (by omega), v2, v3]
  unfold p_X6_isRow
  rcases hd3 with rfl | ⟨hd3, hd4⟩
  · refine lpN_up d (fun j z => z.1 = 1 ∧ z.2.1 = nI j ∧ RP z.2.2 (hoursA b j)) (by omega) ?_ ?_ _ ⟨rfl, rfl, hc⟩
    · rintro K j ⟨x, y, t⟩ hj ⟨e1, e2, e3⟩ hK
      dsimp only at e1 e2 e3
      subst e1; subst e2
      refine bLe d j hs rfl (by omega) (by omega) (fun w => absurd w (by omega)) (fun _ => br_f (show ¬ (1 : Int32) = 0 by decide) ⟨vp_in_nI (show j < 12 by omega) (by decide), br_t ?_ (sp_hour0 e3 (g.hours j) (fun t2 ht2 _ => hK _ ⟨rfl, nI_1 j, by rw [tick_hours] at ht2; exact ht2⟩))⟩)
      have cu := e3.2.2.2.2.1
      exact ((rv j hj).trans (hd2 j hj)).trans cu.symm
    · rintro K ⟨x, y, t⟩ ⟨e1, e2, e3⟩
      dsimp only at e1 e2 e3
      subst e1; subst e2
      exact bLe d d hs rfl (by omega) (by omega) (fun _ => sp_again6 hkk (fun t3 ks3 ht3 => ⟨bz_1, q t3 ks3 1 ht3 (Or.inl ⟨rfl, hd2⟩)⟩)) (fun w => absurd w (by omega))
  · refine lpN_up (d + 1) (fun j z => ((j ≤ d ∧ z.1 = 1) ∨ (j = d + 1 ∧ z.1 = 0)) ∧ z.2.1 = nI j ∧ RP z.2.2 (hoursA b j)) (by omega) ?_ ?_ _ ⟨Or.inl ⟨Nat.zero_le _, rfl⟩, rfl, hc⟩
    · rintro K j ⟨x, y, t⟩ hj ⟨e1, e2, e3⟩ hK
      dsimp only at e1 e2 e3
      rcases e1 with ⟨-, e1⟩ | ⟨e1, -⟩
      · subst e1; subst e2
        have cu := e3.2.2.2.2.1
        refine bLe k j hs rfl (by omega) (by omega) (fun w => absurd w (by omega)) (fun _ => br_f (show ¬ (1 : Int32) = 0 by decide) ⟨vp_in_nI (show j < 12 by omega) (by decide), ?_⟩)
        rcases Nat.lt_or_ge j d with b1 | b1
        · exact br_t (((rv j (by omega)).trans (hd2 j b1)).trans cu.symm) (sp_hour0 e3 (g.hours j) (fun t2 ht2 _ => hK _ ⟨Or.inl ⟨by omega, rfl⟩, nI_1 j, by rw [tick_hours] at ht2; exact ht2⟩))
        · have ej : j = d := by omega
          subst ej
          exact br_f (fun h => hd4 (((rv j hd3).symm.trans h).trans cu)) (sp_hour0 e3 (g.hours j) (fun t2 ht2 _ => hK _ ⟨Or.inr ⟨rfl, rfl⟩, nI_1 j, by rw [tick_hours] at ht2; exact ht2⟩))
      · omega
    · rintro K ⟨x, y, t⟩ ⟨e1, e2, e3⟩
      dsimp only at e1 e2 e3
      rcases e1 with ⟨e1, -⟩ | ⟨-, e1⟩
      · omega
      · subst e1; subst e2
        have no : ¬ rowP f k b := fun h => hd4 (h d hd3)
        exact bLe k (d + 1) hs rfl (by omega) (by omega) (fun _ => sp_again6 hkk (fun t3 ks3 ht3 => ⟨bz_0, q t3 ks3 0 ht3 (Or.inr ⟨rfl, no⟩)⟩)) (fun _ => br_t rfl (sp_again6 hkk (fun t3 ks3 ht3 => ⟨bz_0, q t3 ks3 0 ht3 (Or.inr ⟨rfl, no⟩)⟩)))
def blkA (a : AP) (i : Nat) : AP := setS a (aS a ||| 2 ^ i)
theorem GP.blk {a : AP} (g : GP a) {i : Nat} (hi : i < aN a) : GP (blkA a i) := g.setS (or_lt g.2.2.2.1 hi)
theorem blk_e {i : Nat} {a : AP} {x : Int32} (hi : i < 9) (hx : x = nI (aS a)) : x ||| ((1 : Int32) <<< (nI i &&& 31)) = nI (aS a ||| 2 ^ i) := by
  rw [hx, shl9 i (by omega), fa_or]
theorem sp_block {t : PT} {a : AP} {i : Nat} {post : PT → Prop} (h : RP t a) (g : GP a) (hi : i < aN a) (k : ∀ t', RP t' (blkA a i) → post t') : p_X3_block t (nI i) post := by
  have h9 := g.1
  unfold p_X3_block
  exact sp_there_t h g hi (br_f (by decide) (nm_in (fun s e => k _ (h.setS (e.trans (blk_e (by omega) h.2.2.1))))))
def bitI (i : Nat) : Int32 := (1 : Int32) <<< (nI i &&& 31)
theorem or0 (x : Int32) : x ||| (0 : Int32) = x := Int32.or_zero
def wbS (a : AP) (f : F1) (k i : Nat) (s : Int32) : Int32 := if bt2 (aS a) i = 0 ∧ rowN f (blkA a i) k = 0 then s ||| bitI i else s
theorem okk_whichBlocked : ok_whichBlocked Inv := by
  rintro ⟨n, m, q, hh, P, le, nu, rf, pq⟩ ⟨c, th, le6, qz, ks, hi, td, ro, se, rf6, kp, ig, ts, tf, hd, gn⟩ ⟨a, hS, hT, g, ho, hrf, hle, hro, him, hpa⟩
  dsimp only at hS hT hrf hle hro him hpa
  have h9 := g.1
  have s5 := g.s512
  obtain ⟨k, hk, e1, e2, hv⟩ := id hro
  have hv5 : ∀ i, i < k → ∃ v, v < 100 ∧ nu.1 i = nI v ∧ nu.1 i = nI v := fun i hi => by
    obtain ⟨v, v1, v2, v3⟩ := hv i hi
    exact ⟨v, v1, v2, v2⟩
  have wt : ∀ {s : Int32} {j : Nat}, s = pre (wbS a nu.1 k) 0 j → bt2 (aS a) j = 0 → rowP nu.1 k (blkA a j) → s ||| bitI j = pre (wbS a nu.1 k) 0 (j + 1) := by
    intro s j h1 h2 h3
    show _ = wbS a nu.1 k j (pre (wbS a nu.1 k) 0 j)
    rw [← h1]
    exact (if_pos ⟨h2, (row_iff _ _ _).mpr h3⟩).symm
  have wf : ∀ {s : Int32} {j : Nat}, s = pre (wbS a nu.1 k) 0 j → ¬ (bt2 (aS a) j = 0 ∧ rowP nu.1 k (blkA a j)) → s = pre (wbS a nu.1 k) 0 (j + 1) := by
    intro s j h1 h2
    show _ = wbS a nu.1 k j (pre (wbS a nu.1 k) 0 j)
    rw [← h1]
    exact (if_neg (fun h => h2 ⟨h.1, (row_iff _ _ _).mp h.2⟩)).symm
  unfold p_X5_whichBlocked
  refine lpN_up (aN a) (fun j z => z.1 = pre (wbS a nu.1 k) 0 j ∧ z.2.1 = nI j) (by omega) ?_ ?_ _ ⟨rfl, rfl⟩
  · rintro K j ⟨x, y, t⟩ hj ⟨w1, w2⟩ hK
    dsimp only at w1 w2
    subst w2
    refine sp_houses hS (bLe (aN a) j rfl rfl (by omega) (by omega) (fun w => absurd w (by omega)) (fun _ => sp_isBlk hS g hj ?_))
    rcases bt2_or (aS a) j with b | b
    · rw [b]
      refine br_t rfl (sp_think5 hS (fun m1 hm1 => sp_block hm1 g hj (fun m2 hm2 => sp_rowT hm2 (g.blk hj) e1 hk hv5 (fun r m3 => ?_) (fun r m3 => ?_))))
      · exact br_f (show ¬ (1 : Int32) = 0 by decide) (nm_in (fun v ev => hK _ ⟨ev.trans (wt w1 b r), nI_1 j⟩))
      · exact br_t rfl (hK _ ⟨wf w1 (fun h => r h.2), nI_1 j⟩)
    · rw [b]
      exact br_f (by decide) (hK _ ⟨wf w1 (fun h => by rw [b] at h; exact absurd h.1 (by decide)), nI_1 j⟩)
  · rintro K ⟨x, y, t⟩ ⟨w1, w2⟩
    dsimp only at w1 w2
    subst w2
    refine sp_houses hS (bLe (aN a) (aN a) rfl rfl (by omega) (by omega) (fun _ => ?_) (fun w => absurd w (by omega)))
    unfold p_X6_whichBlocked
    refine sp_think6 hT (fun c' ks' kp' hc hkk => ?_)
    refine lpN_up (aN a) (fun j (x, i, k1, k2, k3, k4, k5, k6, k7, k8, k9, k0, _, _, _, kk) => x = pre (wbS a nu.1 k) 0 j ∧ i = nI j ∧ RP (k1, k2, k3, k4, k5, k6, k7, k8, k9, k0) a ∧ RK kk a) (by omega) ?_ ?_ _ ⟨rfl, rfl, hc, hkk⟩
    · rintro K j ⟨x, i, k1, k2, k3, k4, k5, k6, k7, k8, k9, k0, l1, l2, l3, kk⟩ hj ⟨w1, w2, w3, w4⟩ hK
      subst w2
      refine bLe (aN a) j w3.2.1 rfl (by omega) (by omega) (fun w => absurd w (by omega)) (fun _ => sp_hasBitE (s := aS a) w3.2.2.1 (by omega) (by omega) ?_)
      rcases bt2_or (aS a) j with b | b
      · rw [b]
        refine br_t rfl (nm_in (fun st est => ?_))
        have hb := w3.setS (s := aS a ||| 2 ^ j) (est.trans (blk_e (by omega) w3.2.2.1))
        refine sp_isRow (b := blkA a j) hb (g.blk hj) w4 e2 hk hv (fun t' ks2 r ht' hr => ?_)
        rcases hr with ⟨rfl, hr⟩ | ⟨rfl, hr⟩
        · exact br_f (show ¬ (1 : Int32) = 0 by decide) (nm_in (fun v ev => hK _ ⟨ev.trans (wt w1 b hr), nI_1 j, ht', w4⟩))
        · exact br_t rfl (nm_in (fun v ev => hK _ ⟨(ev.trans (or0 x)).trans (wf w1 (fun h => hr h.2)), nI_1 j, ht', w4⟩))
      · rw [b]
        exact br_f (by decide) (hK _ ⟨wf w1 (fun h => by rw [b] at h; exact absurd h.1 (by decide)), nI_1 j, w3, w4⟩)
    · rintro K ⟨x2, i, k1, k2, k3, k4, k5, k6, k7, k8, k9, k0, l1, l2, l3, kk⟩ ⟨w1', w2, w3, w4⟩
      subst w2
      exact bLe (aN a) (aN a) w3.2.1 rfl (by omega) (by omega) (fun _ => ⟨w1.trans w1'.symm, a, hS, w3, g, ho, hrf, hle, hro, him, hpa⟩) (fun w => absurd w (by omega))
