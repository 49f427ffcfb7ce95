theorem flows_1 (a : AP) (j : Nat) : flowsA a (j + 1) = flowA (flowsA a j) := rfl
theorem okk_reaches : ok_reaches Inv := by
  rintro ⟨n, m, q, hh, P, le, nu, rf, pq⟩ ⟨c, th, le6, qz, ks, hi, td, ro, se, rf6, kp, ig, ts, tf, hd, gn⟩ p1 p2 ⟨a, hS, hT, g, ho, hrf, hle, hro, him, hpa⟩
  dsimp only at hS hT hrf hle hro him hpa
  have h9 := g.1
  unfold p_X5_reaches
  rcases house_or a p1 with ⟨i, hii, rfl⟩ | hn
  · refine sp_there_t hS g hii (br_f (by decide) ?_)
    rcases out3 p2 1 99 (by omega) (by omega) with ⟨w, hw1, hw, rfl⟩ | h | ⟨h1, h2⟩
    · obtain ⟨d, hd1, hd2, hd3⟩ := first_or (fun j => aH (flowsA a j) i < w) 61
      have hh9 : ∀ j, aH (flowsA a j) i < 100 := fun j => ((g.flows j).2.1 i (by omega)).2.2.1
      have mod : ∀ m', p_X6_reaches c th ks rf6 kp (nI i) (nI w) (fun (r2 : Int32) (u2 : PT × Int32 × KS × F1 × F1) => (if d = 61 then (-9 : Int32) else nI d) = r2 ∧ Inv (n, m', q, hh, P, le, nu, rf, pq) (u2.1, u2.2.1, le6, qz, u2.2.2.1, hi, td, ro, se, u2.2.2.2.1, u2.2.2.2.2, ig, ts, tf, hd, gn)) := by
        intro m'
        unfold p_X6_reaches
        refine sp_isH_t hT g hii (br_f (by decide) (sp_wn_ok (lo := 1) (hi := 99) hw1 hw (by omega) (br_t (by decide) (sp_think6 hT (fun c' ks' kp' hc hkk => ?_)))))
        have stp : ∀ (j : Nat) (t : PT), RP t (hoursA a j) → t.2.2.1 (nI i).toNatClampNeg = nI (aH (flowsA a j) i) := fun j t ht => ht.h (by omega)
        rcases hd3 with rfl | ⟨hd3, hd4⟩
        · refine lpN_up 61 (fun j z => z.2.1 = nI j ∧ RP z.2.2 (hoursA a j) ∧ z.1 = -9) (by decide) ?_ ?_ _ ⟨rfl, hc, rfl⟩
          · rintro K j ⟨x, y, t⟩ hj ⟨e1, e2, e3⟩ hK
            dsimp only at e1 e2 e3
            subst e1; subst e3
            refine bLt 60 j rfl rfl (by omega) (by omega) (fun w => absurd w (by omega)) (fun _ => br_f (show ¬ (0 : Int32) ≤ -9 by decide) ⟨vin9 (by omega), ?_⟩)
            refine bLt (aH (flowsA a j) i) w (stp j t e2) rfl (by have := hh9 j; omega) (by omega) (fun _ => ?_) (fun w => absurd (hd2 j hj) (Nat.not_lt.mpr w))
            exact sp_hour0 e2 (g.hours j) (fun t' ht' _ => hK _ ⟨nI_1 j, by rw [tick_hours] at ht'; exact ht', rfl⟩)
          · rintro K ⟨x, y, t⟩ ⟨e1, e2, e3⟩
            dsimp only at e1 e2 e3
            subst e1; subst e3
            exact bLt 60 61 rfl rfl (by omega) (by omega) (fun _ => sp_again6 hkk (fun t3 ks3 ht3 => ⟨rfl, a, hS, ht3, g, ho, hrf, hle, hro, him, hpa⟩)) (fun w => absurd w (by omega))
        · rw [if_neg (by omega)]
          refine lpN_up (d + 1) (fun j z => z.2.1 = nI j ∧ RP z.2.2 (hoursA a j) ∧ ((j ≤ d ∧ z.1 = -9) ∨ (j = d + 1 ∧ z.1 = nI d))) (by omega) ?_ ?_ _ ⟨rfl, hc, Or.inl ⟨Nat.zero_le _, rfl⟩⟩
          · rintro K j ⟨x, y, t⟩ hj ⟨e1, e2, e3⟩ hK
            dsimp only at e1 e2 e3
            rcases e3 with ⟨-, e3⟩ | ⟨e3, -⟩
            · subst e1; subst e3
              refine bLt 60 j rfl rfl (by omega) (by omega) (fun w => absurd w (by omega)) (fun _ => br_f (show ¬ (0 : Int32) ≤ -9 by decide) ⟨vin9 (by omega), ?_⟩)
              refine bLt (aH (flowsA a j) i) w (stp j t e2) rfl (by have := hh9 j; omega) (by omega) (fun w2 => ?_) (fun w2 => ?_)
              · refine sp_hour0 e2 (g.hours j) (fun t' ht' _ => hK _ ⟨nI_1 j, by rw [tick_hours] at ht'; exact ht', Or.inl ⟨?_, rfl⟩⟩)
                rcases Nat.lt_or_ge j d with b | b
                · omega
                · exact absurd w2 (by rw [show j = d by omega]; exact hd4)
              · refine sp_hour0 e2 (g.hours j) (fun t' ht' _ => hK _ ⟨nI_1 j, by rw [tick_hours] at ht'; exact ht', Or.inr ?_⟩)
                rcases Nat.lt_or_ge j d with b | b
                · exact absurd (hd2 j b) (Nat.not_lt.mpr w2)
                · have ej : j = d := by omega
                  subst ej
                  exact ⟨rfl, rfl⟩
            · omega
          · rintro K ⟨x, y, t⟩ ⟨e1, e2, e3⟩
            dsimp only at e1 e2 e3
            rcases e3 with ⟨e3, -⟩ | ⟨-, e3⟩
            · omega
            · subst e1; subst e3
              exact bLt 60 (d + 1) rfl rfl (by omega) (by omega) (fun _ => sp_again6 hkk (fun t3 ks3 ht3 => ⟨rfl, a, hS, ht3, g, ho, hrf, hle, hro, him, hpa⟩)) (fun _ => br_t (nI_pos' (by omega)) (sp_again6 hkk (fun t3 ks3 ht3 => ⟨rfl, a, hS, ht3, g, ho, hrf, hle, hro, him, hpa⟩)))
      refine sp_out_ok (lo := 1) (hi := 99) hw1 hw (by omega) (br_t rfl (sp_think5 hS (fun m' hm => ?_)))
      refine lpN_up d (fun j z => z.1 = nI j ∧ RP z.2 (flowsA a j)) (by omega) ?_ ?_ _ ⟨rfl, hm⟩
      · rintro K j ⟨x, y⟩ hj ⟨e1, e2⟩ hK
        dsimp only at e1 e2
        subst e1
        refine bLt 60 j rfl rfl (by omega) (by omega) (fun w => absurd w (by omega)) (fun _ => sp_holdsOf e2 (g.flows j) (by rw [flows_N g]; exact hii) ?_)
        exact bLt (aH (flowsA a j) i) w rfl rfl (by have := hh9 j; omega) (by omega) (fun _ => sp_flow e2 (g.flows j) (fun t' ht' _ => hK _ ⟨nI_1 j, ht'⟩)) (fun w => absurd (hd2 j hj) (Nat.not_lt.mpr w))
      · rintro K ⟨x, y⟩ ⟨e1, e2⟩
        dsimp only at e1 e2
        subst e1
        rcases hd3 with rfl | ⟨hd3, hd4⟩
        · refine bLt 60 61 rfl rfl (by omega) (by omega) (fun _ => ?_) (fun w => absurd w (by omega))
          have z := mod y
          rw [if_pos rfl] at z
          exact z
        · refine bLt 60 d rfl rfl (by omega) (by omega) (fun w => absurd w (by omega)) (fun _ => sp_holdsOf e2 (g.flows d) (by rw [flows_N g]; exact hii) ?_)
          refine bLt (aH (flowsA a d) i) w rfl rfl (by have := hh9 d; omega) (by omega) (fun w => absurd w hd4) (fun _ => ?_)
          have z := mod y
          rw [if_neg (by omega)] at z
          exact z
    · refine sp_out_lo h (br_f (by decide) (sp_ref5 isR4 ?_))
      unfold p_X6_reaches
      refine sp_isH_t hT g hii (br_f (by decide) (sp_wn_lo h (br_f (by decide) (sp_ref6 isR4 ?_))))
      exact ⟨rfl, a, hS, hT, g, ho, hrf.s _, hle, hro, him, hpa⟩
    · refine sp_out_hi h1 h2 (br_f (by decide) (sp_ref5 isR6 ?_))
      unfold p_X6_reaches
      refine sp_isH_t hT g hii (br_f (by decide) (sp_wn_hi h1 h2 (br_f (by decide) (sp_ref6 isR6 ?_))))
      exact ⟨rfl, a, hS, hT, g, ho, hrf.s _, hle, hro, him, hpa⟩
  · refine sp_there_f hS g hn (br_t rfl (sp_ref5 isR1 ?_))
    unfold p_X6_reaches
    refine sp_isH_f hT g hn (br_t rfl (br_f (by decide) (sp_ref6 isR1 ?_)))
    exact ⟨rfl, a, hS, hT, g, ho, hrf.s _, hle, hro, him, hpa⟩
theorem okk_least : ok_least Inv := by
  rintro ⟨n, m, q, hh, P, le, nu, rf, pq⟩ ⟨c, th, le6, qz, ks, hi, td, ro, se, rf6, kp, ig, ts, tf, hd, gn⟩ p1 p2 ⟨a, hS, hT, g, ho, hrf, hle, hro, him, hpa⟩
  dsimp only at hS hT hrf hle hro him hpa
  have h9 := g.1
  unfold p_X5_least
  by_cases c1 : p1 < 0
  · refine br_t c1 (sp_ref5 isR4 ?_)
    unfold p_X6_least
    refine br_t c1 (br_f (by decide) (sp_ref6 isR4 ?_))
    exact ⟨rfl, a, hS, hT, g, ho, hrf.s _, hle, hro, him, hpa⟩
  by_cases c2 : (0 : Int32) ≤ p2
  case neg =>
    refine br_f c1 (br_f c2 (sp_ref5 isR4 ?_))
    unfold p_X6_least
    refine br_f c1 (br_f c2 (br_f (by decide) (sp_ref6 isR4 ?_)))
    exact ⟨rfl, a, hS, hT, g, ho, hrf.s _, hle, hro, him, hpa⟩
  by_cases c3 : (999 : Int32) < p1
  · refine br_f c1 (br_t c2 (br_t c3 (sp_ref5 isR6 ?_)))
    unfold p_X6_least
    refine br_f c1 (br_t c2 (br_t c3 (br_f (by decide) (sp_ref6 isR6 ?_))))
    exact ⟨rfl, a, hS, hT, g, ho, hrf.s _, hle, hro, him, hpa⟩
  by_cases c4 : p2 ≤ (60 : Int32)
  case neg =>
    refine br_f c1 (br_t c2 (br_f c3 (br_f c4 (sp_ref5 isR6 ?_))))
    unfold p_X6_least
    refine br_f c1 (br_t c2 (br_f c3 (br_f c4 (br_f (by decide) (sp_ref6 isR6 ?_)))))
    exact ⟨rfl, a, hS, hT, g, ho, hrf.s _, hle, hro, him, hpa⟩
  refine br_f c1 (br_t c2 (br_f c3 (br_t c4 (sp_houses hS ?_))))
  obtain ⟨w, hw, rfl⟩ := nI_of c1
  obtain ⟨z, hz, rfl⟩ := nI_of (Int32.not_lt.mpr c2)
  have hw9 : w ≤ 999 := by
    rcases Nat.lt_or_ge 999 w with b | b
    · exact absurd (nI_lt b hw) c3
    · exact b
  have hz6 : z ≤ 60 := by
    rcases Nat.lt_or_ge 60 z with b | b
    · exact absurd (nI_lt b hz) (Int32.not_lt.mpr c4)
    · exact b
  rcases Nat.eq_zero_or_pos (aN a) with n0 | n0
  · refine br_t (by rw [n0]; rfl) ?_
    unfold p_X6_least
    refine br_f c1 (br_t c2 (br_f c3 (br_t c4 (br_t (by decide) (sp_think6 hT (fun c' ks' kp' hc hkk => ?_))))))
    refine lpN_up 0 (fun j zz => zz = ((-9 : Int32), (0 : Int32), c'.1, c'.2.1, c'.2.2.1, c'.2.2.2.1, c'.2.2.2.2.1, c'.2.2.2.2.2.1, c'.2.2.2.2.2.2.1, c'.2.2.2.2.2.2.2.1, c'.2.2.2.2.2.2.2.2.1, c'.2.2.2.2.2.2.2.2.2, ks'.1, ks'.2.1, ks'.2.2, kp')) (by decide) (fun K i s h => absurd h (Nat.not_lt_zero _)) ?_ _ rfl
    rintro K s rfl
    refine br_f (show ¬ (100 : Int32) ≤ 0 by decide) (br_f (show ¬ (0 : Int32) ≤ -9 by decide) (br_t ?_ ?_))
    · show c'.2.2.2.2.1 ≤ 0
      rw [hc.2.1, n0]; decide
    · exact ⟨rfl, a, hS, hc, g, ho, hrf, hle, hro, him, hpa⟩
  refine br_f (nI_ne0 n0 (by omega)) ?_
  have gf : ∀ v, GP (fillA a 0 v) := fun v => g.fill n0
  have cb : ∀ v, aC (flowsA (fillA a 0 v) z) ≤ 9999 := fun v => ((gf v).flows z).2.2.2.2.2
  obtain ⟨d, hd1, hd2, hd3⟩ := first_or (fun v => aC (flowsA (fillA a 0 v) z) < w) 100
  have mod : ∀ m', p_X6_least c th ks rf6 kp (nI w) (nI z) (fun (r2 : Int32) (u2 : PT × Int32 × KS × F1 × F1) => (if d = 100 then (-9 : Int32) else nI d) = r2 ∧ Inv (n, m', q, hh, P, le, nu, rf, pq) (u2.1, u2.2.1, le6, qz, u2.2.2.1, hi, td, ro, se, u2.2.2.2.1, u2.2.2.2.2, ig, ts, tf, hd, gn)) := by
    intro m'
    unfold p_X6_least
    refine br_f c1 (br_t c2 (br_f c3 (br_t c4 (br_t (by decide) (sp_think6 hT (fun c' ks' kp' hc hkk => ?_))))))
    rcases hd3 with rfl | ⟨hd3, hd4⟩
    · refine lpN_up 100 (fun j (x, y, k1, k2, k3, k4, k5, k6, k7, k8, k9, k0, _, _, _, kk) => x = (-9 : Int32) ∧ y = nI j ∧ RP (k1, k2, k3, k4, k5, k6, k7, k8, k9, k0) a ∧ RK kk a) (by decide) ?_ ?_ _ ⟨rfl, rfl, hc, hkk⟩
      · rintro K j ⟨x, y, k1, k2, k3, k4, k5, k6, k7, k8, k9, k0, l1, l2, l3, kk⟩ hj ⟨e1, e2, e3, e4⟩ hK
        subst e1; subst e2
        refine bLe 100 j rfl rfl (by omega) (by omega) (fun w => absurd w (by omega)) (fun _ => br_f (show ¬ (0 : Int32) ≤ -9 by decide) (br_f (show ¬ k5 ≤ 0 by rw [show k5 = nI (aN a) from e3.2.1]; exact nI_nle n0 (by omega)) ?_))
        refine sp_pourIn (i := 0) (v := j) e3 g n0 (by omega) (fun t' ht' _ => sp_cupThen (n := z) ht' (gf j) e4 (by omega) (fun t2 ks2 ht2 => ?_))
        exact bLt (aC (flowsA (fillA a 0 j) z)) w rfl rfl (by have := cb j; omega) (by omega) (fun _ => hK _ ⟨rfl, nI_1 j, ht2, e4⟩) (fun w => absurd (hd2 j hj) (Nat.not_lt.mpr w))
      · rintro K ⟨x, y, k1, k2, k3, k4, k5, k6, k7, k8, k9, k0, l1, l2, l3, kk⟩ ⟨e1, e2, e3, e4⟩
        subst e1; subst e2
        exact bLe 100 100 rfl rfl (by omega) (by omega) (fun _ => ⟨rfl, a, hS, e3, g, ho, hrf, hle, hro, him, hpa⟩) (fun w => absurd w (by omega))
    · rw [if_neg (by omega)]
      refine lpN_up (d + 1) (fun j (x, y, k1, k2, k3, k4, k5, k6, k7, k8, k9, k0, _, _, _, kk) => ((j ≤ d ∧ x = (-9 : Int32)) ∨ (j = d + 1 ∧ x = nI d)) ∧ y = nI j ∧ RP (k1, k2, k3, k4, k5, k6, k7, k8, k9, k0) a ∧ RK kk a) (by omega) ?_ ?_ _ ⟨Or.inl ⟨Nat.zero_le _, rfl⟩, rfl, hc, hkk⟩
      · rintro K j ⟨x, y, k1, k2, k3, k4, k5, k6, k7, k8, k9, k0, l1, l2, l3, kk⟩ hj ⟨e1, e2, e3, e4⟩ hK
        rcases e1 with ⟨-, e1⟩ | ⟨e1, -⟩
        · subst e1; subst e2
          refine bLe 100 j rfl rfl (by omega) (by omega) (fun w => absurd w (by omega)) (fun _ => br_f (show ¬ (0 : Int32) ≤ -9 by decide) (br_f (show ¬ k5 ≤ 0 by rw [show k5 = nI (aN a) from e3.2.1]; exact nI_nle n0 (by omega)) ?_))
          refine sp_pourIn (i := 0) (v := j) e3 g n0 (by omega) (fun t' ht' _ => sp_cupThen (n := z) ht' (gf j) e4 (by omega) (fun t2 ks2 ht2 => ?_))
          refine bLt (aC (flowsA (fillA a 0 j) z)) w rfl rfl (by have := cb j; omega) (by omega) (fun w2 => hK _ ⟨Or.inl ⟨?_, rfl⟩, nI_1 j, ht2, e4⟩) (fun w2 => hK _ ⟨Or.inr ?_, nI_1 j, ht2, e4⟩)
          · rcases Nat.lt_or_ge j d with b | b
            · omega
            · exact absurd w2 (by rw [show j = d by omega]; exact hd4)
          · rcases Nat.lt_or_ge j d with b | b
            · exact absurd (hd2 j b) (Nat.not_lt.mpr w2)
            · have ej : j = d := by omega
              subst ej
              exact ⟨rfl, rfl⟩
        · omega
      · rintro K ⟨x, y, k1, k2, k3, k4, k5, k6, k7, k8, k9, k0, l1, l2, l3, kk⟩ ⟨e1, e2, e3, e4⟩
        rcases e1 with ⟨e1, -⟩ | ⟨-, e1⟩
        · omega
        · subst e1; subst e2
          exact bLe 100 (d + 1) rfl rfl (by omega) (by omega) (fun _ => ⟨rfl, a, hS, e3, g, ho, hrf, hle, hro, him, hpa⟩) (fun _ => br_t (nI_pos' (by omega)) ⟨rfl, a, hS, e3, g, ho, hrf, hle, hro, him, hpa⟩)
  have stp : ∀ (j : Nat) (t : PT) {Q : Int32 → PT → Prop}, j < 100 → (∀ t', Q (nI (aC (flowsA (fillA a 0 j) z))) t') → p_X5_think n t (fun (u11 : PT) => p_X3_fill u11 (0 : Int32) (nI j) (fun (_ : Int32) (u13 : PT) => p_X5_cupBehind u13 (nI z) Q)) := fun j t Q hj h => sp_think5 hS (fun m' hm => sp_fill (i := 0) hm g n0 (by omega) (fun t' ht' _ => sp_cupBehind ht' (gf j) (by omega) (fun t2 _ => h t2)))
  refine lpN_up d (fun j z => z.1 = nI j) (by omega) ?_ ?_ _ rfl
  · rintro K j ⟨x, y⟩ hj e1 hK
    dsimp only at e1
    subst e1
    exact bLt 99 j rfl rfl (by omega) (by omega) (fun w => absurd w (by omega)) (fun _ => stp j y (by omega) (fun t' => bLt (aC (flowsA (fillA a 0 j) z)) w rfl rfl (by have := cb j; omega) (by omega) (fun _ => hK _ (nI_1 j)) (fun w => absurd (hd2 j hj) (Nat.not_lt.mpr w))))
  · rintro K ⟨x, y⟩ e1
    dsimp only at e1
    subst e1
    rcases hd3 with rfl | ⟨hd3, hd4⟩
    · refine bLt 99 100 rfl rfl (by omega) (by omega) (fun _ => ?_) (fun w => absurd w (by omega))
      have z := mod y
      rw [if_pos rfl] at z
      exact z
    · refine bLt 99 d rfl rfl (by omega) (by omega) (fun w => absurd w (by omega)) (fun _ => stp d y (by omega) (fun t' => bLt (aC (flowsA (fillA a 0 d) z)) w rfl rfl (by have := cb d; omega) (by omega) (fun w => absurd w hd4) (fun _ => ?_)))
      have z := mod t'
      rw [if_neg (by omega)] at z
      exact z
