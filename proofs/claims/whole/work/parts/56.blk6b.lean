set_option maxHeartbeats 1000000 in
theorem okk_blocked : ok_blocked Inv := by
  rintro ⟨n, m, q, hh, P, le, nu, rf, pq⟩ ⟨c, th, le6, qz, ks, hi, td, ro, se, rf6, kp, ig, ts, tf, hd, gn⟩ p1 p2 p3 p4 ⟨a, hS, hT, g, ho, hrf, hle, hro, him, hpa⟩
  dsimp only at hS hT hrf hle hro him hpa
  have h9 := g.1
  unfold p_X5_blocked
  by_cases c1 : p1 < 0
  · refine br_t c1 (sp_refL5 isR4 ?_)
    unfold p_X6_blocked
    refine br_t c1 (sp_wb_no (by decide) (br_f (by decide) (sp_ref6 isR4 ?_)))
    exact ⟨rfl, a, hS, hT, g, ho, hrf.s _, hle, hro, him, hpa⟩
  by_cases c2 : p2 < 2
  · refine br_f c1 (br_t c2 (sp_refL5 isR4 ?_))
    unfold p_X6_blocked
    refine br_f c1 ⟨fun _ => sp_wb_no (by decide) (br_f (by decide) (sp_ref6 isR4 ?_)), fun _ => br_f (Int32.not_le.mpr c2) (sp_wb_no (by decide) (br_f (by decide) (sp_ref6 isR4 ?_)))⟩
    · exact ⟨rfl, a, hS, hT, g, ho, hrf.s _, hle, hro, him, hpa⟩
    · exact ⟨rfl, a, hS, hT, g, ho, hrf.s _, hle, hro, him, hpa⟩
  have c2' : (2 : Int32) ≤ p2 := Int32.not_lt.mp c2
  by_cases c3 : (0 : Int32) ≤ p3
  case neg =>
    refine br_f c1 (br_f c2 (br_f c3 (sp_refL5 isR4 ?_)))
    unfold p_X6_blocked
    refine br_f c1 (br_t (Int32.not_le.mp c3) (sp_wb_no (by decide) (br_f (by decide) (sp_ref6 isR4 ?_))))
    exact ⟨rfl, a, hS, hT, g, ho, hrf.s _, hle, hro, him, hpa⟩
  have c3' : ¬ p3 < 0 := Int32.not_lt.mpr c3
  by_cases c4 : (7 : Int32) < p1
  · refine br_f c1 (br_f c2 (br_t c3 (br_t c4 (sp_refL5 isR6 ?_))))
    unfold p_X6_blocked
    refine br_f c1 (br_f c3' (br_t c2' (br_t c4 (sp_wb_no (by decide) (br_f (by decide) (sp_ref6 isR6 ?_))))))
    exact ⟨rfl, a, hS, hT, g, ho, hrf.s _, hle, hro, him, hpa⟩
  by_cases c5 : (20 : Int32) < p2
  · refine br_f c1 (br_f c2 (br_t c3 (br_f c4 (br_t c5 (sp_refL5 isR6 ?_)))))
    unfold p_X6_blocked
    refine br_f c1 (br_f c3' (br_t c2' (br_f c4 (br_t c5 (sp_wb_no (by decide) (br_f (by decide) (sp_ref6 isR6 ?_)))))))
    exact ⟨rfl, a, hS, hT, g, ho, hrf.s _, hle, hro, him, hpa⟩
  by_cases c6 : p3 ≤ (999 : Int32)
  case neg =>
    refine br_f c1 (br_f c2 (br_t c3 (br_f c4 (br_f c5 (br_f c6 (sp_refL5 isR6 ?_))))))
    unfold p_X6_blocked
    refine br_f c1 (br_f c3' (br_t c2' (br_f c4 (br_f c5 (br_f c6 (sp_wb_no (by decide) (br_f (by decide) (sp_ref6 isR6 ?_))))))))
    exact ⟨rfl, a, hS, hT, g, ho, hrf.s _, hle, hro, him, hpa⟩
  refine br_f c1 (br_f c2 (br_t c3 (br_f c4 (br_f c5 (br_t c6 ?_)))))
  rcases in_or p4 1 with ⟨u, hu, rfl⟩ | hu
  case inr =>
    refine br_f (hu 0 (by omega)) (br_f (hu 1 (by omega)) (sp_refL5 isR2 ?_))
    unfold p_X6_blocked
    refine br_f c1 (br_f c3' (br_t c2' (br_f c4 (br_f c5 (br_t c6 (sp_wb_f (M := 1) (by omega) hu (br_f (by decide) (sp_ref6 isR2 ?_))))))))
    exact ⟨rfl, a, hS, hT, g, ho, hrf.s _, hle, hro, him, hpa⟩
  obtain ⟨N, hN0, rfl⟩ := nI_of c1
  obtain ⟨c', hc0, rfl⟩ := nI_of c3'
  obtain ⟨p, hp0, rfl⟩ := nI_of (x := p2) (fun h => c2 (Int32.lt_of_lt_of_le h (by decide)))
  have hN : N ≤ 7 := by
    rcases Nat.lt_or_ge 7 N with b | b
    · exact absurd (nI_lt b hN0) c4
    · exact b
  have hp : p ≤ 20 := by
    rcases Nat.lt_or_ge 20 p with b | b
    · exact absurd (nI_lt b hp0) c5
    · exact b
  have hp2 : 2 ≤ p := by
    rcases Nat.lt_or_ge p 2 with b | b
    · exact absurd (nI_lt (b := 2) b (by decide)) c2
    · exact b
  have hc : c' ≤ 999 := by
    rcases Nat.lt_or_ge 999 c' with b | b
    · exact absurd (nI_lt b hc0) (Int32.not_lt.mpr c6)
    · exact b
  obtain ⟨q', rfl⟩ : ∃ q', p = q' + 1 := ⟨p - 1, by omega⟩
  have go : ∀ (A B : Prop), A → (nI u = 0 → A) ∧ (¬ nI u = 0 → (nI u = (1 : Int32) → A) ∧ (¬ nI u = (1 : Int32) → B)) := by
    intro A B h
    match u, hu with
    | 0, _ => exact br_t rfl h
    | 1, _ => exact br_f (by decide) (br_t rfl h)
  refine go _ _ (sp_think5 hS (fun m1 hm1 => blk5 (rf := rf) (post := fun (r1 : Int64) (u1 : PT × F1) => p_X6_blocked c th ks rf6 kp (nI N) (nI (q' + 1)) (nI c') (nI u) (fun (r2 : Int64) (u2 : PT × Int32 × KS × F1 × F1) => r1 = r2 ∧ Inv (n, u1.1, q, hh, P, le, nu, u1.2, pq) (u2.1, u2.2.1, le6, qz, u2.2.2.1, hi, td, ro, se, u2.2.2.2.1, u2.2.2.2.2, ig, ts, tf, hd, gn))) hm1 g hN rfl hp hc hu (fun m' => ?_)))
  unfold p_X6_blocked
  refine br_f c1 (br_f c3' (br_t c2' (br_f c4 (br_f c5 (br_t c6 (sp_wb_t (M := 1) hu (by omega) (br_t (by decide) ?_)))))))
  refine lpN_up N (fun j z => z.1 = nL ((q' + 1) ^ j) ∧ z.2 = nI j) (by omega) ?_ ?_ _ ⟨rfl, rfl⟩
  · rintro K j ⟨y, x⟩ hj ⟨e1, e2⟩ hK
    dsimp only at e1 e2
    subst e1; subst e2
    refine bLe N j rfl rfl (by omega) (by omega) (fun w => absurd w (by omega)) (fun _ => nm_in (fun v ev => hK _ ⟨?_, nI_1 j⟩))
    refine ev.trans ?_
    rw [nI_L (by omega), nL_mul, Nat.pow_succ]
  rintro K ⟨y, x⟩ ⟨e1, e2⟩
  dsimp only at e1 e2
  subst e1; subst e2
  refine bLe N N rfl rfl (by omega) (by omega) (fun _ => sp_think6 hT (fun c0 ks' kp' hc0' hkk => ?_)) (fun w => absurd w (by omega))
  have b128 : 2 ^ N ≤ 128 := Nat.pow_le_pow_right (n := 2) (by decide) hN
  have sh : (1 : Int32) <<< (nI N &&& 31) = nI (2 ^ N) := shl9 N (by omega)
  refine lpN_up (2 ^ N) (fun j (y, x, k1, k2, k3, k4, k5, k6, k7, k8, k9, k0, _, _, _, kk) => y = nL (mskN (wB a c' q') N j) ∧ x = nI j ∧ RP (k1, k2, k3, k4, k5, k6, k7, k8, k9, k0) a ∧ RK kk a) (by omega) ?_ ?_ _ ⟨rfl, rfl, hc0', hkk⟩
  · rintro K2 j ⟨y, x, k1, k2, k3, k4, k5, k6, k7, k8, k9, k0, l1, l2, l3, kk⟩ hj ⟨w1, w2, w3, w4⟩ hK2
    subst w1; subst w2
    refine bLe (2 ^ N) j sh rfl (by omega) (by omega) (fun w => absurd w (by omega)) (fun _ => ?_)
    refine lpN_up N (fun i z => z.1 = nL (q' ^ zerN j i) ∧ z.2.1 = nI i ∧ RP z.2.2 (mixA a j i)) (by omega) ?_ ?_ _ ⟨rfl, rfl, w3⟩
    · rintro K3 i ⟨y, x, t⟩ hi2 ⟨z1, z2, z3⟩ hK3
      dsimp only at z1 z2 z3
      subst z1; subst z2
      have gm := g.mix j i
      refine bLe N i rfl rfl (by omega) (by omega) (fun w => absurd w (by omega)) (fun _ => sp_hasBit (by omega) (by omega) ?_)
      rcases bt2_or j i with b | b
      · rw [b]
        refine br_t rfl (nm_in (fun v ev => sp_hasBit (by omega) (by omega) ?_))
        rw [b]
        refine sp_hour0 z3 gm (fun t' ht' _ => hK3 _ ⟨?_, nI_1 i, by rw [mix_0 b] at ht'; exact ht'⟩)
        refine ev.trans ?_
        show nL (q' ^ zerN j i) * (nI (q' + 1) - 1).toInt64 = _
        rw [show nI (q' + 1) - 1 = nI q' from nI_subN (a := q' + 1) (b := 1) (by omega), nI_L (by omega), nL_mul, zer_s, if_pos b, Nat.pow_succ]
      · rw [b]
        refine br_f (by decide) (nm_in (fun v ev => sp_hasBit (by omega) (by omega) ?_))
        rw [b]
        refine sp_hour1 z3 gm (fun t' ht' => hK3 _ ⟨?_, nI_1 i, by rw [mix_1 (by omega)] at ht'; exact ht'⟩)
        refine ev.trans ?_
        rw [zer_s, if_neg (by omega)]
        exact Int64.mul_one _
    · rintro K3 ⟨y, x, t⟩ ⟨z1, z2, z3⟩
      dsimp only at z1 z2 z3
      subst z1; subst z2
      have cl := (g.flows (zerN j N)).2.2.2.2.2
      have cu : t.2.2.2.2.2.2.2.1 = nI (aC (flowsA a (zerN j N))) := z3.2.2.2.2.1
      refine bLe N N rfl rfl (by omega) (by omega) (fun _ => ?_) (fun w => absurd w (by omega))
      refine bLt (aC (flowsA a (zerN j N))) c' cu rfl (by omega) (by omega) (fun w => nm_in (fun v ev => sp_again6 w4 (fun t3 ks3 ht3 => hK2 _ ⟨?_, nI_1 j, ht3, w4⟩))) (fun w => nm_in (fun v ev => sp_again6 w4 (fun t3 ks3 ht3 => hK2 _ ⟨?_, nI_1 j, ht3, w4⟩)))
      · refine ev.trans ?_
        show _ = nL (mskN (wB a c' q') N j + wB a c' q' (zerN j N))
        rw [show wB a c' q' (zerN j N) = 0 from if_neg (by omega), Nat.add_zero]
        exact Int64.add_zero _
      · refine ev.trans ?_
        show _ = nL (mskN (wB a c' q') N j + wB a c' q' (zerN j N))
        rw [show wB a c' q' (zerN j N) = q' ^ zerN j N from if_pos w, ← nL_add]
  · rintro K2 ⟨y, x, k1, k2, k3, k4, k5, k6, k7, k8, k9, k0, l1, l2, l3, kk⟩ ⟨w1, w2, w3, w4⟩
    subst w1; subst w2
    have bl := bs_le (a := a) (p := c') (q := q') hN
    have pl := p7 hp hN
    refine bLe (2 ^ N) (2 ^ N) sh rfl (by omega) (by omega) (fun _ => ?_) (fun w => absurd w (by omega))
    rw [sums _ N hN]
    exact sp_part6 (by omega) pl hu ⟨rfl, a, hS, w3, g, ho, hrf, hle, hro, him, hpa⟩
