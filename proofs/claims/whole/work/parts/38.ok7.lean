def resS (d : Nat) : Int32 := if d = 51 then -9 else nI d
theorem settled5 {n m : PT} {a : AP} {d : Nat} {post : Int32 → PT → Prop} (h : RP n a) (g : GP a) (hd1 : d ≤ 51) (hd2 : ∀ j, j < d → flwd (flowsA a j) ≠ 0) (hd3 : d = 51 ∨ (d < 51 ∧ ¬ flwd (flowsA a d) ≠ 0)) (k : ∀ m', post (resS d) m') : p_X5_settledAfter n m post := by
  have cb : ∀ j, flwd (flowsA a j) ≤ 1 := fun j => flwd_le (g.flows j)
  unfold p_X5_settledAfter
  refine sp_think5 h (fun m' hm => srch5 (a := a) (by omega) hd2 (fun K j t hj ht hP hK => ?_) (fun K t ht => ?_) m' hm)
  · exact bLt 50 j rfl rfl (by omega) (by omega) (fun w => absurd w (by omega)) (fun _ => sp_flow ht (g.flows j) (fun t' ht' _ => eq0 (flwd (flowsA a j)) rfl (by have := cb j; omega) (fun w => absurd w hP) (fun _ => hK t' ht')))
  · unfold resS at k
    rcases hd3 with rfl | ⟨hd3, hd4⟩
    · exact bLt 50 51 rfl rfl (by omega) (by omega) (fun _ => k t) (fun w => absurd w (by omega))
    · rw [if_neg (by omega)] at k
      exact bLt 50 d rfl rfl (by omega) (by omega) (fun w => absurd w (by omega)) (fun _ => sp_flow ht (g.flows d) (fun t' ht' _ => eq0 (flwd (flowsA a d)) rfl (by have := cb d; omega) (fun _ => k t') (fun w => absurd w hd4)))
set_option maxHeartbeats 1000000 in
theorem settled6 {c : PT} {ks : KS} {kp hv : F1} {a : AP} {d : Nat} {post : Int32 → PT × KS × F1 × F1 → Prop} (h : RP c a) (g : GP a) (hd1 : d ≤ 51) (hd2 : ∀ j, j < d → flwd (flowsA a j) ≠ 0) (hd3 : d = 51 ∨ (d < 51 ∧ ¬ flwd (flowsA a d) ≠ 0)) (k : ∀ c' ks' kp' hv', RP c' a → post (resS d) (c', ks', kp', hv')) : p_X6_settledIn c ks kp hv post := by
  have h9 := g.1
  obtain ⟨N, hN⟩ : ∃ N, (d = 51 ∧ N = 60) ∨ (d < 51 ∧ N = d + 10) := by
    rcases hd3 with q | q
    · exact ⟨60, Or.inl ⟨q, rfl⟩⟩
    · exact ⟨d + 10, Or.inr ⟨q.1, rfl⟩⟩
  have stay : ∀ j, d < 51 → d ≤ j → flwd (flowsA a j) = 0 := by
    intro j q hj
    rcases hd3 with e | ⟨-, e⟩
    · omega
    · have e0 : flwd (flowsA a d) = 0 := Decidable.not_not.mp e
      have z := flows_stay e0 (j - d)
      rw [show d + (j - d) = j by omega] at z
      rw [z]; exact e0
  unfold p_X6_settledIn
  refine sp_think6 h (fun c' ks' kp' hc hkk => ?_)
  refine lpN_up N (fun j (x, y, z, k1, k2, k3, k4, k5, k6, k7, k8, k9, k0, _) => z = nI (j + 1) ∧ (∃ v, x = nI v ∧ v ≤ j ∧ min j d ≤ v ∧ (d < 51 → v ≤ d)) ∧ y = (if d < 51 ∧ j = d + 10 then nI d else (-9 : Int32)) ∧ RP (k1, k2, k3, k4, k5, k6, k7, k8, k9, k0) (hoursA a j)) (by omega) ?_ ?_ _ ⟨rfl, ⟨0, rfl, Nat.le_refl _, by omega, fun _ => Nat.zero_le _⟩, by rw [if_neg (by omega)], hc⟩
  · rintro K j ⟨x, y, z, k1, k2, k3, k4, k5, k6, k7, k8, k9, k0, f0⟩ hj ⟨e1, ⟨v, e2, v1, v2, v3⟩, e3, ht⟩ hK
    rw [if_neg (by omega)] at e3
    subst e1; subst e2; subst e3
    refine bLt 60 (j + 1) rfl rfl (by omega) (by omega) (fun w => absurd w (by omega)) (fun _ => br_f (show ¬ (0 : Int32) ≤ -9 by decide) ?_)
    have gj := g.flows j
    have nj : aN (flowsA a j) = aN a := flows_N g j
    have bu : k5 = nI (aN a) := by rw [← nj]; exact ht.2.1
    refine lpN_up (aN a) (fun i z => z.1 = nI i ∧ ∀ p, p < i → z.2 p = nI (aH (flowsA a j) p)) (by omega) ?_ ?_ _ ⟨rfl, fun p hp => absurd hp (Nat.not_lt_zero _)⟩
    · rintro K2 i ⟨u, f⟩ hi ⟨w1, w2⟩ hK2
      dsimp only at w1 w2
      subst w1
      refine bLe (aN a) i bu rfl (by omega) (by omega) (fun w => absurd w (by omega)) (fun _ => ⟨vin9 (by omega), vin9 (by omega), nm_in (fun f2 d2 => hK2 _ ⟨nI_1 i, fun p hp => ?_⟩)⟩)
      dsimp only
      rw [d2, cl_nI (by omega)]
      by_cases w : p = i
      · subst w; rw [pk_us]
        exact (ht.1 p (by omega)).2.2.1
      · rw [pk_un (by omega)]; exact w2 p (by omega)
    · rintro K2 ⟨u, f⟩ ⟨w1, w2⟩
      dsimp only at w1 w2
      subst w1
      refine bLe (aN a) (aN a) bu rfl (by omega) (by omega) (fun _ => ?_) (fun w => absurd w (by omega))
      refine sp_hour0 ht (g.hours j) (fun t' ht' _ => ?_)
      rw [tick_hours] at ht'
      have gs := g.hours (j + 1)
      have ns : aN (hoursA a (j + 1)) = aN a := flows_N g (j + 1)
      have fin : ∀ v', ((flwd (flowsA a j) = 0 ∧ v' = v) ∨ (flwd (flowsA a j) ≠ 0 ∧ v' = j + 1)) → ((nI (j + 1) - nI v' = (10 : Int32) → K (nI v', nI v', nI (j + 1) + 1, t'.1, t'.2.1, t'.2.2.1, t'.2.2.2.1, t'.2.2.2.2.1, t'.2.2.2.2.2.1, t'.2.2.2.2.2.2.1, t'.2.2.2.2.2.2.2.1, t'.2.2.2.2.2.2.2.2.1, t'.2.2.2.2.2.2.2.2.2, f)) ∧ (¬ nI (j + 1) - nI v' = (10 : Int32) → K (nI v', (-9 : Int32), nI (j + 1) + 1, t'.1, t'.2.1, t'.2.2.1, t'.2.2.2.1, t'.2.2.2.2.1, t'.2.2.2.2.2.1, t'.2.2.2.2.2.2.1, t'.2.2.2.2.2.2.2.1, t'.2.2.2.2.2.2.2.2.1, t'.2.2.2.2.2.2.2.2.2, f))) := by
        intro v' hv'
        have p1 : v' ≤ j + 1 := by omega
        have p2 : min (j + 1) d ≤ v' := by
          rcases hv' with ⟨q, rfl⟩ | ⟨-, rfl⟩
          · have : d ≤ j := by
              rcases Nat.lt_or_ge j d with b | b
              · exact absurd q (hd2 j b)
              · exact b
            omega
          · omega
        have p3 : d < 51 → v' ≤ d := by
          intro q
          rcases hv' with ⟨-, rfl⟩ | ⟨q2, rfl⟩
          · exact v3 q
          · rcases Nat.lt_or_ge j d with b | b
            · omega
            · exact absurd (stay j q b) q2
        refine bEq (j + 1 - v') 10 (nI_subN p1) rfl (by omega) (by omega) (fun q => ?_) (fun q => ?_)
        · refine hK _ ⟨nI_1 _, ⟨v', rfl, p1, p2, p3⟩, ?_, ht'⟩
          rw [if_pos (by omega)]
          congr 1; omega
        · refine hK _ ⟨nI_1 _, ⟨v', rfl, p1, p2, p3⟩, ?_, ht'⟩
          rw [if_neg (by omega)]
      refine sp_isAsHad (h := aH (flowsA a j)) ht' gs (by rw [ns]; exact w2) (by rw [ns]; exact fun i hi => (gj.2.1 i (by omega)).2.2.1) (fun r hr => ?_)
      rcases hr with ⟨rfl, q⟩ | ⟨rfl, i, hi, q⟩
      · have e0 : flwd (flowsA a j) = 0 := by
          by_cases w : flwd (flowsA a j) = 0
          · exact w
          · obtain ⟨i, hi, hl⟩ := flwd_less gj w
            have := q i (by rw [ns, ← nj]; exact hi)
            have e : aH (hoursA a (j + 1)) i = aH (flowA (flowsA a j)) i := rfl
            omega
        have e1 : flowsA a (j + 1) = flowsA a j := flow_none e0
        refine br_f (show ¬ nI 1 = 0 by decide) (br_t ?_ (fin v (Or.inl ⟨e0, rfl⟩)))
        have x1 := ht'.2.2.2.2.1
        have x2 : k8 = nI (aC (flowsA a j)) := ht.2.2.2.2.1
        show t'.2.2.2.2.2.2.2.1 = k8
        rw [x1, x2, ← e1]
        rfl
      · have e0 : flwd (flowsA a j) ≠ 0 := by
          intro w
          apply q
          show aH (flowA (flowsA a j)) i = _
          rw [flow_none w]
        exact br_t rfl (fin (j + 1) (Or.inr ⟨e0, rfl⟩))
  · rintro K ⟨x, y, z, k1, k2, k3, k4, k5, k6, k7, k8, k9, k0, f0⟩ ⟨e1, -, e3, ht⟩
    subst e1; subst e3
    unfold resS at k
    rcases hN with ⟨q1, q2⟩ | ⟨q1, q2⟩
    · subst q2
      rw [if_pos q1] at k
      rw [if_neg (by omega)]
      exact bLt 60 61 rfl rfl (by omega) (by omega) (fun _ => sp_again6 hkk (fun t3 ks3 ht3 => k t3 ks3 kp' f0 ht3)) (fun w => absurd w (by omega))
    · subst q2
      rw [if_neg (by omega)] at k
      rw [if_pos ⟨q1, rfl⟩]
      exact bLt 60 (d + 10 + 1) rfl rfl (by omega) (by omega) (fun _ => sp_again6 hkk (fun t3 ks3 ht3 => k t3 ks3 kp' f0 ht3)) (fun _ => br_t (show (0 : Int32) ≤ nI d from nI_pos' (by omega)) (sp_again6 hkk (fun t3 ks3 ht3 => k t3 ks3 kp' f0 ht3)))
theorem okk_drip : ok_drip Inv := by
  rintro ⟨n, m, q, hh, P, le, nu, rf, pq⟩ ⟨c, th, le6, qz, ks, hi, td, ro, se, rf6, kp, ig, ts, tf, hd, gn⟩ p1 ⟨a, hS, hT, g, ho, hrf, hle, hro, him, hpa⟩
  dsimp only at hS hT hrf hle hro him hpa
  unfold p_X5_drip
  rcases in_or p1 2 with ⟨z, hz, rfl⟩ | hz
  · match z, hz with
    | 0, _ =>
      obtain ⟨d, hd1, hd2, hd3⟩ := first_or (fun j => aC (flowsA a j) ≤ aC a) 61
      refine br_t rfl (first5 hS g hd1 hd2 hd3 (fun m' => ?_))
      unfold p_X6_drip
      exact br_t rfl (first6 hT g hd1 hd2 hd3 (fun c' ks' kp' hc => ⟨rfl, a, hS, hc, g, ho, hrf, hle, hro, him, hpa⟩))
    | 1, _ =>
      obtain ⟨d, hd1, hd2, hd3⟩ := first_or (fun j => allN a j ≠ 0) 61
      refine br_f (by decide) (br_t rfl (dried5 hS g hd1 hd2 hd3 (fun m' => ?_)))
      unfold p_X6_drip
      exact br_f (by decide) (br_t rfl (dried6 hT g hd1 hd2 hd3 (fun c' ks' kp' hc => ⟨rfl, a, hS, hc, g, ho, hrf, hle, hro, him, hpa⟩)))
    | 2, _ =>
      obtain ⟨d, hd1, hd2, hd3⟩ := first_or (fun j => flwd (flowsA a j) ≠ 0) 51
      refine br_f (by decide) (br_f (by decide) (br_t rfl (settled5 hS g hd1 hd2 hd3 (fun m' => ?_))))
      unfold p_X6_drip
      exact br_f (by decide) (br_f (by decide) (br_t rfl (settled6 hT g hd1 hd2 hd3 (fun c' ks' kp' hv' hc => ⟨rfl, a, hS, hc, g, ho, hrf, hle, hro, him, hpa⟩))))
  · refine br_f (hz 0 (by omega)) (br_f (hz 1 (by omega)) (br_f (hz 2 (by omega)) (sp_ref5 isR2 ?_)))
    unfold p_X6_drip
    refine br_f (hz 0 (by omega)) (br_f (hz 1 (by omega)) (br_f (hz 2 (by omega)) (sp_ref6 isR2 ?_)))
    exact ⟨rfl, a, hS, hT, g, ho, hrf.s _, hle, hro, him, hpa⟩
