def leadA (a : AP) (i v : Nat) : AP := (aK a, aF a, aH a, upN (aX a) i v, aN a, aS a, aW a, aC a, aO a)
theorem lead_same (a : AP) (i : Nat) : leadA a i (aX a i) = a := by
  have e : upN (aX a) i (aX a i) = aX a := by
    funext j
    by_cases q : j = i
    · subst q; rw [upN_s]
    · rw [upN_n q]
  unfold leadA
  rw [e]
def jnC (a : AP) (w i t : Nat) : Nat := aC (flowsA (leadA a i t) w)
def jnS (a : AP) (w q : Nat) (s : Nat × Int32) : Nat × Int32 := if (q / 10 < q % 10 ∧ (q % 10 < aN a ∨ q % 10 = 9)) ∧ s.1 < jnC a w (q / 10) (q % 10) then (jnC a w (q / 10) (q % 10), nI q) else s
def jnA (a : AP) (w q : Nat) : Nat × Int32 := pre (jnS a w) (aC (flowsA a w), -9) q
theorem jn_s {a : AP} {w q : Nat} : jnA a w (q + 1) = jnS a w q (jnA a w q) := rfl
theorem jn_new {a : AP} {w i t : Nat} (ht : t < 10) (h : i < t ∧ (t < aN a ∨ t = 9)) (h2 : (jnA a w (10 * i + t)).1 < jnC a w i t) : jnA a w (10 * i + t + 1) = (jnC a w i t, nI (10 * i + t)) := by
  have e1 : (10 * i + t) / 10 = i := by omega
  have e2 : (10 * i + t) % 10 = t := by omega
  rw [jn_s]
  unfold jnS
  rw [e1, e2, if_pos ⟨h, h2⟩]
theorem jn_old {a : AP} {w i t : Nat} (ht : t < 10) (h : ¬ ((i < t ∧ (t < aN a ∨ t = 9)) ∧ (jnA a w (10 * i + t)).1 < jnC a w i t)) : jnA a w (10 * i + t + 1) = jnA a w (10 * i + t) := by
  have e1 : (10 * i + t) / 10 = i := by omega
  have e2 : (10 * i + t) % 10 = t := by omega
  rw [jn_s]
  unfold jnS
  rw [e1, e2, if_neg h]
theorem jn_ge {a : AP} {w : Nat} : ∀ q, aC (flowsA a w) ≤ (jnA a w q).1
  | 0 => Nat.le_refl _
  | q + 1 => by
    have ih := jn_ge (a := a) (w := w) q
    rw [jn_s]
    unfold jnS
    split
    · rename_i h
      have := h.2
      show _ ≤ jnC a w (q / 10) (q % 10)
      omega
    · exact ih
theorem jnC_le {a : AP} (g : GP a) {w i t : Nat} (h1 : i < t) (h2 : t ≤ 9) : jnC a w i t ≤ 9999 := ((g.lead h1 h2).flows w).2.2.2.2.2
theorem jn_le {a : AP} (g : GP a) {w : Nat} : ∀ q, (jnA a w q).1 ≤ 9999
  | 0 => (g.flows w).2.2.2.2.2
  | q + 1 => by
    have ih := jn_le g (w := w) q
    rw [jn_s]
    unfold jnS
    split
    · rename_i h
      exact jnC_le g h.1.1 (by omega)
    · exact ih
theorem jn_skip {a : AP} {w i : Nat} : ∀ t, t ≤ i + 1 → t ≤ 10 → jnA a w (10 * i + t) = jnA a w (10 * i)
  | 0, _, _ => rfl
  | t + 1, h, h2 => by
    show jnA a w (10 * i + t + 1) = _
    rw [jn_old (by omega) (fun q => by omega)]
    exact jn_skip t (by omega) (by omega)
set_option maxHeartbeats 1000000 in
theorem okk_join : ok_join Inv := by
  rintro ⟨n, m, q, hh, P, le, nu, rf, pq⟩ ⟨c, th, le6, qz, ks, hi, td, ro, se, rf6, kp, ig, ts, tf, hd, gn⟩ p1 ⟨a, hS, hT, g, ho, hrf, hle, hro, him, hpa⟩
  dsimp only at hS hT hrf hle hro him hpa
  have h9 := g.1
  unfold p_X5_join
  rcases out3 p1 0 60 (by omega) (by omega) with ⟨w, hw1, hw, rfl⟩ | h | ⟨h1, h2⟩
  · refine sp_out_ok (lo := 0) (hi := 60) hw1 hw (by omega) (br_t rfl (sp_think5 hS (fun m1 hm1 => sp_cupBehind hm1 g (by omega) (fun m2 hm2 => ?_))))
    refine lpN_up (aN a) (fun i z => z.1 = nI (jnA a w (10 * i)).1 ∧ z.2.1 = (jnA a w (10 * i)).2 ∧ z.2.2.1 = nI i) (by omega) ?_ ?_ _ ⟨rfl, rfl, rfl⟩
    · rintro K i ⟨x, y, u, t⟩ hi2 ⟨w1, w2, w3⟩ hK
      dsimp only at w1 w2 w3
      subst w1; subst w2; subst w3
      refine sp_houses hS (bLe (aN a) i rfl rfl (by omega) (by omega) (fun w => absurd w (by omega)) (fun _ => nm_in (fun v ev => ?_)))
      have ev' : v = nI (i + 1 + 0) := ev.trans (nI_1 i)
      subst ev'
      have e0 := jn_skip (a := a) (w := w) (i := i) (i + 1) (Nat.le_refl _) (by omega)
      refine lpN_up (9 - i) (fun j z => z.1 = nI (jnA a w (10 * i + (i + 1 + j))).1 ∧ z.2.1 = (jnA a w (10 * i + (i + 1 + j))).2 ∧ z.2.2.1 = nI (i + 1 + j)) (by omega) ?_ ?_ _ ⟨by rw [Nat.add_zero, e0], by rw [Nat.add_zero, e0], rfl⟩
      · rintro K2 j ⟨x, y, u, t⟩ hj ⟨w1, w2, w3⟩ hK2
        dsimp only at w1 w2 w3
        subst w1; subst w2; subst w3
        obtain ⟨tt, ett⟩ : ∃ tt, tt = i + 1 + j := ⟨_, rfl⟩
        have hK3 : ∀ x y t', (x = nI (jnA a w (10 * i + tt + 1)).1 ∧ y = (jnA a w (10 * i + tt + 1)).2) → K2 (x, y, nI tt + 1, t') := by
          rintro x y t' ⟨q1, q2⟩
          refine hK2 _ ⟨?_, ?_, ?_⟩
          · rw [q1, ett]; rfl
          · rw [q2, ett]; rfl
          · show nI tt + 1 = _
            rw [ett]; exact nI_1 _
        rw [← ett]
        obtain ⟨-, -, -, gx⟩ := g.2.1 i (by omega)
        have jl := jn_le g (w := w) (10 * i + tt)
        have jg := jn_ge (a := a) (w := w) (10 * i + tt)
        have same : ¬ ((i < tt ∧ (tt < aN a ∨ tt = 9)) ∧ (jnA a w (10 * i + tt)).1 < jnC a w i tt) → ∀ t', K2 (nI (jnA a w (10 * i + tt)).1, (jnA a w (10 * i + tt)).2, nI tt + 1, t') := fun q t' => hK3 _ _ _ ⟨by rw [jn_old (by omega) q], by rw [jn_old (by omega) q]⟩
        refine bLt 9 tt rfl rfl (by omega) (by omega) (fun w => absurd w (by omega)) (fun _ => sp_nextOf hS g hi2 ?_)
        refine bEq tt (aX a i) rfl rfl (by omega) (by omega) (fun q => same (fun r => ?_) _) (fun q => ?_)
        · have : jnC a w i tt = aC (flowsA a w) := by
            unfold jnC
            rw [q, lead_same]
          omega
        · have go : (tt < aN a ∨ tt = 9) → p_X5_think n t (fun (u20 : PT) => p_X3_lead u20 (nI i) (nI tt) (fun (r22 : Int32) (u22 : PT) => p_X5_cupBehind u22 (nI w) (fun (r24 : Int32) (u24 : PT) => ((r24 ≤ nI (jnA a w (10 * i + tt)).1 → K2 (nI (jnA a w (10 * i + tt)).1, (jnA a w (10 * i + tt)).2, nI tt + 1, u24)) ∧ (¬ r24 ≤ nI (jnA a w (10 * i + tt)).1 → nm ((((10 : Int32) * nI i) + nI tt) : Int32) (fun (v26 : Int32) => K2 (r24, v26, nI tt + 1, u24))))))) := by
            intro ok
            have cl := jnC_le g (w := w) (i := i) (t := tt) (by omega) (by omega)
            refine sp_think5 hS (fun m3 hm3 => sp_lead hm3 g hi2 (by omega) (by omega) (fun m4 hm4 => sp_cupBehind hm4 (g.lead (by omega) (by omega)) (by omega) (fun m5 _ => ?_)))
            refine bLe (jnC a w i tt) (jnA a w (10 * i + tt)).1 rfl rfl (by omega) (by omega) (fun r => same (by omega) _) (fun r => nm_in (fun v26 e26 => hK3 _ _ _ ⟨?_, ?_⟩))
            · rw [jn_new (by omega) ⟨by omega, ok⟩ r]; rfl
            · rw [jn_new (by omega) ⟨by omega, ok⟩ r]
              refine e26.trans ?_
              rw [show (10 : Int32) = nI 10 from rfl, nI_mulN, nI_add]
          refine bEq tt 9 rfl rfl (by omega) (by omega) (fun r => go (Or.inr r)) (fun r => ?_)
          rcases Nat.lt_or_ge tt (aN a) with b | b
          · exact sp_there_t hS g b (br_f (by decide) (go (Or.inl b)))
          · exact sp_there_n hS g b (by omega) (br_t rfl (same (by omega) _))
      · rintro K2 ⟨x, y, u, t⟩ ⟨w1, w2, w3⟩
        dsimp only at w1 w2 w3
        subst w1; subst w2; subst w3
        have e : 10 * i + (i + 1 + (9 - i)) = 10 * (i + 1) := by omega
        exact bLt 9 (i + 1 + (9 - i)) rfl rfl (by omega) (by omega) (fun _ => hK _ ⟨by rw [e], by rw [e], nI_1 i⟩) (fun w => absurd w (by omega))
    · rintro K ⟨x, y, u, t⟩ ⟨w1, w2, w3⟩
      dsimp only at w1 w2 w3
      subst w1; subst w2; subst w3
      refine sp_houses hS (bLe (aN a) (aN a) rfl rfl (by omega) (by omega) (fun _ => ?_) (fun w => absurd w (by omega)))
      unfold p_X6_join
      refine sp_wn_ok (lo := 0) (hi := 60) hw1 hw (by omega) (br_t (by decide) (sp_think6 hT (fun c' ks' kp' hc hkk => sp_cupThen hc g hkk (by omega) (fun t' ks2 ht' => ?_))))
      refine lpN_up (10 * aN a) (fun j (x, y, i, k1, k2, k3, k4, k5, k6, k7, k8, k9, k0, _, _, _, kk) => x = (jnA a w j).2 ∧ y = nI (jnA a w j).1 ∧ i = nI j ∧ RP (k1, k2, k3, k4, k5, k6, k7, k8, k9, k0) a ∧ RK kk a) (by omega) ?_ ?_ _ ⟨rfl, rfl, rfl, ht', hkk⟩
      · rintro K j ⟨x, y, i, k1, k2, k3, k4, k5, k6, k7, k8, k9, k0, l1, l2, l3, kk⟩ hj ⟨w1, w2, w3, w4, w5⟩ hK
        subst w1; subst w2; subst w3
        obtain ⟨i, tt, ht, rfl⟩ : ∃ i tt, tt < 10 ∧ j = 10 * i + tt := ⟨j / 10, j % 10, by omega, by omega⟩
        have hi2 : i < aN a := by omega
        have jl := jn_le g (w := w) (10 * i + tt)
        have e5 : k5 = nI (aN a) := w4.2.1
        have b10 : (10 : Int32) * k5 = nI (10 * aN a) := by
          rw [e5, show (10 : Int32) = nI 10 from rfl, nI_mulN]
        have d10 : nI (10 * i + tt) / 10 = nI i := by
          rw [show (10 : Int32) = nI 10 from rfl, pk_div (by omega) (by decide) (by decide)]
          congr 1; omega
        refine bLe (10 * aN a) (10 * i + tt) b10 rfl (by omega) (by omega) (fun w => absurd w (by omega)) (fun _ => nm_in (fun v ev => ?_))
        have ev' : v = nI tt := by
          refine ev.trans ?_
          show nI (10 * i + tt) - nI (10 * i + tt) / 10 * 10 = _
          rw [d10, show (10 : Int32) = nI 10 from rfl, nI_mulN, nI_subN (by omega)]
          congr 1; omega
        subst ev'
        have same : ¬ ((i < tt ∧ (tt < aN a ∨ tt = 9)) ∧ (jnA a w (10 * i + tt)).1 < jnC a w i tt) → ∀ x y k1 k2 k3 k4 k5 k6 k7 k8 k9 k0 l1 l2 l3, x = (jnA a w (10 * i + tt)).2 → y = nI (jnA a w (10 * i + tt)).1 → RP (k1, k2, k3, k4, k5, k6, k7, k8, k9, k0) a → K (x, y, nI (10 * i + tt) + 1, k1, k2, k3, k4, k5, k6, k7, k8, k9, k0, l1, l2, l3, kk) := fun q x y k1 k2 k3 k4 k5 k6 k7 k8 k9 k0 l1 l2 l3 ex ey hR => hK _ ⟨by rw [jn_old ht q]; exact ex, by rw [jn_old ht q]; exact ey, nI_1 _, hR, w5⟩
        refine bLe tt i rfl d10 (by omega) (by omega) (fun q => same (by omega) _ _ _ _ _ _ _ _ _ _ _ _ _ _ _ rfl rfl w4) (fun q => ?_)
        have go : (tt < aN a ∨ tt = 9) → ∀ {A : Prop}, A → A := fun _ _ h => h
        have run : (tt < aN a ∨ tt = 9) → (∀ nx : F1, nx = upd k4 (nI i).toNatClampNeg (nI tt) → p_X6_cupThen (k1, k2, k3, nx, k5, k6, k7, k8, k9, k0) (l1, l2, l3) kk (nI w) (fun (r53 : Int32) (u53 : PT × KS × F1) => ((r53 ≤ nI (jnA a w (10 * i + tt)).1 → ((r53 ≤ nI (jnA a w (10 * i + tt)).1 → K ((jnA a w (10 * i + tt)).2, nI (jnA a w (10 * i + tt)).1, nI (10 * i + tt) + 1, u53.1.1, u53.1.2.1, u53.1.2.2.1, u53.1.2.2.2.1, u53.1.2.2.2.2.1, u53.1.2.2.2.2.2.1, u53.1.2.2.2.2.2.2.1, u53.1.2.2.2.2.2.2.2.1, u53.1.2.2.2.2.2.2.2.2.1, u53.1.2.2.2.2.2.2.2.2.2, u53.2.1.1, u53.2.1.2.1, u53.2.1.2.2, u53.2.2)) ∧ (¬ r53 ≤ nI (jnA a w (10 * i + tt)).1 → K ((jnA a w (10 * i + tt)).2, r53, nI (10 * i + tt) + 1, u53.1.1, u53.1.2.1, u53.1.2.2.1, u53.1.2.2.2.1, u53.1.2.2.2.2.1, u53.1.2.2.2.2.2.1, u53.1.2.2.2.2.2.2.1, u53.1.2.2.2.2.2.2.2.1, u53.1.2.2.2.2.2.2.2.2.1, u53.1.2.2.2.2.2.2.2.2.2, u53.2.1.1, u53.2.1.2.1, u53.2.1.2.2, u53.2.2)))) ∧ (¬ r53 ≤ nI (jnA a w (10 * i + tt)).1 → ((r53 ≤ nI (jnA a w (10 * i + tt)).1 → K (nI (10 * i + tt), nI (jnA a w (10 * i + tt)).1, nI (10 * i + tt) + 1, u53.1.1, u53.1.2.1, u53.1.2.2.1, u53.1.2.2.2.1, u53.1.2.2.2.2.1, u53.1.2.2.2.2.2.1, u53.1.2.2.2.2.2.2.1, u53.1.2.2.2.2.2.2.2.1, u53.1.2.2.2.2.2.2.2.2.1, u53.1.2.2.2.2.2.2.2.2.2, u53.2.1.1, u53.2.1.2.1, u53.2.1.2.2, u53.2.2)) ∧ (¬ r53 ≤ nI (jnA a w (10 * i + tt)).1 → K (nI (10 * i + tt), r53, nI (10 * i + tt) + 1, u53.1.1, u53.1.2.1, u53.1.2.2.1, u53.1.2.2.2.1, u53.1.2.2.2.2.1, u53.1.2.2.2.2.2.1, u53.1.2.2.2.2.2.2.1, u53.1.2.2.2.2.2.2.2.1, u53.1.2.2.2.2.2.2.2.2.1, u53.1.2.2.2.2.2.2.2.2.2, u53.2.1.1, u53.2.1.2.1, u53.2.1.2.2, u53.2.2))))))) := by
          intro ok nx enx
          have hb := w4.lead (i := i) (v := tt) (by omega) enx
          have cl := jnC_le g (w := w) (i := i) (t := tt) q (by omega)
          refine sp_cupThen hb (g.lead q (by omega)) w5 (by omega) (fun t2 ks3 ht2 => ?_)
          refine bLe (jnC a w i tt) (jnA a w (10 * i + tt)).1 rfl rfl (by omega) (by omega) (fun r => ?_) (fun r => ?_)
          · exact br_t (nI_le r (by omega)) (same (by omega) _ _ _ _ _ _ _ _ _ _ _ _ _ _ _ rfl rfl ht2)
          · refine br_f (show ¬ nI (jnC a w i tt) ≤ nI (jnA a w (10 * i + tt)).1 from Int32.not_le.mpr (nI_lt r (by omega))) (hK _ ⟨by rw [jn_new ht ⟨q, ok⟩ r], by rw [jn_new ht ⟨q, ok⟩ r]; rfl, nI_1 _, ht2, w5⟩)
        have vi : vp_in (nI (10 * i + tt) / 10) 9 := by rw [d10]; exact vin9 (by omega)
        refine bLt tt (aN a) rfl e5 (by omega) (by omega) (fun r => ⟨vi, nm_in (fun nx enx => run (Or.inl r) nx (enx.trans (by rw [← d10])))⟩) (fun r => ?_)
        refine bEq tt 9 rfl rfl (by omega) (by omega) (fun r2 => ⟨vi, nm_in (fun nx enx => run (Or.inr r2) nx (enx.trans (by rw [← d10])))⟩) (fun r2 => same (by omega) _ _ _ _ _ _ _ _ _ _ _ _ _ _ _ rfl rfl w4)
      · rintro K ⟨x, y, i, k1, k2, k3, k4, k5, k6, k7, k8, k9, k0, l1, l2, l3, kk⟩ ⟨w1, w2, w3, w4, w5⟩
        subst w1; subst w2; subst w3
        have b10 : (10 : Int32) * k5 = nI (10 * aN a) := by
          rw [show k5 = nI (aN a) from w4.2.1, show (10 : Int32) = nI 10 from rfl, nI_mulN]
        exact bLe (10 * aN a) (10 * aN a) b10 rfl (by omega) (by omega) (fun _ => ⟨rfl, a, hS, w4, g, ho, hrf, hle, hro, him, hpa⟩) (fun w => absurd w (by omega))
  · refine sp_out_lo h (br_f (by decide) (sp_ref5 isR4 ?_))
    unfold p_X6_join
    refine sp_wn_lo h (br_f (by decide) (sp_ref6 isR4 ?_))
    exact ⟨rfl, a, hS, hT, g, ho, hrf.s _, hle, hro, him, hpa⟩
  · refine sp_out_hi h1 h2 (br_f (by decide) (sp_ref5 isR6 ?_))
    unfold p_X6_join
    refine sp_wn_hi h1 h2 (br_f (by decide) (sp_ref6 isR6 ?_))
    exact ⟨rfl, a, hS, hT, g, ho, hrf.s _, hle, hro, him, hpa⟩
