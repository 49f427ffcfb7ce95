theorem GP.lead {a : AP} (g : GP a) {i v : Nat} (h1 : i < v) (h2 : v ≤ 9) : GP (aK a, aF a, aH a, upN (aX a) i v, aN a, aS a, aW a, aC a, aO a) := by
  refine ⟨g.1, fun j hj => ?_, fun j hj => ?_, g.2.2.2.1, g.2.2.2.2.1, g.2.2.2.2.2⟩
  · obtain ⟨g1, g2, g3, g4⟩ := g.2.1 j hj
    refine ⟨g1, g2, g3, ?_⟩
    show upN (aX a) i v j ≤ 9
    by_cases e : j = i
    · subst e; rw [upN_s]; exact h2
    · rw [upN_n e]; exact g4
  · show j < upN (aX a) i v j
    by_cases e : j = i
    · subst e; rw [upN_s]; exact h1
    · rw [upN_n e]; exact g.2.2.1 j hj
theorem RP.lead {t : PT} {a : AP} (h : RP t a) {i v : Nat} (hi : i < 9) {nx : F1} (e : nx = upd t.2.2.2.1 (nI i).toNatClampNeg (nI v)) : RP (t.1, t.2.1, t.2.2.1, nx, t.2.2.2.2.1, t.2.2.2.2.2.1, t.2.2.2.2.2.2.1, t.2.2.2.2.2.2.2.1, t.2.2.2.2.2.2.2.2.1, t.2.2.2.2.2.2.2.2.2) (aK a, aF a, aH a, upN (aX a) i v, aN a, aS a, aW a, aC a, aO a) := by
  subst e
  exact ⟨fun j hj => ⟨(h.1 j hj).1, (h.1 j hj).2.1, (h.1 j hj).2.2.1, upd_up hi (fun j hj => (h.1 j hj).2.2.2) rfl j hj⟩, h.2⟩
theorem sp_lead {t : PT} {a : AP} {i v : Nat} {post : Int32 → PT → Prop} (h : RP t a) (g : GP a) (hi : i < aN a) (h1 : i < v) (h2 : v ≤ 9) (k : ∀ t', RP t' (aK a, aF a, aH a, upN (aX a) i v, aN a, aS a, aW a, aC a, aO a) → post 1 t') : p_X3_lead t (nI i) (nI v) post := by
  have h9 := g.1
  unfold p_X3_lead
  exact sp_there_t h g hi (br_f (by decide) (br_f (Int32.not_le.mpr (nI_lt h1 (by omega))) (br_t (nI_le (b := 9) h2 (by omega)) ⟨vin9 (by omega), nm_in (fun nx e => k _ (h.lead (by omega) e))⟩)))
theorem okk_joins : ok_joins Inv := by
  rintro ⟨n, m, q, hh, P, le, nu, rf, pq⟩ ⟨c, th, le6, qz, ks, hi, td, ro, se, rf6, kp, ig, ts, tf, hd, gn⟩ p1 p2 ⟨a, hS, hT, g, ho, hrf, hle, hro, him, hpa⟩
  dsimp only at hS hT hrf hle hro him hpa
  have h9 := g.1
  obtain ⟨k, la, hk, hla, e1, e2, e3, hv⟩ := id hpa
  unfold p_X5_joins
  rcases house_or a p1 with ⟨i, hii, rfl⟩ | hn
  · refine sp_there_t hS g hii (br_f (by decide) ?_)
    rcases in_or p2 9 with ⟨v, hvv, rfl⟩ | hz
    · refine br_into (M := 9) hvv (by omega) (bLt i v rfl rfl (by omega) (by omega) (fun w => ?_) (fun w => ?_))
      · refine sp_keep5 e1 e2 hla hk hS (fun P' hP hP2 => sp_nextOf hS g hii (sp_lead hS g hii w hvv (fun n' hn' => ?_)))
        unfold p_X6_joins
        refine sp_isH_t hT g hii (br_f (by decide) (sp_inN_t (Y := 0) (Z := 9) rfl rfl (by omega) hvv (by omega) (br_f (by decide) (br_t (nI_lt w (by omega)) (sp_keep6 hT e3 hk (fun c' ks' ts' tf' hc t1 t2 => ?_))))))
        refine ⟨vin9 (by omega), nm_in (fun r er => ⟨vin9 (by omega), nm_in (fun nx ex => ?_)⟩)⟩
        refine ⟨?_, _, hn', hc.lead (by omega) ex, g.lead w hvv, ho, hrf, hle, hro, him, past_kept hk hla hv hP hP2 t1 t2 g ho⟩
        rw [er]; exact (hc.x (by omega)).symm
      · refine sp_ref5 isR3 ?_
        unfold p_X6_joins
        refine sp_isH_t hT g hii (br_f (by decide) (sp_inN_t (Y := 0) (Z := 9) rfl rfl (by omega) hvv (by omega) (br_f (by decide) (br_f (nI_nlt w (by omega)) (sp_ref6 isR3 ?_)))))
        exact ⟨rfl, a, hS, hT, g, ho, hrf.s _, hle, hro, him, hpa⟩
    · refine br_out (M := 9) (by omega) hz (sp_ref5 isR1 ?_)
      unfold p_X6_joins
      refine sp_isH_t hT g hii (br_f (by decide) (sp_inN_f (Y := 0) (Z := 9) rfl rfl (fun k _ h => hz k h) (br_t rfl (sp_ref6 isR1 ?_))))
      exact ⟨rfl, a, hS, hT, g, ho, hrf.s _, hle, hro, him, hpa⟩
  · refine sp_there_f hS g hn (br_t rfl (sp_ref5 isR1 ?_))
    unfold p_X6_joins
    refine sp_isH_f hT g hn (br_t rfl (sp_ref6 isR1 ?_))
    exact ⟨rfl, a, hS, hT, g, ho, hrf.s _, hle, hro, him, hpa⟩
/-- blocked bits changed -/
def setS (a : AP) (s : Nat) : AP := (aK a, aF a, aH a, aX a, aN a, s, aW a, aC a, aO a)
theorem GP.setS {a : AP} (g : GP a) {s : Nat} (h : s < 2 ^ aN a) : GP (setS a s) := ⟨g.1, g.2.1, g.2.2.1, h, g.2.2.2.2.1, g.2.2.2.2.2⟩
theorem RP.setS {t : PT} {a : AP} (h : RP t a) {s : Nat} {st : Int32} (e : st = nI s) : RP (t.1, t.2.1, t.2.2.1, t.2.2.2.1, t.2.2.2.2.1, st, t.2.2.2.2.2.2.1, t.2.2.2.2.2.2.2.1, t.2.2.2.2.2.2.2.2.1, t.2.2.2.2.2.2.2.2.2) (setS a s) := ⟨h.1, h.2.1, e, h.2.2.2⟩
theorem okk_blocks : ok_blocks Inv := by
  rintro ⟨n, m, q, hh, P, le, nu, rf, pq⟩ ⟨c, th, le6, qz, ks, hi, td, ro, se, rf6, kp, ig, ts, tf, hd, gn⟩ p1 ⟨a, hS, hT, g, ho, hrf, hle, hro, him, hpa⟩
  dsimp only at hS hT hrf hle hro him hpa
  have h9 := g.1
  obtain ⟨k, la, hk, hla, e1, e2, e3, hv⟩ := id hpa
  unfold p_X5_blocks
  rcases house_or a p1 with ⟨i, hii, rfl⟩ | hn
  · have hb : aS a ^^^ 2 ^ i < 2 ^ aN a := Nat.xor_lt_two_pow g.2.2.2.1 (Nat.pow_lt_pow_right (by decide) hii)
    have gs := g.setS hb
    have ex : ∀ x, x = nI (aS a) → x ^^^ ((1 : Int32) <<< (nI i &&& 31)) = nI (aS a ^^^ 2 ^ i) := by
      intro x hx
      rw [hx, shl9 i (by omega), fa_xor]
    refine sp_there_t hS g hii (br_f (by decide) (sp_keep5 e1 e2 hla hk hS (fun P' hP hP2 => ?_)))
    unfold p_X3_blockOrFree
    refine sp_there_t hS g hii (br_f (by decide) (nm_in (fun st est => ?_)))
    have hn' := hS.setS (s := aS a ^^^ 2 ^ i) (est.trans (ex _ hS.2.2.1))
    have fin : ∀ r : Int32, (r = 0 ∧ bt2 (aS a ^^^ 2 ^ i) i = 0) ∨ (r = 1 ∧ bt2 (aS a ^^^ 2 ^ i) i = 1) → p_X6_blocks c th ks td rf6 ts tf (nI i) (fun (r2 : Int32) (u2 : PT × Int32 × KS × Int32 × F1 × F1 × F1) => r = r2 ∧ Inv ((n.1, n.2.1, n.2.2.1, n.2.2.2.1, n.2.2.2.2.1, st, n.2.2.2.2.2.2.1, n.2.2.2.2.2.2.2.1, n.2.2.2.2.2.2.2.2.1, n.2.2.2.2.2.2.2.2.2), m, q, (nI ((la + 1) % 8), nI (min 8 (k + 1))), P', le, nu, rf, pq) (u2.1, u2.2.1, le6, qz, u2.2.2.1, hi, u2.2.2.2.1, ro, se, u2.2.2.2.2.1, kp, ig, u2.2.2.2.2.2.1, u2.2.2.2.2.2.2, hd, gn)) := by
      intro r hr
      unfold p_X6_blocks
      refine sp_isH_t hT g hii (br_f (by decide) (sp_keep6 hT e3 hk (fun c' ks' ts' tf' hc t1 t2 => nm_in (fun st6 est6 => ?_))))
      have e6 := est6.trans (ex _ hc.2.2.1)
      refine sp_hasBitE e6 (by have := gs.s512; exact Nat.lt_trans this (by decide)) (by omega) ?_
      rcases hr with ⟨rfl, eb⟩ | ⟨rfl, eb⟩ <;> rw [eb]
      · exact br_t rfl ⟨rfl, _, hn', hc.setS e6, gs, ho, hrf, hle, hro, him, past_kept hk hla hv hP hP2 t1 t2 g ho⟩
      · exact br_f (by decide) ⟨rfl, _, hn', hc.setS e6, gs, ho, hrf, hle, hro, him, past_kept hk hla hv hP hP2 t1 t2 g ho⟩
    refine sp_isBlk hn' gs hii ?_
    rcases bt2_or (aS a ^^^ 2 ^ i) i with eb | eb
    · rw [show bt2 (aS (setS a (aS a ^^^ 2 ^ i))) i = 0 from eb]
      exact br_t rfl (fin 0 (Or.inl ⟨rfl, eb⟩))
    · rw [show bt2 (aS (setS a (aS a ^^^ 2 ^ i))) i = 1 from eb]
      exact br_f (by decide) (fin 1 (Or.inr ⟨rfl, eb⟩))
  · refine sp_there_f hS g hn (br_t rfl (sp_ref5 isR1 ?_))
    unfold p_X6_blocks
    refine sp_isH_f hT g hn (br_t rfl (sp_ref6 isR1 ?_))
    exact ⟨rfl, a, hS, hT, g, ho, hrf.s _, hle, hro, him, hpa⟩
theorem okk_hours : ok_hours Inv := by
  rintro ⟨n, m, q, hh, P, le, nu, rf, pq⟩ ⟨c, th, le6, qz, ks, hi, td, ro, se, rf6, kp, ig, ts, tf, hd, gn⟩ p1 ⟨a, hS, hT, g, ho, hrf, hle, hro, him, hpa⟩
  dsimp only at hS hT hrf hle hro him hpa
  have h9 := g.1
  obtain ⟨k, la, hk, hla, e1, e2, e3, hv⟩ := id hpa
  unfold p_X5_hours
  rcases out3 p1 1 60 (by omega) (by omega) with ⟨w, hw1, hw, rfl⟩ | h | ⟨h1, h2⟩
  · refine sp_out_ok (lo := 1) (hi := 60) hw1 hw (by omega) (br_t rfl ?_)
    unfold p_X3_hasTimeFor
    refine br_f (nI_nlt (a := w) (b := 1) hw1 (by omega)) (br_f (nI_nlt (a := 60) (b := w) hw (by omega)) ?_)
    have sb : (999 : Int32) - n.2.2.2.2.2.2.2.2.1 = nI (999 - aO a) := by
      rw [hS.2.2.2.2.2, show (999 : Int32) = nI 999 from rfl, nI_subN ho]
    have ad : c.2.2.2.2.2.2.2.2.1 + nI w = nI (aO a + w) := by
      rw [hT.2.2.2.2.2, nI_add]
    refine bLt (999 - aO a) w sb rfl (by omega) (by omega) (fun q => ?_) (fun q => ?_)
    · refine br_t rfl (sp_ref5 isR6 ?_)
      unfold p_X6_hours
      refine sp_wn_ok (lo := 1) (hi := 60) hw1 hw (by omega) (br_t rfl (bLe (aO a + w) 999 ad rfl (by omega) (by omega) (fun q2 => absurd q2 (by omega)) (fun _ => br_f (by decide) (sp_ref6 isR6 ?_))))
      exact ⟨rfl, a, hS, hT, g, ho, hrf.s _, hle, hro, him, hpa⟩
    · refine br_f (by decide) (sp_keep5 e1 e2 hla hk hS (fun P' hP hP2 => sp_pass hS g (by omega) (fun n' hn' => sp_inCup hn' ?_)))
      unfold p_X6_hours
      refine sp_wn_ok (lo := 1) (hi := 60) hw1 hw (by omega) (br_t rfl (bLe (aO a + w) 999 ad rfl (by omega) (by omega) (fun _ => br_t (by decide) ?_) (fun q2 => absurd q2 (by omega))))
      refine sp_keep6 hT e3 hk (fun c' ks' ts' tf' hc t1 t2 => sp_goHours hc g (by omega) (fun c2 hc2 => ?_))
      refine ⟨hc2.2.2.2.2.1.symm, _, hn', hc2, g.hours w, ?_, hrf, hle, hro, him, past_kept hk hla hv hP hP2 t1 t2 g ho⟩
      show aO a + w ≤ 999
      omega
  · refine sp_out_lo h (br_f (by decide) (sp_ref5 isR4 ?_))
    unfold p_X6_hours
    refine sp_wn_lo h (br_f (by decide) (br_f (by decide) (sp_ref6 isR4 ?_)))
    exact ⟨rfl, a, hS, hT, g, ho, hrf.s _, hle, hro, him, hpa⟩
  · refine sp_out_hi h1 h2 (br_f (by decide) (sp_ref5 isR6 ?_))
    unfold p_X6_hours
    refine sp_wn_hi h1 h2 (br_f (by decide) (br_f (by decide) (sp_ref6 isR6 ?_)))
    exact ⟨rfl, a, hS, hT, g, ho, hrf.s _, hle, hro, him, hpa⟩
theorem okk_pours : ok_pours Inv := by
  rintro ⟨n, m, q, hh, P, le, nu, rf, pq⟩ ⟨c, th, le6, qz, ks, hi, td, ro, se, rf6, kp, ig, ts, tf, hd, gn⟩ p1 p2 ⟨a, hS, hT, g, ho, hrf, hle, hro, him, hpa⟩
  dsimp only at hS hT hrf hle hro him hpa
  have h9 := g.1
  obtain ⟨k, la, hk, hla, e1, e2, e3, hv⟩ := id hpa
  unfold p_X5_pours
  rcases house_or a p1 with ⟨i, hii, rfl⟩ | hn
  · refine sp_there_t hS g hii (br_f (by decide) ?_)
    rcases out3 p2 0 99 (by omega) (by omega) with ⟨w, hw1, hw, rfl⟩ | h | ⟨h1, h2⟩
    · refine sp_out_ok (lo := 0) (hi := 99) hw1 hw (by omega) (br_t rfl ?_)
      refine sp_keep5 e1 e2 hla hk hS (fun P' hP hP2 => sp_fill hS g hii (by omega) (fun n' hn' _ => sp_holdsOf hn' (g.fill hii) hii ?_))
      unfold p_X6_pours
      refine sp_isH_t hT g hii (br_f (by decide) (sp_wn_ok (lo := 0) (hi := 99) hw1 hw (by omega) (br_t (by decide) (sp_keep6 hT e3 hk (fun c' ks' ts' tf' hc t1 t2 => sp_pourIn hc g hii (by omega) (fun c2 hc2 _ => ⟨vin9 (by omega), ?_⟩))))))
      exact ⟨(hc2.h (by omega)).symm, _, hn', hc2, g.fill hii, ho, hrf, hle, hro, him, past_kept hk hla hv hP hP2 t1 t2 g ho⟩
    · refine sp_out_lo h (br_f (by decide) (sp_ref5 isR4 ?_))
      unfold p_X6_pours
      refine sp_isH_t hT g hii (br_f (by decide) (sp_wn_lo h (br_f (by decide) (sp_ref6 isR4 ?_))))
      exact ⟨rfl, a, hS, hT, g, ho, hrf.s _, hle, hro, him, hpa⟩
    · refine sp_out_hi h1 h2 (br_f (by decide) (sp_ref5 isR6 ?_))
      unfold p_X6_pours
      refine sp_isH_t hT g hii (br_f (by decide) (sp_wn_hi h1 h2 (br_f (by decide) (sp_ref6 isR6 ?_))))
      exact ⟨rfl, a, hS, hT, g, ho, hrf.s _, hle, hro, him, hpa⟩
  · refine sp_there_f hS g hn (br_t rfl (sp_ref5 isR1 ?_))
    unfold p_X6_pours
    refine sp_isH_f hT g hn (br_t rfl (br_f (by decide) (sp_ref6 isR1 ?_)))
    exact ⟨rfl, a, hS, hT, g, ho, hrf.s _, hle, hro, him, hpa⟩
theorem okk_back : ok_back Inv := by
  rintro ⟨n, m, q, hh, P, le, nu, rf, pq⟩ ⟨c, th, le6, qz, ks, hi, td, ro, se, rf6, kp, ig, ts, tf, hd, gn⟩ ⟨a, hS, hT, g, ho, hrf, hle, hro, him, hpa⟩
  dsimp only at hS hT hrf hle hro him hpa
  have h9 := g.1
  obtain ⟨k, la, hk, hla, e1, e2, e3, hv⟩ := id hpa
  unfold p_X5_back
  match k, hk, e2, e3, hv with
  | 0, hk, e2, e3, hv =>
    unfold p_X4_giveLatest
    refine br_t e2 (br_t rfl (sp_ref5 isR3 ?_))
    unfold p_X6_back
    refine br_t e3 (sp_ref6 isR3 ?_)
    exact ⟨rfl, a, hS, hT, g, ho, hrf.s _, hle, hro, him, hpa⟩
  | k + 1, hk, e2, e3, hv =>
    obtain ⟨b, b1, b2, gb, hob⟩ := hv 0 (by omega)
    rw [show (la + 8 - 0) % 8 = la by omega] at b1
    refine sp_give5 e1 e2 hla hk b1 (fun n' hn' => br_f (by decide) ?_)
    unfold p_X4_size p_X6_back
    refine br_f (by rw [e3]; exact nI_ne0 (by omega) (by omega)) (nm_in (fun d ed => ?_))
    have ed' : d = nI k := ed.trans (by rw [e3]; exact nI_subN (a := k + 1) (b := 1) (by omega))
    subst ed'
    refine lpN_up 41 (fun i z => z.1 = nI i ∧ (∀ p, p < i → z.2 p = nI (flat b p))) (by decide) ?_ ?_ _ ⟨rfl, fun p hp => absurd hp (Nat.not_lt_zero _)⟩
    · rintro K i ⟨x, f⟩ hi2 ⟨w1, w2⟩ hK
      dsimp only at w1 w2
      subst w1
      have ix : (41 : Int32) * nI k + nI i = nI (41 * k + i) := by
        rw [show (41 : Int32) = nI 41 from rfl, nI_mulN, nI_add]
      refine bLe 41 i rfl rfl (by omega) (by omega) (fun w => absurd w (by omega)) (fun _ => ⟨by rw [ix]; exact vp_in_nI (by omega) (by decide), vin41 hi2, nm_in (fun f2 d2 => hK _ ⟨nI_1 _, fun p hp => ?_⟩)⟩)
      dsimp only
      rw [d2, ix, cl_nI (by omega), cl_nI (by omega)]
      by_cases w : p = i
      · subst w; rw [pk_us]
        have := b2 p hi2
        rw [show k + 1 - 1 - 0 = k by omega] at this
        exact this
      · rw [pk_un (by omega)]; exact w2 p (by omega)
    · rintro K ⟨x, f⟩ ⟨w1, w2⟩
      dsimp only at w1 w2
      subst w1
      refine bLe 41 41 rfl rfl (by omega) (by omega) (fun _ => sp_carryAllR w2 (fun c' ks' hc _ => ?_)) (fun w => absurd w (by omega))
      exact ⟨rfl, b, hn', hc, gb, hob, hrf, hle, hro, him, past_back hk hv hla⟩
