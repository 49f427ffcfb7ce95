def buildA (a : AP) (k f : Nat) : AP := (upN (aK a) (aN a) k, upN (aF a) (aN a) f, upN (aH a) (aN a) 0, upN (aX a) (aN a) 9, aN a + 1, aS a, aW a, aC a, aO a)
theorem GP.build {a : AP} (g : GP a) {k f : Nat} (hk : k ≤ 5) (hf : f ≤ 9) (hn : aN a < 9) : GP (buildA a k f) := by
  have p2 : 2 ^ aN a < 2 ^ (aN a + 1) := Nat.pow_lt_pow_right (by decide) (Nat.lt_succ_self _)
  refine ⟨hn, fun j hj => ?_, fun j hj => ?_, Nat.lt_trans g.2.2.2.1 p2, Nat.lt_trans g.2.2.2.2.1 p2, g.2.2.2.2.2⟩
  · obtain ⟨g1, g2, g3, g4⟩ := g.2.1 j hj
    show upN (aK a) (aN a) k j < 6 ∧ upN (aF a) (aN a) f j < 10 ∧ upN (aH a) (aN a) 0 j < 100 ∧ upN (aX a) (aN a) 9 j ≤ 9
    by_cases e : j = aN a
    · subst e; rw [upN_s, upN_s, upN_s, upN_s]; omega
    · rw [upN_n e, upN_n e, upN_n e, upN_n e]; exact ⟨g1, g2, g3, g4⟩
  · show j < upN (aX a) (aN a) 9 j
    by_cases e : j = aN a
    · subst e; rw [upN_s]; exact hn
    · rw [upN_n e]; exact g.2.2.1 j (by have : j < aN a + 1 := hj; omega)
theorem RP.build {t : PT} {a : AP} (h : RP t a) {k f : Nat} (hn : aN a < 9) {x1 x2 x3 x4 : F1} {v s w : Int32} (e1 : x1 = upd t.1 t.2.2.2.2.1.toNatClampNeg (nI k)) (e2 : x2 = upd t.2.1 t.2.2.2.2.1.toNatClampNeg (nI f)) (e3 : x3 = upd t.2.2.1 t.2.2.2.2.1.toNatClampNeg 0) (e4 : x4 = upd t.2.2.2.1 t.2.2.2.2.1.toNatClampNeg 9) (e5 : v = t.2.2.2.2.1 + 1) (e6 : s = t.2.2.2.2.2.1) (e7 : w = t.2.2.2.2.2.2.1) (dr : Int32) : RP (x1, x2, x3, x4, v, s, w, t.2.2.2.2.2.2.2.1, t.2.2.2.2.2.2.2.2.1, dr) (buildA a k f) := by
  rw [h.2.1] at e1 e2 e3 e4 e5
  subst e1; subst e2; subst e3; subst e4; subst e5; subst e6; subst e7
  exact ⟨fun j hj => ⟨upd_up hn (fun j hj => (h.1 j hj).1) rfl j hj, upd_up hn (fun j hj => (h.1 j hj).2.1) rfl j hj, upd_up hn (fun j hj => (h.1 j hj).2.2.1) rfl j hj, upd_up hn (fun j hj => (h.1 j hj).2.2.2) rfl j hj⟩, nI_1 _, h.2.2⟩
theorem clr9 : ∀ n, n < 9 → ∀ s, s < 2 ^ n → nI s &&& (((1 : Int32) <<< (nI n &&& 31)) ^^^ (-1 : Int32)) = nI s := by decide +kernel
theorem okk_house : ok_house Inv := by
  rintro ⟨n, m, q, hh, P, le, nu, rf, pq⟩ ⟨c, th, le6, qz, ks, hi, td, ro, se, rf6, kp, ig, ts, tf, hd, gn⟩ p1 p2 ⟨a, hS, hT, g, ho, hrf, hle, hro, him, hpa⟩
  dsimp only at hS hT hrf hle hro him hpa
  have h9 := g.1
  unfold p_X5_house
  rcases in_or p1 5 with ⟨k, hk, rfl⟩ | hz
  · refine br_into (M := 5) hk (by omega) ?_
    rcases out3 p2 0 9 (by omega) (by omega) with ⟨w, hw1, hw, rfl⟩ | h | ⟨h1, h2⟩
    · refine sp_out_ok (lo := 0) (hi := 9) hw1 hw (by omega) (br_t rfl ?_)
      unfold p_X3_build
      refine bLe 9 (aN a) rfl hS.2.1 (by omega) (by omega) (fun q => ?_) (fun q => ?_)
      · refine br_t rfl (sp_ref5 isR6 ?_)
        unfold p_X6_house
        refine sp_inN_t (Y := 0) (Z := 5) rfl rfl (by omega) hk (by omega) (br_f (by decide) (sp_wn_ok (lo := 0) (hi := 9) hw1 hw (by omega) (br_t rfl (br_t ?_ (br_f (by decide) (sp_ref6 isR6 ?_))))))
        · show c.2.2.2.2.1 = 9
          rw [hT.2.1, show aN a = 9 by omega]; rfl
        · exact ⟨rfl, a, hS, hT, g, ho, hrf.s _, hle, hro, him, hpa⟩
      · have vb : ∀ t : PT, RP t a → vp_in t.2.2.2.2.1 9 := fun t ht => by rw [ht.2.1]; exact vin9 q
        refine br_f (Int32.not_lt.mpr (nI_pos' (by omega))) (br_t (nI_le (b := 5) hk (by omega)) ⟨vb n hS, nm_in (fun x1 d1 => ⟨vb n hS, nm_in (fun x2 d2 => ⟨vb n hS, nm_in (fun x3 d3 => ⟨vb n hS, nm_in (fun x4 d4 => nm_in (fun v d5 => ?_))⟩)⟩)⟩)⟩)
        refine br_f (by decide) ?_
        have hn' := hS.build q d1 d2 d3 d4 d5 rfl rfl n.2.2.2.2.2.2.2.2.2
        unfold p_X4_forget
        refine sp_houses hn' ?_
        unfold p_X6_house
        refine sp_inN_t (Y := 0) (Z := 5) rfl rfl (by omega) hk (by omega) (br_f (by decide) (sp_wn_ok (lo := 0) (hi := 9) hw1 hw (by omega) (br_t rfl (br_f ?_ (br_t (by decide) ?_)))))
        · show ¬ c.2.2.2.2.1 = 9
          rw [hT.2.1]
          intro e
          have := nI_inj (j := 9) (by omega) (by omega) e
          omega
        · unfold p_X6_houseComes
          refine br_f ?_ (br_f ?_ (br_f (show ¬ (1 : Int32) = 0 by decide) ?_))
          · exact Int32.not_le.mpr (nI_lt (b := 6) (by omega) (by omega))
          · show ¬ (9 : Int32) ≤ c.2.2.2.2.1
            rw [hT.2.1]
            exact Int32.not_le.mpr (nI_lt (b := 9) (by omega) (by omega))
          · refine ⟨vb c hT, nm_in (fun y1 b1 => ⟨vb c hT, nm_in (fun y2 b2 => ⟨vb c hT, nm_in (fun y3 b3 => ⟨vb c hT, nm_in (fun y4 b4 => nm_in (fun s b5 => nm_in (fun w6 b6 => nm_in (fun v6 b7 => ⟨bz_1, ?_⟩))))⟩)⟩)⟩)⟩
            have z5 : s = c.2.2.2.2.2.1 := by
              refine b5.trans ?_
              show c.2.2.2.2.2.1 &&& (((1 : Int32) <<< (c.2.2.2.2.1 &&& 31)) ^^^ (-1 : Int32)) = c.2.2.2.2.2.1
              rw [hT.2.1, hT.2.2.1]
              exact clr9 _ q _ g.2.2.2.1
            have z6 : w6 = c.2.2.2.2.2.2.1 := by
              refine b6.trans ?_
              show c.2.2.2.2.2.2.1 &&& (((1 : Int32) <<< (c.2.2.2.2.1 &&& 31)) ^^^ (-1 : Int32)) = c.2.2.2.2.2.2.1
              rw [hT.2.1, hT.2.2.2.1]
              exact clr9 _ q _ g.2.2.2.2.1
            have hc' := hT.build q b1 b2 b3 b4 b7 z5 z6 c.2.2.2.2.2.2.2.2.2
            refine ⟨?_, _, hn', hc', g.build hk hw q, ho, hrf, hle, hro, him, hpa.none⟩
            show nI (aN (buildA a k w)) - 1 = v6 - 1
            have e := hc'.2.1
            dsimp only at e
            rw [e]
    · refine sp_out_lo h (br_f (by decide) (sp_ref5 isR4 ?_))
      unfold p_X6_house
      refine sp_inN_t (Y := 0) (Z := 5) rfl rfl (by omega) hk (by omega) (br_f (by decide) (sp_wn_lo h (br_f (by decide) (br_f (by decide) (sp_ref6 isR4 ?_)))))
      exact ⟨rfl, a, hS, hT, g, ho, hrf.s _, hle, hro, him, hpa⟩
    · refine sp_out_hi h1 h2 (br_f (by decide) (sp_ref5 isR6 ?_))
      unfold p_X6_house
      refine sp_inN_t (Y := 0) (Z := 5) rfl rfl (by omega) hk (by omega) (br_f (by decide) (sp_wn_hi h1 h2 (br_f (by decide) (br_f (by decide) (sp_ref6 isR6 ?_)))))
      exact ⟨rfl, a, hS, hT, g, ho, hrf.s _, hle, hro, him, hpa⟩
  · refine br_out (M := 5) (by omega) hz (sp_ref5 isR2 ?_)
    unfold p_X6_house
    refine sp_inN_f (Y := 0) (Z := 5) rfl rfl (fun k _ h => hz k h) (br_t rfl (br_f (by decide) (br_f (by decide) (sp_ref6 isR2 ?_))))
    exact ⟨rfl, a, hS, hT, g, ho, hrf.s _, hle, hro, him, hpa⟩
/-- the best so far -/
def mxS (C : Nat → Int32) (i : Nat) (s : Int32 × Int32) : Int32 × Int32 := if C i ≤ s.1 then s else (C i, nI i)
theorem mx_t {C : Nat → Int32} {s0 : Int32 × Int32} {j : Nat} {x y : Int32} (e : (x, y) = pre (mxS C) s0 j) (w : C j ≤ x) : (x, y) = pre (mxS C) s0 (j + 1) := by
  show _ = mxS C j (pre (mxS C) s0 j)
  rw [← e]
  exact (if_pos w).symm
theorem mx_f {C : Nat → Int32} {s0 : Int32 × Int32} {j : Nat} {x y : Int32} (e : (x, y) = pre (mxS C) s0 j) (w : ¬ C j ≤ x) : (C j, nI j) = pre (mxS C) s0 (j + 1) := by
  show _ = mxS C j (pre (mxS C) s0 j)
  rw [← e]
  exact (if_neg w).symm
theorem okk_pour : ok_pour Inv := by
  rintro ⟨n, m, q, hh, P, le, nu, rf, pq⟩ ⟨c, th, le6, qz, ks, hi, td, ro, se, rf6, kp, ig, ts, tf, hd, gn⟩ p1 p2 p3 ⟨a, hS, hT, g, ho, hrf, hle, hro, him, hpa⟩
  dsimp only at hS hT hrf hle hro him hpa
  have h9 := g.1
  unfold p_X5_pour
  by_cases c1 : p1 < 1
  · refine br_t c1 (sp_ref5 isR4 ?_)
    unfold p_X6_pour
    refine br_t c1 (sp_wb_no (by decide) (br_f (by decide) (sp_ref6 isR4 ?_)))
    exact ⟨rfl, a, hS, hT, g, ho, hrf.s _, hle, hro, him, hpa⟩
  by_cases c2 : (0 : Int32) ≤ p2
  case neg =>
    refine br_f c1 (br_f c2 (sp_ref5 isR4 ?_))
    unfold p_X6_pour
    refine br_f c1 (br_f c2 (sp_wb_no (by decide) (br_f (by decide) (sp_ref6 isR4 ?_))))
    exact ⟨rfl, a, hS, hT, g, ho, hrf.s _, hle, hro, him, hpa⟩
  by_cases c3 : (99 : Int32) < p1
  · refine br_f c1 (br_t c2 (br_t c3 (sp_ref5 isR6 ?_)))
    unfold p_X6_pour
    refine br_f c1 (br_t c2 (br_t c3 (sp_wb_no (by decide) (br_f (by decide) (sp_ref6 isR6 ?_)))))
    exact ⟨rfl, a, hS, hT, g, ho, hrf.s _, hle, hro, him, hpa⟩
  by_cases c4 : p2 ≤ (60 : Int32)
  case neg =>
    refine br_f c1 (br_t c2 (br_f c3 (br_f c4 (sp_ref5 isR6 ?_))))
    unfold p_X6_pour
    refine br_f c1 (br_t c2 (br_f c3 (br_f c4 (sp_wb_no (by decide) (br_f (by decide) (sp_ref6 isR6 ?_))))))
    exact ⟨rfl, a, hS, hT, g, ho, hrf.s _, hle, hro, him, hpa⟩
  refine br_f c1 (br_t c2 (br_f c3 (br_t c4 ?_)))
  rcases in_or p3 1 with ⟨u, hu, rfl⟩ | hu
  case inr =>
    refine br_f (hu 0 (by omega)) (br_f (hu 1 (by omega)) (sp_ref5 isR2 ?_))
    unfold p_X6_pour
    refine br_f c1 (br_t c2 (br_f c3 (br_t c4 (sp_wb_f (M := 1) (by omega) hu (br_f (by decide) (sp_ref6 isR2 ?_))))))
    exact ⟨rfl, a, hS, hT, g, ho, hrf.s _, hle, hro, him, hpa⟩
  obtain ⟨w, hw, rfl⟩ := nI_of (x := p1) (fun h => c1 (Int32.lt_of_lt_of_le h (by decide)))
  obtain ⟨z, hz, rfl⟩ := nI_of (Int32.not_lt.mpr c2)
  have hw9 : w ≤ 99 := by
    rcases Nat.lt_or_ge 99 w with b | b
    · exact absurd (nI_lt b hw) c3
    · exact b
  have hz6 : z ≤ 60 := by
    rcases Nat.lt_or_ge 60 z with b | b
    · exact absurd (nI_lt b hz) (Int32.not_lt.mpr c4)
    · exact b
  let C : Nat → Int32 := fun i => nI (aC (flowsA (fillA a i w) z))
  have mod : ∀ m', p_X6_pour c th ks rf6 kp (nI w) (nI z) (nI u) (fun (r2 : Int32) (u2 : PT × Int32 × KS × F1 × F1) => (if u = 0 then (pre (mxS C) (-9, -9) (aN a)).2 else (pre (mxS C) (-9, -9) (aN a)).1) = r2 ∧ Inv (n, m', q, hh, P, le, nu, rf, pq) (u2.1, u2.2.1, le6, qz, u2.2.2.1, hi, td, ro, se, u2.2.2.2.1, u2.2.2.2.2, ig, ts, tf, hd, gn)) := by
    intro m'
    unfold p_X6_pour
    refine br_f c1 (br_t c2 (br_f c3 (br_t c4 (sp_wb_t (M := 1) hu (by omega) (br_t (by decide) (sp_think6 hT (fun c' ks' kp' hc hkk => ?_)))))))
    refine lpN_up (aN a) (fun j (x, y, i, k1, k2, k3, k4, k5, k6, k7, k8, k9, k0, _, _, _, kk) => (y, x) = pre (mxS C) (-9, -9) j ∧ i = nI j ∧ RP (k1, k2, k3, k4, k5, k6, k7, k8, k9, k0) a ∧ RK kk a) (by omega) ?_ ?_ _ ⟨rfl, rfl, hc, hkk⟩
    · rintro K j ⟨x, y, i, k1, k2, k3, k4, k5, k6, k7, k8, k9, k0, l1, l2, l3, kk⟩ hj ⟨e1, e2, e3, e4⟩ hK
      subst e2
      refine bLe (aN a) j e3.2.1 rfl (by omega) (by omega) (fun w => absurd w (by omega)) (fun _ => ?_)
      refine sp_pourIn (i := j) (v := w) e3 g hj (by omega) (fun t' ht' _ => sp_cupThen (n := z) ht' (g.fill hj) e4 (by omega) (fun t2 ks2 ht2 => ?_))
      refine ⟨fun q => ⟨fun _ => ?_, fun q2 => absurd q q2⟩, fun q => ⟨fun q2 => absurd q2 q, fun _ => ?_⟩⟩
      · exact hK _ ⟨mx_t e1 q, nI_1 j, ht2, e4⟩
      · exact hK _ ⟨mx_f e1 q, nI_1 j, ht2, e4⟩
    · rintro K ⟨x, y, i, k1, k2, k3, k4, k5, k6, k7, k8, k9, k0, l1, l2, l3, kk⟩ ⟨e1, e2, e3, e4⟩
      subst e2
      refine bLe (aN a) (aN a) e3.2.1 rfl (by omega) (by omega) (fun _ => ?_) (fun w => absurd w (by omega))
      rw [← e1]
      match u, hu with
      | 0, _ => exact br_t rfl ⟨rfl, a, hS, e3, g, ho, hrf, hle, hro, him, hpa⟩
      | 1, _ => exact br_f (by decide) ⟨rfl, a, hS, e3, g, ho, hrf, hle, hro, him, hpa⟩
  have lp : ∀ {F : ((Int32 × Int32 × Int32 × PT) → Prop) → Int32 × Int32 × Int32 × PT → Prop}, (∀ (K : (Int32 × Int32 × Int32 × PT) → Prop) (j : Nat) (x y : Int32) (t : PT), j < aN a → (x, y) = pre (mxS C) (-9, -9) j → (∀ t' x' y', (x', y') = pre (mxS C) (-9, -9) (j + 1) → K (x', y', nI j + 1, t')) → F K (x, y, nI j, t)) → (∀ (K : (Int32 × Int32 × Int32 × PT) → Prop) (x y : Int32) (t : PT), (x, y) = pre (mxS C) (-9, -9) (aN a) → F K (x, y, nI (aN a), t)) → lpN F 1000 (-9, -9, 0, m) := by
    intro F b1 b2
    refine lpN_up (aN a) (fun j s => (s.1, s.2.1) = pre (mxS C) (-9, -9) j ∧ s.2.2.1 = nI j) (by omega) ?_ ?_ _ ⟨rfl, rfl⟩
    · rintro K j ⟨x, y, i, t⟩ hj ⟨e1, e2⟩ hK
      dsimp only at e1 e2
      subst e2
      exact b1 K j x y t hj e1 (fun t' x' y' h => hK _ ⟨h, nI_1 j⟩)
    · rintro K ⟨x, y, i, t⟩ ⟨e1, e2⟩
      dsimp only at e1 e2
      subst e2
      exact b2 K x y t e1
  have go : ∀ (A B : Prop), A → (nI u = 0 → A) ∧ (¬ nI u = 0 → (nI u = (1 : Int32) → A) ∧ (¬ nI u = (1 : Int32) → B)) := by
    intro A B h
    match u, hu with
    | 0, _ => exact br_t rfl h
    | 1, _ => exact br_f (by decide) (br_t rfl h)
  refine go _ _ (lp (fun K j x y t hj e1 hK => ?_) (fun K x y t e1 => ?_))
  · refine sp_houses hS (bLe (aN a) j rfl rfl (by omega) (by omega) (fun w => absurd w (by omega)) (fun _ => sp_think5 hS (fun m' hm => sp_fill (i := j) hm g hj (by omega) (fun t' ht' _ => sp_cupBehind ht' (g.fill hj) (by omega) (fun t2 _ => ?_)))))
    exact ⟨fun q => hK t2 _ _ (mx_t e1 q), fun q => hK t2 _ _ (mx_f e1 q)⟩
  · refine sp_houses hS (bLe (aN a) (aN a) rfl rfl (by omega) (by omega) (fun _ => ?_) (fun w => absurd w (by omega)))
    have zz := mod t
    rw [← e1] at zz
    match u, hu, zz with
    | 0, _, zz => exact br_t rfl zz
    | 1, _, zz => exact br_f (by decide) zz
theorem slf9 : ∀ s, s < 512 → nI s &&& (nI s ^^^ (-1 : Int32)) = 0 := by decide +kernel
theorem okk_strong : ok_strong Inv := by
  rintro ⟨n, m, q, hh, P, le, nu, rf, pq⟩ ⟨c, th, le6, qz, ks, hi, td, ro, se, rf6, kp, ig, ts, tf, hd, gn⟩ p1 ⟨a, hS, hT, g, ho, hrf, hle, hro, him, hpa⟩
  dsimp only at hS hT hrf hle hro him hpa
  unfold p_X5_strong
  rcases out3 p1 0 60 (by omega) (by omega) with ⟨w, hw1, hw, rfl⟩ | h | ⟨h1, h2⟩
  · have gz : GP (setS a 0) := g.setS (Nat.pow_pos (by decide))
    refine sp_out_ok (lo := 0) (hi := 60) hw1 hw (by omega) (br_t rfl (sp_think5 hS (fun m1 hm1 => sp_cupBehind hm1 g (by omega) (fun m2 hm2 => sp_think5 hS (fun m3 hm3 => sp_blkBits hS ?_)))))
    unfold p_X3_free
    refine nm_in (fun st est => ?_)
    have e0 : st = nI 0 := by
      refine est.trans ?_
      rw [hm3.2.2.1]
      exact slf9 _ g.s512
    refine sp_cupBehind (hm3.setS e0) gz (by omega) (fun m4 hm4 => ?_)
    unfold p_X6_strong
    refine sp_wn_ok (lo := 0) (hi := 60) hw1 hw (by omega) (br_t (by decide) (sp_think6 hT (fun c' ks' kp' hc hkk => sp_cupThen hc g hkk (by omega) (fun t' ks2 ht' => sp_cupThen (ht'.setS (s := 0) rfl) gz hkk (by omega) (fun t2 ks3 ht2 => ?_)))))
    exact ⟨rfl, a, hS, ht2, g, ho, hrf, hle, hro, him, hpa⟩
  · refine sp_out_lo h (br_f (by decide) (sp_ref5 isR4 ?_))
    unfold p_X6_strong
    refine sp_wn_lo h (br_f (by decide) (sp_ref6 isR4 ?_))
    exact ⟨rfl, a, hS, hT, g, ho, hrf.s _, hle, hro, him, hpa⟩
  · refine sp_out_hi h1 h2 (br_f (by decide) (sp_ref5 isR6 ?_))
    unfold p_X6_strong
    refine sp_wn_hi h1 h2 (br_f (by decide) (sp_ref6 isR6 ?_))
    exact ⟨rfl, a, hS, hT, g, ho, hrf.s _, hle, hro, him, hpa⟩
