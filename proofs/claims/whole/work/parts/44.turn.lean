theorem RP.rem1 {t : PT} {a : AP} (h : RP t a) {i k : Nat} (hi : i < 9) {x1 : F1} (e1 : x1 = upd t.1 (nI i).toNatClampNeg (nI k)) : RP (x1, t.2) (remA a i k (aF a i)) := by
  subst e1
  refine ⟨fun j hj => ⟨upd_up hi (fun j hj => (h.1 j hj).1) rfl j hj, ?_, (h.1 j hj).2.2⟩, h.2⟩
  show t.2.1 j = nI (upN (aF a) i (aF a i) j)
  by_cases e : j = i
  · subst e; rw [upN_s]; exact (h.1 j hj).2.1
  · rw [upN_n e]; exact (h.1 j hj).2.1
theorem okk_turn : ok_turn Inv := by
  rintro ⟨n, m, q, hh, P, le, nu, rf, pq⟩ ⟨c, th, le6, qz, ks, hi, td, ro, se, rf6, kp, ig, ts, tf, hd, gn⟩ p1 p2 ⟨a, hS, hT, g, ho, hrf, hle, hro, him, hpa⟩
  dsimp only at hS hT hrf hle hro him hpa
  have h9 := g.1
  unfold p_X5_turn
  rcases house_or a p1 with ⟨h, hh2, rfl⟩ | hn
  case inr =>
    refine sp_there_f hS g hn (br_t rfl (sp_ref5 isR1 ?_))
    unfold p_X6_turn
    refine sp_isH_f hT g hn (br_t rfl (br_f (by decide) (sp_ref6 isR1 ?_)))
    exact ⟨rfl, a, hS, hT, g, ho, hrf.s _, hle, hro, him, hpa⟩
  obtain ⟨-, gg, -, -⟩ := g.2.1 h (by omega)
  refine sp_there_t hS g hh2 (br_f (by decide) ?_)
  rcases out3 p2 0 60 (by omega) (by omega) with ⟨w, hw1, hw, rfl⟩ | h | ⟨h1, h2⟩
  · let B : Nat → AP := fun i => remA a h i (aF a h)
    have gB : ∀ j, j < 6 → GP (B j) := fun j hj => g.rem hj gg
    let C : Nat → Int32 := fun i => nI (aC (flowsA (B i) w))
    have hC : ∀ i, i < 6 → ¬ C i < 0 := fun i hi => Int32.not_lt.mpr (nI_pos' (by have := ((gB i hi).flows w).2.2.2.2.2; omega))
    have s1 : pre (mxS C) (C 0, nI 0) 1 = (C 0, nI 0) := if_pos (Int32.le_refl _)
    refine sp_out_ok (lo := 0) (hi := 60) hw1 hw (by omega) (br_t rfl ?_)
    refine lpN_up 6 (fun j z => ((j = 0 ∧ z.1 = -9) ∨ (0 < j ∧ (z.1, z.2.1) = pre (mxS C) (C 0, nI 0) j)) ∧ z.2.2.1 = nI j) (by decide) ?_ ?_ _ ⟨Or.inl ⟨rfl, rfl⟩, rfl⟩
    · rintro K j ⟨x, y, i, t⟩ hj ⟨w1, w2⟩ hK
      dsimp only at w1 w2
      subst w2
      refine bLt 5 j rfl rfl (by omega) (by omega) (fun w => absurd w (by omega)) (fun _ => sp_think5 hS (fun m1 hm1 => sp_figOf hS g hh2 (sp_remake hm1 g hh2 (fun m2 hm2 => sp_cupBehind hm2 (gB j hj) (by omega) (fun m3 _ => ?_)))))
      rcases w1 with ⟨rfl, rfl⟩ | ⟨j0, w1⟩
      · refine br_f (fun e => hC 0 hj (Int32.lt_of_le_of_lt (show C 0 ≤ -9 from e) (by decide))) (hK _ ⟨Or.inr ⟨by omega, s1.symm⟩, nI_1 0⟩)
      · exact ⟨fun q => hK _ ⟨Or.inr ⟨by omega, mx_t w1 q⟩, nI_1 j⟩, fun q => hK _ ⟨Or.inr ⟨by omega, mx_f w1 q⟩, nI_1 j⟩⟩
    · rintro K ⟨x, y, i, t⟩ ⟨w1, w2⟩
      dsimp only at w1 w2
      subst w2
      rcases w1 with ⟨w1, -⟩ | ⟨-, w1⟩
      · omega
      refine bLt 5 6 rfl rfl (by omega) (by omega) (fun _ => ?_) (fun w => absurd w (by omega))
      unfold p_X6_turn
      refine sp_isH_t hT g hh2 (br_f (by decide) (sp_wn_ok (lo := 0) (hi := 60) hw1 hw (by omega) (br_t (by decide) (sp_think6 hT (fun c' ks' kp' hc hkk => ?_)))))
      refine lpN_up 6 (fun j (x, y, i, k1, k2, k3, k4, k5, k6, k7, k8, k9, k0, _, _, _, kk) => ((j = 0 ∧ y = -1) ∨ (0 < j ∧ (y, x) = pre (mxS C) (C 0, nI 0) j)) ∧ i = nI j ∧ RP (k1, k2, k3, k4, k5, k6, k7, k8, k9, k0) a ∧ RK kk a) (by omega) ?_ ?_ _ ⟨Or.inl ⟨rfl, rfl⟩, rfl, hc, hkk⟩
      · rintro K j ⟨x, y, i, k1, k2, k3, k4, k5, k6, k7, k8, k9, k0, l1, l2, l3, kk⟩ hj ⟨w1, w2, w3, w4⟩ hK
        subst w2
        refine bLe 6 j rfl rfl (by omega) (by omega) (fun w => absurd w (by omega)) (fun _ => ⟨vin9 (by omega), nm_in (fun x1 d1 => ?_)⟩)
        have hb := w3.rem1 (i := h) (k := j) (by omega) d1
        refine sp_cupThen (b := B j) hb (gB j hj) w4 (by omega) (fun t2 ks3 ht2 => ?_)
        rcases w1 with ⟨rfl, rfl⟩ | ⟨j0, w1⟩
        · have nn : ¬ C 0 ≤ (-1 : Int32) := fun e => hC 0 hj (Int32.lt_of_le_of_lt e (by decide))
          exact br_f nn (br_f nn (hK _ ⟨Or.inr ⟨by omega, s1.symm⟩, nI_1 0, ht2, w4⟩))
        · exact ⟨fun r => ⟨fun _ => hK _ ⟨Or.inr ⟨by omega, mx_t w1 r⟩, nI_1 j, ht2, w4⟩, fun r2 => absurd r r2⟩, fun r => ⟨fun r2 => absurd r2 r, fun _ => hK _ ⟨Or.inr ⟨by omega, mx_f w1 r⟩, nI_1 j, ht2, w4⟩⟩⟩
      · rintro K ⟨x2, y2, i, k1, k2, k3, k4, k5, k6, k7, k8, k9, k0, l1, l2, l3, kk⟩ ⟨w1', w2, w3, w4⟩
        subst w2
        rcases w1' with ⟨w1', -⟩ | ⟨-, w1'⟩
        · omega
        have w6 := w1.trans w1'.symm
        injection w6 with f1 f2
        exact bLe 6 6 rfl rfl (by omega) (by omega) (fun _ => ⟨f2, a, hS, w3, g, ho, hrf, hle, hro, him, hpa⟩) (fun w => absurd w (by omega))
  · refine sp_out_lo h (br_f (by decide) (sp_ref5 isR4 ?_))
    unfold p_X6_turn
    refine sp_isH_t hT g hh2 (br_f (by decide) (sp_wn_lo h (br_f (by decide) (sp_ref6 isR4 ?_))))
    exact ⟨rfl, a, hS, hT, g, ho, hrf.s _, hle, hro, him, hpa⟩
  · refine sp_out_hi h1 h2 (br_f (by decide) (sp_ref5 isR6 ?_))
    unfold p_X6_turn
    refine sp_isH_t hT g hh2 (br_f (by decide) (sp_wn_hi h1 h2 (br_f (by decide) (sp_ref6 isR6 ?_))))
    exact ⟨rfl, a, hS, hT, g, ho, hrf.s _, hle, hro, him, hpa⟩
