theorem first_or (R : Nat → Prop) : ∀ k, ∃ d, d ≤ k ∧ (∀ j, j < d → R j) ∧ (d = k ∨ (d < k ∧ ¬ R d))
  | 0 => ⟨0, by omega, fun j h => absurd h (Nat.not_lt_zero j), Or.inl rfl⟩
  | k + 1 => by
    obtain ⟨d, h1, h2, h3⟩ := first_or R k
    rcases h3 with rfl | ⟨h3, h4⟩
    · by_cases w : R d
      · refine ⟨d + 1, by omega, fun j h => ?_, Or.inl rfl⟩
        rcases Nat.lt_or_ge j d with b | b
        · exact h2 j b
        · rw [show j = d by omega]; exact w
      · exact ⟨d, by omega, h2, Or.inr ⟨by omega, w⟩⟩
    · exact ⟨d, by omega, h2, Or.inr ⟨by omega, h4⟩⟩
theorem sp_at2 {t : LT} {k i v : Nat} {post : Int32 → Prop} (hs : t.2 = nI k) (hk : k ≤ 12) (hi : i < k) (hv : t.1 i = nI v) (q : post (nI v)) : p_X2_at t (nI i) post := by
  unfold p_X2_at
  refine br_f (Int32.not_lt.mpr (nI_pos' (by omega))) (bLe k i hs rfl (by omega) (by omega) (fun w => absurd w (by omega)) (fun _ => ⟨vp_in_nI (show i < 12 by omega) (by decide), ?_⟩))
  rw [cl_nI (by omega), hv]
  exact q
theorem okk_judge : ok_judge Inv := by
  rintro ⟨n, m, q, hh, P, le, nu, rf, pq⟩ ⟨c, th, le6, qz, ks, hi, td, ro, se, rf6, kp, ig, ts, tf, hd, gn⟩ ⟨a, hS, hT, g, ho, hrf, hle, hro, him, hpa⟩
  dsimp only at hS hT hrf hle hro him hpa
  have h9 := g.1
  obtain ⟨k, hk, e1, e2, hv⟩ := hro
  obtain ⟨na, ns⟩ := nu
  obtain ⟨ra, rs⟩ := ro
  dsimp only at e1 e2 hv
  subst e1; subst e2
  have m9 : ∀ z, z < 2 ^ 31 → ¬ nI z = (-9 : Int32) := by
    intro z hz e
    have := congrArg Int32.toInt e
    rw [nI_toInt hz] at this
    have : (-9 : Int32).toInt = -9 := rfl
    omega
  have zer : IRow 12 100 (na, (0 : Int32)) (ra, (0 : Int32)) := ⟨0, by omega, rfl, rfl, fun i hi => absurd hi (Nat.not_lt_zero _)⟩
  obtain ⟨d, hd1, hd2, hd3⟩ := first_or (fun j => j < aN a ∧ ra j = nI (aH a j)) k
  unfold p_X5_judge
  rcases hd3 with rfl | ⟨hd3, hd4⟩
  · refine lpN_up d (fun j z => z.2 = nI j ∧ z.1 = -9) (by omega) ?_ ?_ _ ⟨rfl, rfl⟩
    · rintro K j ⟨x, y⟩ hj ⟨w1, w2⟩ hK
      dsimp only at w1 w2
      subst w1; subst w2
      obtain ⟨q1, q2⟩ := hd2 j hj
      obtain ⟨v, hv1, hv2, hv3⟩ := hv j hj
      obtain ⟨-, -, gh, -⟩ := g.2.1 j (by omega)
      unfold p_X2_size
      refine bLe d j rfl rfl (by omega) (by omega) (fun w => absurd w (by omega)) (fun _ => br_t rfl (sp_there_t hS g q1 (br_f (by decide) (sp_holdsOf hS g q1 (sp_at2 (k := d) rfl hk hj hv2 (br_t ?_ (hK _ ⟨nI_1 j, rfl⟩)))))))
      rw [← hv3, q2]
    · rintro K ⟨x, y⟩ ⟨w1, w2⟩
      dsimp only at w1 w2
      subst w1; subst w2
      unfold p_X2_size
      refine bLe d d rfl rfl (by omega) (by omega) (fun _ => ?_) (fun w => absurd w (by omega))
      unfold p_X2_drop p_X6_judge
      refine lpN_up d (fun j z => z = nI j) (by omega) ?_ ?_ _ rfl
      · rintro K j x hj w1 hK
        subst w1
        obtain ⟨q1, q2⟩ := hd2 j hj
        refine bLe d j rfl rfl (by omega) (by omega) (fun w => absurd w (by omega)) (fun _ => bLe (aN a) j hT.2.1 rfl (by omega) (by omega) (fun w => absurd w (by omega)) (fun _ => ⟨vp_in_nI (show j < 12 by omega) (by decide), vin9 (by omega), br_t ?_ (hK _ (nI_1 j))⟩))
        rw [hT.h (by omega), cl_nI (by omega)]; exact q2
      · rintro K x w1
        subst w1
        refine bLe d d rfl rfl (by omega) (by omega) (fun _ => ?_) (fun w => absurd w (by omega))
        exact ⟨rfl, a, hS, hT, g, ho, hrf, hle, zer, him, hpa⟩
  · refine lpN_up (d + 1) (fun j z => z.2 = nI j ∧ ((j ≤ d ∧ z.1 = -9) ∨ (j = d + 1 ∧ z.1 = nI d))) (by omega) ?_ ?_ _ ⟨rfl, Or.inl ⟨by omega, rfl⟩⟩
    · rintro K j ⟨x, y⟩ hj ⟨w1, w2⟩ hK
      dsimp only at w1 w2
      rcases w2 with ⟨w2, w3⟩ | ⟨w2, -⟩
      · subst w1; subst w3
        unfold p_X2_size
        refine bLe k j rfl rfl (by omega) (by omega) (fun w => absurd w (by omega)) (fun _ => br_t rfl ?_)
        obtain ⟨v, hv1, hv2, hv3⟩ := hv j (by omega)
        rcases Nat.lt_or_ge j d with b | b
        · obtain ⟨q1, q2⟩ := hd2 j b
          refine sp_there_t hS g q1 (br_f (by decide) (sp_holdsOf hS g q1 (sp_at2 (k := k) rfl hk (by omega) hv2 (br_t ?_ (hK _ ⟨nI_1 j, Or.inl ⟨by omega, rfl⟩⟩)))))
          rw [← hv3, q2]
        · have ej : j = d := by omega
          subst ej
          rcases Nat.lt_or_ge j (aN a) with b2 | b2
          · refine sp_there_t hS g b2 (br_f (by decide) (sp_holdsOf hS g b2 (sp_at2 (k := k) rfl hk (by omega) hv2 (br_f (fun e => hd4 ⟨b2, ?_⟩) (hK _ ⟨nI_1 j, Or.inr ⟨rfl, rfl⟩⟩)))))
            rw [hv3, e]
          · exact sp_there_n hS g b2 (by omega) (br_t rfl (hK _ ⟨nI_1 j, Or.inr ⟨rfl, rfl⟩⟩))
      · omega
    · rintro K ⟨x, y⟩ ⟨w1, w2⟩
      dsimp only at w1 w2
      rcases w2 with ⟨w2, -⟩ | ⟨-, w3⟩
      · omega
      · subst w1; subst w3
        have fin : p_X2_drop (na, nI k) (fun (u6 : LT) => (fun (nuv7 : LT) => p_X6_judge c th (ra, nI k) (fun (r2 : Int32) (u2 : Int32 × LT) => nI d = r2 ∧ Inv (n, m, q, hh, P, le, nuv7, rf, pq) (c, u2.1, le6, qz, ks, hi, td, u2.2, se, rf6, kp, ig, ts, tf, hd, gn))) u6) := by
          unfold p_X2_drop p_X6_judge
          refine lpN_up d (fun j z => z = nI j) (by omega) ?_ ?_ _ rfl
          · rintro K j x hj w1 hK
            subst w1
            obtain ⟨q1, q2⟩ := hd2 j hj
            refine bLe k j rfl rfl (by omega) (by omega) (fun w => absurd w (by omega)) (fun _ => bLe (aN a) j hT.2.1 rfl (by omega) (by omega) (fun w => absurd w (by omega)) (fun _ => ⟨vp_in_nI (show j < 12 by omega) (by decide), vin9 (by omega), br_t ?_ (hK _ (nI_1 j))⟩))
            rw [hT.h (by omega), cl_nI (by omega)]; exact q2
          · rintro K x w1
            subst w1
            refine bLe k d rfl rfl (by omega) (by omega) (fun w => absurd w (by omega)) (fun _ => bLe (aN a) d hT.2.1 rfl (by omega) (by omega) (fun w => ?_) (fun w => ⟨vp_in_nI (show d < 12 by omega) (by decide), vin9 (by omega), br_f ?_ ?_⟩))
            · exact ⟨rfl, a, hS, hT, g, ho, hrf, hle, zer, him, hpa⟩
            · rw [hT.h (by omega), cl_nI (by omega)]
              exact fun e => hd4 ⟨w, e⟩
            · exact ⟨rfl, a, hS, hT, g, ho, hrf, hle, zer, him, hpa⟩
        unfold p_X2_size
        exact bLe k (d + 1) rfl rfl (by omega) (by omega) (fun _ => fin) (fun _ => br_f (m9 d (by omega)) fin)
theorem sp_hasBitE {z : Int32} {s i : Nat} {post : Int32 → Prop} (e : z = nI s) (hs : s < 2 ^ 31) (hi : i < 10) (k : post (nI (bt2 s i))) : p_X6_hasBit z (nI i) post := by
  subst e
  exact sp_hasBit hs hi k
theorem sp_letNext {t : PT} {a : AP} {i : Nat} {post : Int32 → Prop} (h : RP t a) (g : GP a) (hi : i < aN a) (k : post (nI (lvA a i))) : p_X6_letNext t (nI i) post := by
  have h9 := g.1
  have es := h.2.2.1
  have s := g.s512
  unfold p_X6_letNext
  refine sp_hasBitE es (by omega) (by omega) ?_
  unfold lvA at k
  rcases bt2_or (aS a) i with e | e
  · rw [e] at k ⊢
    rw [if_neg (by decide)] at k
    exact br_t rfl (sp_letsOf h g (by omega) k)
  · rw [e] at k ⊢
    rw [if_pos rfl] at k
    exact br_f (by decide) k
theorem okk_houseOf : ok_houseOf Inv := by
  rintro ⟨n, m, q, hh, P, le, nu, rf, pq⟩ ⟨c, th, le6, qz, ks, hi, td, ro, se, rf6, kp, ig, ts, tf, hd, gn⟩ p1 p2 ⟨a, hS, hT, g, ho, hrf, hle, hro, him, hpa⟩
  dsimp only at hS hT hrf hle hro him hpa
  have h9 := g.1
  have s5 := g.s512
  have w5 := g.w512
  unfold p_X5_houseOf
  rcases house_or a p1 with ⟨i, hii, rfl⟩ | hn
  · refine sp_there_t hS g hii (br_f (by decide) ?_)
    have st : ∀ {post : Int32 → Int32 × F1 → Prop} (k : Nat), k ≤ 6 → ((nI k = 0 → (vp_in (nI i) 9 ∧ post (c.1 (nI i).toNatClampNeg) ((0 : Int32), rf6))) ∧ (¬ nI k = 0 → ((nI k = 1 → (vp_in (nI i) 9 ∧ post (c.2.1 (nI i).toNatClampNeg) ((0 : Int32), rf6))) ∧ (¬ nI k = 1 → ((nI k = 2 → (vp_in (nI i) 9 ∧ post (c.2.2.1 (nI i).toNatClampNeg) ((0 : Int32), rf6))) ∧ (¬ nI k = 2 → ((nI k = 3 → (vp_in (nI i) 9 ∧ post (c.2.2.2.1 (nI i).toNatClampNeg) ((0 : Int32), rf6))) ∧ (¬ nI k = 3 → ((nI k = 4 → p_X6_hasBit c.2.2.2.2.2.1 (nI i) (fun (r9 : Int32) => ((r9 = 0 → post (0 : Int32) ((0 : Int32), rf6)) ∧ (¬ r9 = 0 → post (1 : Int32) ((0 : Int32), rf6))))) ∧ (¬ nI k = 4 → ((nI k = 5 → p_X6_hasBit c.2.2.2.2.2.2.1 (nI i) (fun (r10 : Int32) => ((r10 = 0 → post (0 : Int32) ((0 : Int32), rf6)) ∧ (¬ r10 = 0 → post (1 : Int32) ((0 : Int32), rf6))))) ∧ (¬ nI k = 5 → p_X6_letNext c (nI i) (fun (r11 : Int32) => post r11 ((0 : Int32), rf6)))))))))))))) → p_X6_houseOf c th rf6 (nI i) (nI k) post := by
      intro post k hk h
      unfold p_X6_houseOf
      exact sp_isH_t hT g hii (br_f (by decide) (sp_inN_t (Y := 0) (Z := 6) rfl rfl (by omega) hk (by omega) (br_f (by decide) h)))
    have fin : ∀ r : Int32, r = r ∧ Inv (n, m, q, hh, P, le, nu, rf, pq) (c, 0, le6, qz, ks, hi, td, ro, se, rf6, kp, ig, ts, tf, hd, gn) := fun r => ⟨rfl, a, hS, hT, g, ho, hrf, hle, hro, him, hpa⟩
    rcases in_or p2 6 with ⟨z, hz, rfl⟩ | hz
    · match z, hz with
      | 0, _ =>
        refine br_t rfl (sp_kindOf hS g hii (st 0 (by omega) (br_t rfl ⟨vin9 (by omega), ?_⟩)))
        rw [hT.k (by omega)]; exact fin _
      | 1, _ =>
        iterate 1 refine br_f (by decide) ?_
        refine br_t rfl (sp_figOf hS g hii (st 1 (by omega) ?_))
        iterate 1 refine br_f (by decide) ?_
        refine br_t rfl ⟨vin9 (by omega), ?_⟩
        rw [hT.f (by omega)]; exact fin _
      | 2, _ =>
        iterate 2 refine br_f (by decide) ?_
        refine br_t rfl (sp_holdsOf hS g hii (st 2 (by omega) ?_))
        iterate 2 refine br_f (by decide) ?_
        refine br_t rfl ⟨vin9 (by omega), ?_⟩
        rw [hT.h (by omega)]; exact fin _
      | 3, _ =>
        iterate 3 refine br_f (by decide) ?_
        refine br_t rfl (sp_nextOf hS g hii (st 3 (by omega) ?_))
        iterate 3 refine br_f (by decide) ?_
        refine br_t rfl ⟨vin9 (by omega), ?_⟩
        rw [hT.x (by omega)]; exact fin _
      | 4, _ =>
        iterate 4 refine br_f (by decide) ?_
        refine br_t rfl (sp_isBlk hS g hii ?_)
        have fin2 : ∀ r : Int32, (r = 0 ∧ bt2 (aS a) i = 0) ∨ (r = 1 ∧ bt2 (aS a) i = 1) → p_X6_houseOf c th rf6 (nI i) (nI 4) (fun (r2 : Int32) (u2 : Int32 × F1) => r = r2 ∧ Inv (n, m, q, hh, P, le, nu, rf, pq) (c, u2.1, le6, qz, ks, hi, td, ro, se, u2.2, kp, ig, ts, tf, hd, gn)) := by
          intro r hr
          refine st 4 (by omega) ?_
          iterate 4 refine br_f (by decide) ?_
          refine br_t rfl ?_
          refine sp_hasBitE hT.2.2.1 (by omega) (by omega) ?_
          rcases hr with ⟨rfl, e⟩ | ⟨rfl, e⟩ <;> rw [e]
          · exact br_t rfl (fin 0)
          · exact br_f (by decide) (fin 1)
        rcases bt2_or (aS a) i with e | e <;> rw [e]
        · exact br_t rfl (fin2 0 (Or.inl ⟨rfl, e⟩))
        · exact br_f (by decide) (fin2 1 (Or.inr ⟨rfl, e⟩))
      | 5, _ =>
        iterate 5 refine br_f (by decide) ?_
        refine br_t rfl (sp_isWet hS g hii ?_)
        have fin2 : ∀ r : Int32, (r = 0 ∧ bt2 (aW a) i = 0) ∨ (r = 1 ∧ bt2 (aW a) i = 1) → p_X6_houseOf c th rf6 (nI i) (nI 5) (fun (r2 : Int32) (u2 : Int32 × F1) => r = r2 ∧ Inv (n, m, q, hh, P, le, nu, rf, pq) (c, u2.1, le6, qz, ks, hi, td, ro, se, u2.2, kp, ig, ts, tf, hd, gn)) := by
          intro r hr
          refine st 5 (by omega) ?_
          iterate 5 refine br_f (by decide) ?_
          refine br_t rfl ?_
          refine sp_hasBitE hT.2.2.2.1 (by omega) (by omega) ?_
          rcases hr with ⟨rfl, e⟩ | ⟨rfl, e⟩ <;> rw [e]
          · exact br_t rfl (fin 0)
          · exact br_f (by decide) (fin 1)
        rcases bt2_or (aW a) i with e | e <;> rw [e]
        · exact br_t rfl (fin2 0 (Or.inl ⟨rfl, e⟩))
        · exact br_f (by decide) (fin2 1 (Or.inr ⟨rfl, e⟩))
      | 6, _ =>
        iterate 6 refine br_f (by decide) ?_
        refine br_t rfl (sp_isBlk hS g hii ?_)
        have fin2 : ∀ r : Int32, r = nI (lvA a i) → p_X6_houseOf c th rf6 (nI i) (nI 6) (fun (r2 : Int32) (u2 : Int32 × F1) => r = r2 ∧ Inv (n, m, q, hh, P, le, nu, rf, pq) (c, u2.1, le6, qz, ks, hi, td, ro, se, u2.2, kp, ig, ts, tf, hd, gn)) := by
          intro r hr
          refine st 6 (by omega) ?_
          iterate 6 refine br_f (by decide) ?_
          refine sp_letNext hT g hii ?_
          exact ⟨hr, (fin 0).2⟩
        rcases bt2_or (aS a) i with e | e <;> rw [e]
        · refine br_t rfl (sp_lets3 hS g hii (fin2 _ ?_))
          unfold lvA; rw [e, if_neg (by decide)]
        · refine br_f (by decide) (fin2 0 ?_)
          unfold lvA; rw [e, if_pos rfl]; rfl
    · refine br_f (hz 0 (by omega)) (br_f (hz 1 (by omega)) (br_f (hz 2 (by omega)) (br_f (hz 3 (by omega)) (br_f (hz 4 (by omega)) (br_f (hz 5 (by omega)) (br_f (hz 6 (by omega)) (sp_ref5 isR2 ?_)))))))
      unfold p_X6_houseOf
      refine sp_isH_t hT g hii (br_f (by decide) (sp_inN_f (Y := 0) (Z := 6) rfl rfl (fun k _ h => hz k h) (br_t rfl (sp_isH_t hT g hii (br_f (by decide) (sp_ref6 isR2 ?_))))))
      exact ⟨rfl, a, hS, hT, g, ho, hrf.s _, hle, hro, him, hpa⟩
  · refine sp_there_f hS g hn (br_t rfl (sp_ref5 isR1 ?_))
    unfold p_X6_houseOf
    refine sp_isH_f hT g hn (br_t rfl (sp_isH_f hT g hn (br_t rfl (sp_ref6 isR1 ?_))))
    exact ⟨rfl, a, hS, hT, g, ho, hrf.s _, hle, hro, him, hpa⟩
theorem flowsH_C (a : AP) (k : Nat) : aC (hoursA a k) = aC (flowsA a k) := rfl
theorem okk_then : ok_then Inv := by
  rintro ⟨n, m, q, hh, P, le, nu, rf, pq⟩ ⟨c, th, le6, qz, ks, hi, td, ro, se, rf6, kp, ig, ts, tf, hd, gn⟩ p1 p2 ⟨a, hS, hT, g, ho, hrf, hle, hro, him, hpa⟩
  dsimp only at hS hT hrf hle hro him hpa
  have h9 := g.1
  unfold p_X5_then
  rcases out3 p1 0 60 (by omega) (by omega) with ⟨w, hw1, hw, rfl⟩ | h | ⟨h1, h2⟩
  · refine sp_out_ok (lo := 0) (hi := 60) hw1 hw (by omega) (br_t rfl ?_)
    have gh := g.hours w
    have c5 : ∀ {post : Int32 → PT × F1 → Prop} {z : Nat}, z ≤ 1 → (∀ m', post (nI (if z = 0 then aC (hoursA a w) else sumN (aH (hoursA a w)) (aN (hoursA a w)))) (m', rf)) → p_X5_think n m (fun (u3 : PT) => (fun (mv4 : PT) => p_X3_pass mv4 (nI w) (fun (u5 : PT) => (fun (mv6 : PT) => ((nI z = 0 → p_X3_inCup mv6 (fun (r8 : Int32) => post r8 (mv6, rf))) ∧ (¬ nI z = 0 → p_X3_holdsInAll mv6 (fun (r7 : Int32) => post r7 (mv6, rf))))) u5)) u3) := by
      intro post z hz h
      refine sp_think5 hS (fun m' hm => sp_pass hm g (by omega) (fun m2 hm2 => ?_))
      match z, hz with
      | 0, _ => exact br_t rfl (sp_inCup hm2 (h m2))
      | 1, _ => exact br_f (by decide) (sp_holdsAll hm2 gh (h m2))
    have c6 : ∀ {z : Nat} (m' : PT), z ≤ 1 → p_X6_then c th ks rf6 kp (nI w) (nI z) (fun (r2 : Int32) (u2 : PT × Int32 × KS × F1 × F1) => nI (if z = 0 then aC (hoursA a w) else sumN (aH (hoursA a w)) (aN (hoursA a w))) = r2 ∧ Inv (n, m', q, hh, P, le, nu, rf, pq) (u2.1, u2.2.1, le6, qz, u2.2.2.1, hi, td, ro, se, u2.2.2.2.1, u2.2.2.2.2, ig, ts, tf, hd, gn)) := by
      intro z m' hz
      unfold p_X6_then
      refine sp_wn_ok (lo := 0) (hi := 60) hw1 hw (by omega) (sp_wb_t (M := 1) hz (by omega) (br_t (by decide) (sp_think6 hT (fun t' ks' kp' ht hk => sp_goHours ht g (by omega) (fun t2 ht2 => ?_)))))
      match z, hz with
      | 0, _ =>
        refine br_t rfl (sp_again6 hk (fun t3 ks3 ht3 => ?_))
        exact ⟨ht2.2.2.2.2.1.symm, a, hS, ht3, g, ho, hrf, hle, hro, him, hpa⟩
      | 1, _ =>
        refine br_f (by decide) (sp_allHold ht2 gh (sp_again6 hk (fun t3 ks3 ht3 => ?_)))
        exact ⟨rfl, a, hS, ht3, g, ho, hrf, hle, hro, him, hpa⟩
    rcases in_or p2 1 with ⟨z, hz, rfl⟩ | hz
    · have gq := c5 (post := fun (r1 : Int32) (u1 : PT × F1) => p_X6_then c th ks rf6 kp (nI w) (nI z) (fun (r2 : Int32) (u2 : PT × Int32 × KS × F1 × F1) => r1 = r2 ∧ Inv (n, u1.1, q, hh, P, le, nu, u1.2, pq) (u2.1, u2.2.1, le6, qz, u2.2.2.1, hi, td, ro, se, u2.2.2.2.1, u2.2.2.2.2, ig, ts, tf, hd, gn))) hz (fun m' => c6 m' hz)
      match z, hz with
      | 0, _ => exact br_t rfl gq
      | 1, _ => exact br_f (by decide) (br_t rfl gq)
    · refine br_f (hz 0 (by omega)) (br_f (hz 1 (by omega)) (sp_ref5 isR2 ?_))
      unfold p_X6_then
      refine sp_wn_ok (lo := 0) (hi := 60) hw1 hw (by omega) (sp_wb_f (M := 1) (by omega) hz (br_f (by decide) (sp_ref6 isR2 ?_)))
      exact ⟨rfl, a, hS, hT, g, ho, hrf.s _, hle, hro, him, hpa⟩
  · refine sp_out_lo h (br_f (by decide) (sp_ref5 isR4 ?_))
    unfold p_X6_then
    refine sp_wn_lo h (sp_wb_no (by decide) (br_f (by decide) (sp_ref6 isR4 ?_)))
    exact ⟨rfl, a, hS, hT, g, ho, hrf.s _, hle, hro, him, hpa⟩
  · refine sp_out_hi h1 h2 (br_f (by decide) (sp_ref5 isR6 ?_))
    unfold p_X6_then
    refine sp_wn_hi h1 h2 (sp_wb_no (by decide) (br_f (by decide) (sp_ref6 isR6 ?_)))
    exact ⟨rfl, a, hS, hT, g, ho, hrf.s _, hle, hro, him, hpa⟩
theorem okk_holdsIn : ok_holdsIn Inv := by
  rintro ⟨n, m, q, hh, P, le, nu, rf, pq⟩ ⟨c, th, le6, qz, ks, hi, td, ro, se, rf6, kp, ig, ts, tf, hd, gn⟩ p1 p2 ⟨a, hS, hT, g, ho, hrf, hle, hro, him, hpa⟩
  dsimp only at hS hT hrf hle hro him hpa
  have h9 := g.1
  unfold p_X5_holdsIn
  rcases house_or a p1 with ⟨i, hi, rfl⟩ | hn
  · refine sp_there_t hS g hi (br_f (by decide) ?_)
    rcases out3 p2 0 60 (by omega) (by omega) with ⟨w, hw1, hw, rfl⟩ | h | ⟨h1, h2⟩
    · have gh := g.hours w
      have hn2 : i < aN (hoursA a w) := by
        show i < aN (flowsA a w)
        rw [flows_N g]; exact hi
      refine sp_out_ok (lo := 0) (hi := 60) hw1 hw (by omega) (br_t rfl (sp_think5 hS (fun m' hm => sp_pass hm g (by omega) (fun m2 hm2 => sp_holdsOf hm2 gh hn2 ?_))))
      unfold p_X6_holdsIn
      refine sp_isH_t hT g hi (br_f (by decide) (sp_wn_ok (lo := 0) (hi := 60) hw1 hw (by omega) (br_t (by decide) (sp_think6 hT (fun t' ks' kp' ht hk => sp_goHours ht g (by omega) (fun t2 ht2 => ⟨vin9 (by omega), nm_in (fun v e => sp_again6 hk (fun t3 ks3 ht3 => ?_))⟩))))))
      refine ⟨?_, a, hS, ht3, g, ho, hrf, hle, hro, him, hpa⟩
      rw [e]
      exact (ht2.h (by omega)).symm
    · refine sp_out_lo h (br_f (by decide) (sp_ref5 isR4 ?_))
      unfold p_X6_holdsIn
      refine sp_isH_t hT g hi (br_f (by decide) (sp_wn_lo h (br_f (by decide) (sp_ref6 isR4 ?_))))
      exact ⟨rfl, a, hS, hT, g, ho, hrf.s _, hle, hro, him, hpa⟩
    · refine sp_out_hi h1 h2 (br_f (by decide) (sp_ref5 isR6 ?_))
      unfold p_X6_holdsIn
      refine sp_isH_t hT g hi (br_f (by decide) (sp_wn_hi h1 h2 (br_f (by decide) (sp_ref6 isR6 ?_))))
      exact ⟨rfl, a, hS, hT, g, ho, hrf.s _, hle, hro, him, hpa⟩
  · refine sp_there_f hS g hn (br_t rfl (sp_ref5 isR1 ?_))
    unfold p_X6_holdsIn
    refine sp_isH_f hT g hn (br_t rfl (br_f (by decide) (sp_ref6 isR1 ?_)))
    exact ⟨rfl, a, hS, hT, g, ho, hrf.s _, hle, hro, him, hpa⟩
