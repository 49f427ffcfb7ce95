theorem IRow.add {M B k : Nat} {x y : LT} {v : Int32} {w : Nat} (h : ∀ i, i < k → ∃ v, v < B ∧ x.1 i = nI v ∧ y.1 i = nI v) (hk : k < M) (hw : w < B) (hv : v = nI w) : IRow M B (upd x.1 (nI k).toNatClampNeg v, nI k + 1) (upd y.1 (nI k).toNatClampNeg v, nI k + 1) ∨ 2 ^ 31 ≤ k := by
  by_cases hb : 2 ^ 31 ≤ k
  · exact Or.inr hb
  · refine Or.inl ⟨k + 1, by omega, nI_1 k, nI_1 k, fun i hi => ?_⟩
    dsimp only
    rw [cl_nI (by omega)]
    by_cases e : i = k
    · subst e; exact ⟨w, hw, by rw [pk_us, hv], by rw [pk_us, hv]⟩
    · rw [pk_un e, pk_un e]; exact h i (by omega)
theorem okk_feed : ok_feed Inv := by
  rintro ⟨n, m, q, hh, P, le, nu, rf, pq⟩ ⟨c, th, le6, qz, ks, hi, td, ro, se, rf6, kp, ig, ts, tf, hd, gn⟩ p1 ⟨a, hS, hT, g, ho, hrf, hle, hro, him, hpa⟩
  dsimp only at hS hT hrf hle hro him hpa
  obtain ⟨k, hk, e1, e2, hv⟩ := hle
  obtain ⟨la, ls⟩ := le
  obtain ⟨la6, ls6⟩ := le6
  dsimp only at e1 e2 hv
  subst e1; subst e2
  unfold p_X5_feed
  rcases out3 p1 0 255 (by omega) (by omega) with ⟨w, -, hw, rfl⟩ | h | ⟨h1, h2⟩
  · refine sp_out_ok (lo := 0) (hi := 255) (by omega) hw (by omega) (br_t rfl ?_)
    unfold p_X1_add
    refine bLt k 96 rfl rfl (by omega) (by omega) (fun hk2 => ?_) (fun hk2 => ?_)
    · refine ⟨vp_in_nI hk2 (by decide), nm_in (fun f1 d1 => nm_in (fun v1 d2 => br_f (by decide) ?_))⟩
      unfold p_X6_feed
      refine br_t (nI_pos' (by omega)) (br_f (show ¬ nI 255 < nI w from nI_nlt hw (by omega)) (br_f (show ¬ nI k = nI 96 from fun q => by have := nI_inj (by omega) (by omega) q; omega) ⟨vp_in_nI hk2 (by decide), nm_in (fun f2 d3 => nm_in (fun v2 d4 => ?_))⟩))
      subst d1; subst d2; subst d3; subst d4
      refine ⟨rfl, a, hS, hT, g, ho, hrf, ?_, hro, him, hpa⟩
      rcases IRow.add (x := (la, nI k)) (y := (la6, nI k)) hv hk2 (show w < 256 by omega) rfl with z | z
      · exact z
      · omega
    · refine br_t rfl (sp_ref5 isR6 ?_)
      unfold p_X6_feed
      refine br_t (nI_pos' (by omega)) (br_f (show ¬ nI 255 < nI w from nI_nlt hw (by omega)) (br_t (show nI k = nI 96 by rw [show k = 96 by omega]) (sp_ref6 isR6 ?_)))
      exact ⟨rfl, a, hS, hT, g, ho, hrf.s _, ⟨k, hk, rfl, rfl, hv⟩, hro, him, hpa⟩
  · refine sp_out_lo h (br_f (by decide) (sp_ref5 isR4 ?_))
    unfold p_X6_feed
    refine br_f (Int32.not_le.mpr h) (sp_ref6 isR4 ?_)
    exact ⟨rfl, a, hS, hT, g, ho, hrf.s _, ⟨k, hk, rfl, rfl, hv⟩, hro, him, hpa⟩
  · refine sp_out_hi h1 h2 (br_f (by decide) (sp_ref5 isR6 ?_))
    unfold p_X6_feed
    refine br_t (Int32.not_lt.mp h1) (br_t h2 (sp_ref6 isR6 ?_))
    exact ⟨rfl, a, hS, hT, g, ho, hrf.s _, ⟨k, hk, rfl, rfl, hv⟩, hro, him, hpa⟩
theorem okk_row : ok_row Inv := by
  rintro ⟨n, m, q, hh, P, le, nu, rf, pq⟩ ⟨c, th, le6, qz, ks, hi, td, ro, se, rf6, kp, ig, ts, tf, hd, gn⟩ p1 ⟨a, hS, hT, g, ho, hrf, hle, hro, him, hpa⟩
  dsimp only at hS hT hrf hle hro him hpa
  obtain ⟨k, hk, e1, e2, hv⟩ := hro
  obtain ⟨la, ls⟩ := nu
  obtain ⟨la6, ls6⟩ := ro
  dsimp only at e1 e2 hv
  subst e1; subst e2
  unfold p_X5_row
  rcases out3 p1 0 99 (by omega) (by omega) with ⟨w, -, hw, rfl⟩ | h | ⟨h1, h2⟩
  · refine sp_out_ok (lo := 0) (hi := 99) (by omega) hw (by omega) (br_t rfl ?_)
    unfold p_X2_add
    refine bLt k 12 rfl rfl (by omega) (by omega) (fun hk2 => ?_) (fun hk2 => ?_)
    · refine ⟨vp_in_nI hk2 (by decide), nm_in (fun f1 d1 => nm_in (fun v1 d2 => br_f (by decide) ?_))⟩
      unfold p_X6_row
      refine br_t (nI_pos' (by omega)) (br_f (show ¬ nI 99 < nI w from nI_nlt hw (by omega)) (br_f (show ¬ nI k = nI 12 from fun q => by have := nI_inj (by omega) (by omega) q; omega) ⟨vp_in_nI hk2 (by decide), nm_in (fun f2 d3 => nm_in (fun v2 d4 => ?_))⟩))
      subst d1; subst d2; subst d3; subst d4
      refine ⟨rfl, a, hS, hT, g, ho, hrf, hle, ?_, him, hpa⟩
      rcases IRow.add (x := (la, nI k)) (y := (la6, nI k)) hv hk2 (show w < 100 by omega) rfl with z | z
      · exact z
      · omega
    · refine br_t rfl (sp_ref5 isR6 ?_)
      unfold p_X6_row
      refine br_t (nI_pos' (by omega)) (br_f (show ¬ nI 99 < nI w from nI_nlt hw (by omega)) (br_t (show nI k = nI 12 by rw [show k = 12 by omega]) (sp_ref6 isR6 ?_)))
      exact ⟨rfl, a, hS, hT, g, ho, hrf.s _, hle, ⟨k, hk, rfl, rfl, hv⟩, him, hpa⟩
  · refine sp_out_lo h (br_f (by decide) (sp_ref5 isR4 ?_))
    unfold p_X6_row
    refine br_f (Int32.not_le.mpr h) (sp_ref6 isR4 ?_)
    exact ⟨rfl, a, hS, hT, g, ho, hrf.s _, hle, ⟨k, hk, rfl, rfl, hv⟩, him, hpa⟩
  · refine sp_out_hi h1 h2 (br_f (by decide) (sp_ref5 isR6 ?_))
    unfold p_X6_row
    refine br_t (Int32.not_lt.mp h1) (br_t h2 (sp_ref6 isR6 ?_))
    exact ⟨rfl, a, hS, hT, g, ho, hrf.s _, hle, ⟨k, hk, rfl, rfl, hv⟩, him, hpa⟩
theorem okk_clear : ok_clear Inv := by
  rintro ⟨n, m, q, hh, P, le, nu, rf, pq⟩ ⟨c, th, le6, qz, ks, hi, td, ro, se, rf6, kp, ig, ts, tf, hd, gn⟩ ⟨a, hS, hT, g, ho, hrf, hle, hro, him, hpa⟩
  dsimp only at hS hT hrf hle hro him hpa
  obtain ⟨k, hk, e1, e2, hv⟩ := hro
  unfold p_X5_clear p_X2_size p_X2_drop p_X6_clear
  exact ⟨e1.trans e2.symm, a, hS, hT, g, ho, hrf, hle, ⟨0, by omega, rfl, rfl, fun i hi => absurd hi (Nat.not_lt_zero _)⟩, him, hpa⟩
theorem IPa.none {hh : HT} {P : Nat → PT} {td : Int32} {ts : F1} (h : IPa hh P td ts) : IPa (hh.1, 0) P 0 ts := by
  obtain ⟨k, la, -, hla, e1, -, -, -⟩ := h
  exact ⟨0, la, by omega, hla, e1, rfl, rfl, fun j hj => absurd hj (Nat.not_lt_zero _)⟩
theorem okk_empties : ok_empties Inv := by
  rintro ⟨n, m, q, hh, P, le, nu, rf, pq⟩ ⟨c, th, le6, qz, ks, hi, td, ro, se, rf6, kp, ig, ts, tf, hd, gn⟩ ⟨a, hS, hT, g, ho, hrf, hle, hro, him, hpa⟩
  dsimp only at hS hT hrf hle hro him hpa
  unfold p_X5_empties
  refine sp_inCup hS ?_
  unfold p_X3_emptyCup p_X4_forget p_X6_empties
  refine ⟨hT.2.2.2.2.1.symm, (aK a, aF a, aH a, aX a, aN a, aS a, aW a, 0, aO a), ⟨hS.1, hS.2.1, hS.2.2.1, hS.2.2.2.1, rfl, hS.2.2.2.2.2⟩, ⟨hT.1, hT.2.1, hT.2.2.1, hT.2.2.2.1, rfl, hT.2.2.2.2.2⟩, ⟨g.1, g.2.1, g.2.2.1, g.2.2.2.1, g.2.2.2.2.1, Nat.zero_le _⟩, ho, hrf, hle, hro, him, hpa.none⟩
theorem okk_image : ok_image Inv := by
  rintro ⟨n, m, q, hh, P, le, nu, rf, pq⟩ ⟨c, th, le6, qz, ks, hi, td, ro, se, rf6, kp, ig, ts, tf, hd, gn⟩ ⟨a, hS, hT, g, ho, hrf, hle, hro, him, hpa⟩
  dsimp only at hS hT hrf hle hro him hpa
  unfold p_X5_image
  refine sp_become hS (fun q' hq => sp_hour hS ?_)
  unfold p_X6_image
  refine sp_carryAllT hT (fun c' ks' ig' hc hco hig => ?_)
  exact ⟨hco.symm, a, hS, hc, g, ho, hrf, hle, hro, Or.inr ⟨rfl, rfl, a, hq, hig, g, ho⟩, hpa⟩
theorem okk_restore : ok_restore Inv := by
  rintro ⟨n, m, q, hh, P, le, nu, rf, pq⟩ ⟨c, th, le6, qz, ks, hi, td, ro, se, rf6, kp, ig, ts, tf, hd, gn⟩ ⟨a, hS, hT, g, ho, hrf, hle, hro, him, hpa⟩
  dsimp only at hS hT hrf hle hro him hpa
  unfold p_X5_restore
  rcases him with ⟨e1, e2⟩ | ⟨e1, e2, b, hq, hig, gb, hob⟩
  · subst e1; subst e2
    refine br_t rfl (sp_ref5 isR3 ?_)
    unfold p_X6_restore
    refine br_t rfl (sp_ref6 isR3 ?_)
    exact ⟨rfl, a, hS, hT, g, ho, hrf.s _, hle, hro, Or.inl ⟨rfl, rfl⟩, hpa⟩
  · subst e1; subst e2
    refine br_f (show ¬ (1 : Int32) = 0 by decide) (sp_become hq (fun n' hn => ?_))
    unfold p_X4_forget
    refine sp_hour hn ?_
    unfold p_X6_restore
    refine br_f (show ¬ (1 : Int32) = 0 by decide) (sp_carryAllR hig (fun c' ks' hc _ => ?_))
    exact ⟨hc.2.2.2.2.2.symm, b, hn, hc, gb, hob, hrf, hle, hro, Or.inr ⟨rfl, rfl, b, hq, hig, gb, hob⟩, hpa.none⟩
theorem okk_shares : ok_shares Inv := by
  rintro ⟨n, m, q, hh, P, le, nu, rf, pq⟩ ⟨c, th, le6, qz, ks, hi, td, ro, se, rf6, kp, ig, ts, tf, hd, gn⟩ p1 p2 ⟨a, hS, hT, g, ho, hrf, hle, hro, him, hpa⟩
  dsimp only at hS hT hrf hle hro him hpa
  have ec := hT.2.2.2.2.1
  unfold p_X5_shares
  rcases out3 p1 1 9 (by omega) (by omega) with ⟨w, hw1, hw, rfl⟩ | h | ⟨h1, h2⟩
  · have hne : ¬ nI w = 0 := nI_ne0 (by omega) (by omega)
    refine sp_out_ok (lo := 1) (hi := 9) hw1 hw (by omega) (br_t rfl ?_)
    rcases in_or p2 1 with ⟨z, hz, rfl⟩ | hz
    · match z, hz with
      | 0, _ =>
        refine br_t rfl (br_t rfl (sp_inCup hS ⟨hne, ?_⟩))
        unfold p_X6_shares
        refine sp_wn_ok (lo := 1) (hi := 9) hw1 hw (by omega) (sp_wb_t (k := 0) (M := 1) (by omega) (by omega) (br_t (by decide) (br_t rfl ⟨hne, ?_⟩)))
        rw [ec]
        exact ⟨rfl, a, hS, hT, g, ho, hrf, hle, hro, him, hpa⟩
      | 1, _ =>
        refine br_f (by decide) (br_t rfl (br_f (by decide) (sp_inCup hS ⟨hne, ?_⟩)))
        unfold p_X6_shares
        refine sp_wn_ok (lo := 1) (hi := 9) hw1 hw (by omega) (sp_wb_t (k := 1) (M := 1) (by omega) (by omega) (br_t (by decide) (br_f (by decide) ⟨hne, ?_⟩)))
        rw [ec]
        exact ⟨rfl, a, hS, hT, g, ho, hrf, hle, hro, him, hpa⟩
    · refine br_f (hz 0 (by omega)) (br_f (hz 1 (by omega)) (sp_ref5 isR2 ?_))
      unfold p_X6_shares
      refine sp_wn_ok (lo := 1) (hi := 9) hw1 hw (by omega) (sp_wb_f (M := 1) (by omega) hz (br_f (by decide) (sp_ref6 isR2 ?_)))
      exact ⟨rfl, a, hS, hT, g, ho, hrf.s _, hle, hro, him, hpa⟩
  · refine sp_out_lo h (br_f (by decide) (sp_ref5 isR4 ?_))
    unfold p_X6_shares
    refine sp_wn_lo h (sp_wb_no (by decide) (br_f (by decide) (sp_ref6 isR4 ?_)))
    exact ⟨rfl, a, hS, hT, g, ho, hrf.s _, hle, hro, him, hpa⟩
  · refine sp_out_hi h1 h2 (br_f (by decide) (sp_ref5 isR6 ?_))
    unfold p_X6_shares
    refine sp_wn_hi h1 h2 (sp_wb_no (by decide) (br_f (by decide) (sp_ref6 isR6 ?_)))
    exact ⟨rfl, a, hS, hT, g, ho, hrf.s _, hle, hro, him, hpa⟩
