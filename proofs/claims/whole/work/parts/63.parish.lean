/-! parish -/
theorem okk_parish : ok_parish Inv := by
  rintro ⟨n, m, q, hh, P, le, nu, rf, pq⟩ ⟨c, th, le6, qz, ks, hi, td, ro, se, rf6, kp, ig, ts, tf, hd, gn⟩ ⟨a, hS, hT, g, ho, hrf, hle, hro, him, hpa⟩
  dsimp only at hS hT hrf hle hro him hpa
  obtain ⟨k, hk, e1, e2, hl⟩ := id hle
  obtain ⟨f, hf⟩ : ∃ f : Nat → Nat, ∀ i, i < k → le.1 i = nI (f i) ∧ f i < 256 ∧ le6.1 i = nI (f i) := by
    refine ⟨fun i => (le.1 i).toNatClampNeg, fun i hi2 => ?_⟩
    obtain ⟨v, v1, v2, v3⟩ := hl i hi2
    have : (le.1 i).toNatClampNeg = v := by rw [v2]; exact cl_nI (by omega)
    show le.1 i = nI (le.1 i).toNatClampNeg ∧ (le.1 i).toNatClampNeg < 256 ∧ le6.1 i = nI (le.1 i).toNatClampNeg
    rw [this]
    exact ⟨v2, v1, v3⟩
  have h5 : RLe f k le := ⟨e1, fun i hi2 => ⟨(hf i hi2).1, (hf i hi2).2.1⟩⟩
  have h6 : RLe f k le6 := ⟨e2, fun i hi2 => ⟨(hf i hi2).2.2, (hf i hi2).2.1⟩⟩
  have row0 : ∀ x y : F1, IRow 96 256 (x, 0) (y, 0) := fun x y => ⟨0, by omega, rfl, rfl, fun i hi2 => absurd hi2 (by omega)⟩
  unfold p_X5_parish
  dsimp only
  refine sp_ff h5 hk (fun m2 e hF => ?_) (fun m2 hC => ?_)
  · have bd : stp f m2 + e < 200 := by
      have b1 := dbN_le (f (stp f m2))
      have b2 := hF.2.2.1
      have b0 : stp f 0 = 0 := rfl
      rcases hF.2.1 with z | z
      · subst z; omega
      · omega
    refine br_t (nI_pos' (by omega)) ?_
    unfold p_X1_drop
    refine sp_par6_flt h6 hk hF (fun qz' => ?_)
    exact ⟨rfl, a, hS, hT, g, ho, hrf, row0 _ _, hro, him, hpa⟩
  · refine br_f (by decide) (sp_told5 h5 hk hC hS g ho (fun ok n' m' hn' => ?_) (fun j hj ok no m' => ?_))
    · unfold p_X1_drop
      refine sp_par6_cln h6 hk hC hT g ho (fun _ c' qz' ks' kp' hc' => ?_) (fun j hj _ no => absurd (ok j hj) no)
      obtain ⟨gm, om⟩ := afs_good g ho hC.2.1 m2 (Nat.le_refl _) ok
      exact ⟨rfl, _, hn', hc', gm, om, hrf, row0 _ _, hro, him, hpa.none⟩
    · unfold p_X1_drop
      refine sp_par6_cln h6 hk hC hT g ho (fun ok2 => absurd (ok2 j hj) no) (fun j2 hj2 ok2 no2 c' qz' ks' kp' hc' => ?_)
      have ej : j2 = j := by
        rcases (show j2 < j ∨ j2 = j ∨ j < j2 by omega) with z | z | z
        · exact absurd (ok j2 z) no2
        · exact z
        · exact absurd (ok2 j z) no
      subst ej
      exact ⟨rfl, a, hS, hc', g, ho, hrf, row0 _ _, hro, him, hpa⟩
theorem allOk : okAll Inv := ⟨okk_feed, okk_parish, okk_houseOf, okk_house, okk_joins, okk_blocks, okk_pours, okk_empties, okk_hours, okk_back, okk_holdsIn, okk_then, okk_drip, okk_reaches, okk_pour, okk_least, okk_clearing, okk_stop, okk_join, okk_way, okk_whichBlocked, okk_wasPoured, okk_whatKind, okk_two, okk_blocked, okk_shares, okk_fullest, okk_into, okk_mean, okk_strong, okk_kinds, okk_turn, okk_row, okk_judge, okk_clear, okk_lots, okk_image, okk_restore, okk_count⟩
