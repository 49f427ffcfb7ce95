/-! an hour in which all stand still -/
theorem sp_hour1 {t : PT} {a : AP} {post : PT → Prop} (h : RP t a) (g : GP a) (k : ∀ t', RP t' (setO a (aO a + 1)) → post t') : p_X6_hourBy t 1 post := by
  have h9 := g.1
  unfold p_X6_hourBy
  refine nm_in (fun v1 ev1 => ?_)
  have eo := h.2.2.2.2.2
  rw [eo, nI_1] at ev1
  have h1 := h.setO ev1 0
  have g0 : GP (Jvm.Pilot.@@N@@.setO a (aO a + 1)) := g
  have h9' : aN (Jvm.Pilot.@@N@@.setO a (aO a + 1)) ≤ 9 := h9
  clear h9 g h eo
  generalize Jvm.Pilot.@@N@@.setO a (aO a + 1) = a at h1 g0 k h9'
  refine lpN_up (aN a) (fun i z => z.1 = nI i ∧ RP z.2 a ∧ z.2.2.2.2.2.2.2.2.2.2 = 0) (by omega) ?_ ?_ _ ⟨rfl, h1, rfl⟩
  · rintro K i ⟨x2, kd, fg, hd, nx, bu, st, we, cu, ho, dr⟩ hi ⟨e2, hR, hd2⟩ hK
    dsimp only at e2 hR hd2
    subst e2; subst hd2
    have hi9 : i < 9 := by omega
    have hx9 := (g0.2.1 i hi9).2.2.2
    have hh := (g0.2.1 i hi9).2.2.1
    have e4 := hR.x hi9
    have e5 := hR.2.1
    have e6 := hR.2.2.2.2.1
    dsimp only at e4 e5 e6
    have hc := g0.2.2.2.2.2
    refine bLe (aN a) i hR.2.1 rfl (by omega) (by omega) (fun q => absurd q (by omega)) (fun _ => ?_)
    refine br_f (show ¬ (1 : Int32) = 0 by decide) ⟨vin9 hi9, vin9 hi9, nm_in (fun hd16 eh => ?_)⟩
    have hR2 := hR.dec g0 hi9 (l := 0) (Nat.zero_le _) eh
    rw [dec_0] at hR2
    refine br_t rfl ⟨vin9 hi9, ?_⟩
    refine bLe (aN a) (aX a i) e5 e4 (by omega) (by omega) (fun q => ?_) (fun q => ⟨vin9 hi9, ?_⟩)
    · have e7 : cu + 0 = nI (aC a) := (Int32.add_zero _).trans e6
      show p_X6_held (cu + 0) 9999 _
      rw [e7]
      refine sp_held (M := 9999) rfl (by omega) (by decide) ?_
      rw [show min (aC a) 9999 = aC a by omega]
      refine br_t rfl (br_t (show (0 : Int32) ≤ 0 by decide) ⟨bz_0, hK _ ⟨nI_1 i, ?_, rfl⟩⟩)
      have z := hR2
      rw [show cu = nI (aC a) from e6] at z
      exact z
    · show p_X6_pourIn _ (nx (nI i).toNatClampNeg) 0 _
      rw [e4]
      refine sp_pourIn (v := 0) hR2 g0 q (by omega) (fun t' ht' edr => hK _ ⟨nI_1 i, ?_, edr⟩)
      rw [fill_0 (g0.2.1 _ (by omega)).2.2.1] at ht'
      exact ht'
  · rintro K ⟨x2, t2⟩ ⟨e2, hR, -⟩
    dsimp only at e2 hR
    subst e2
    exact bLe (aN a) (aN a) hR.2.1 rfl (by omega) (by omega) (fun _ => k _ hR) (fun q => absurd q (by omega))
