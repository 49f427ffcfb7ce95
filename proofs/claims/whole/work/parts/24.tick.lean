def setO (a : AP) (o : Nat) : AP := (aK a, aF a, aH a, aX a, aN a, aS a, aW a, aC a, o)
theorem GP.setO {a : AP} (g : GP a) {o : Nat} : GP (setO a o) := g
theorem flS_setO (i o : Nat) (s : AP × Nat × Nat) : flS i (setO s.1 o, s.2) = (setO (flS i s).1 o, (flS i s).2) := by
  have e1 : lvA (setO s.1 o) i = lvA s.1 i := rfl
  have e2 : cmA (setO s.1 o) i = cmA s.1 i := rfl
  unfold flS
  dsimp only
  rw [e1, e2]
  show (if lvA s.1 i = 0 then (setO s.1 o, s.2) else if aX s.1 i < aN s.1 then _ else _) = _
  by_cases h : lvA s.1 i = 0
  · rw [if_pos h, if_pos h]
  · rw [if_neg h, if_neg h]
    by_cases h2 : aX s.1 i < aN s.1
    · rw [if_pos h2, if_pos h2]; rfl
    · rw [if_neg h2, if_neg h2]; rfl
theorem flP_setO (a : AP) (o : Nat) : ∀ i, flP (setO a o) i = (setO (flP a i).1 o, (flP a i).2)
  | 0 => rfl
  | i + 1 => by
    show flS i (flP (setO a o) i) = _
    rw [flP_setO a o i]
    exact flS_setO i o (flP a i)
theorem flow_setO (a : AP) (o : Nat) : flowA (setO a o) = setO (flowA a) o := congrArg Prod.fst (flP_setO a o (aN a))
theorem drip_setO (a : AP) (o : Nat) : drip (setO a o) = drip a := congrArg (fun z => z.2.2) (flP_setO a o (aN a))
def tickA (a : AP) : AP := setO (flowA a) (aO a + 1)
theorem GP.tick {a : AP} (g : GP a) : GP (tickA a) := g.flow.setO
theorem RP.setO {t : PT} {a : AP} (h : RP t a) {o : Nat} {ho : Int32} (e : ho = nI o) (dr : Int32) : RP (t.1, t.2.1, t.2.2.1, t.2.2.2.1, t.2.2.2.2.1, t.2.2.2.2.2.1, t.2.2.2.2.2.2.1, t.2.2.2.2.2.2.2.1, ho, dr) (setO a o) := ⟨h.1, h.2.1, h.2.2.1, h.2.2.2.1, h.2.2.2.2.1, e⟩
set_option maxHeartbeats 1000000 in
theorem sp_hour0 {t : PT} {a : AP} {post : PT → Prop} (h : RP t a) (g : GP a) (k : ∀ t', RP t' (tickA a) → t'.2.2.2.2.2.2.2.2.2 = nI (drip a) → post t') : p_X6_hourBy t 0 post := by
  have h9 := g.1
  unfold p_X6_hourBy
  refine nm_in (fun v1 ev1 => ?_)
  have eo := h.2.2.2.2.2
  rw [eo, nI_1] at ev1
  have h1 := h.setO ev1 0
  have g0 : GP (Jvm.Pilot.@@N@@.setO a (aO a + 1)) := g
  have ef : flowA (Jvm.Pilot.@@N@@.setO a (aO a + 1)) = tickA a := flow_setO a _
  have ed : drip (Jvm.Pilot.@@N@@.setO a (aO a + 1)) = drip a := drip_setO a _
  rw [← ef, ← ed] at k
  have h9' : aN (Jvm.Pilot.@@N@@.setO a (aO a + 1)) ≤ 9 := h9
  clear ef ed h9 g h eo
  generalize Jvm.Pilot.@@N@@.setO a (aO a + 1) = a at h1 g0 k h9'
  refine lpN_up (aN a) (fun i z => z.1 = nI i ∧ RP z.2 (flP a i).1 ∧ z.2.2.2.2.2.2.2.2.2.2 = nI (flP a i).2.2) (by omega) ?_ ?_ _ ⟨rfl, h1, rfl⟩
  · rintro K i ⟨x2, kd, fg, hd, nx, bu, st, we, cu, ho, dr⟩ hi ⟨e2, hR, hd2⟩ hK
    dsimp only at e2 hR hd2
    subst e2; subst hd2
    obtain ⟨g1, f1, d1, n1, -, -, xx1, -, -⟩ := flP_inv g0 i (by omega)
    have hs : flP a (i + 1) = flS i (flP a i) := rfl
    generalize flP a i = s at hR g1 f1 d1 n1 xx1 hs
    have hi9 : i < 9 := by omega
    have hx9 := (g1.2.1 i hi9).2.2.2
    have hh := (g1.2.1 i hi9).2.2.1
    have hlv := lvA_le s.1 i
    have had := addN_le (aK s.1 i) (aF s.1 i) (g1.2.1 i hi9).2.1
    have hss := g1.s512
    refine bLe (aN s.1) i hR.2.1 rfl (by omega) (by omega) (fun q => absurd q (by omega)) (fun _ => ?_)
    have key : ∀ J : Int32 → Prop, J (nI (lvA s.1 i)) → (((0 : Int32) = 0 → p_X6_hasBit st (nI i) (fun r36 => (r36 = 0 → p_X6_letsOf (kd, fg, hd, nx, bu, st, we, cu, ho, nI s.2.2) (nI i) (fun r37 => J r37)) ∧ (¬ r36 = 0 → J 0))) ∧ (¬ (0 : Int32) = 0 → J 0)) := by
      intro J hJ
      refine br_t rfl ?_
      have es := hR.2.2.1
      dsimp only at es
      rw [es]
      refine sp_hasBit (by omega) (by omega) ?_
      unfold lvA at hJ
      rcases bt2_or (aS s.1) i with e | e
      · rw [e] at hJ ⊢
        rw [if_neg (by decide)] at hJ
        refine br_t rfl ?_
        rw [← es]
        exact sp_letsOf hR g1 hi9 hJ
      · rw [e] at hJ ⊢
        rw [if_pos rfl] at hJ
        exact br_f (by decide) hJ
    refine key _ ?_
    refine ⟨vin9 hi9, vin9 hi9, nm_in (fun hd16 eh => ?_)⟩
    have hR2 := hR.dec g1 hi9 hlv eh
    have e4 := hR.x hi9
    have e5 := hR.2.1
    have e6 := hR.2.2.2.2.1
    dsimp only at e4 e5 e6 hR2
    have hc := g1.2.2.2.2.2
    -- what comes
    have key2 : ∀ J : Int32 → Prop, J (nI (if lvA s.1 i = 0 then 0 else cmA s.1 i)) → ((nI (lvA s.1 i) = 0 → J 0) ∧ (¬ nI (lvA s.1 i) = 0 → p_X6_addsOf (kd, fg, hd16, nx, bu, st, we, cu, ho, nI s.2.2) (nI i) (fun r34 => J (nI (lvA s.1 i) + r34)))) := by
      intro J hJ
      refine bEq (lvA s.1 i) 0 rfl rfl (by omega) (by omega) (fun q => ?_) (fun q => ?_)
      · rw [if_pos q] at hJ; exact hJ
      · rw [if_neg q] at hJ
        refine sp_addsOf (a := decA s.1 i (lvA s.1 i)) hR2 g1.dec hi9 ?_
        show J (nI (lvA s.1 i) + nI (addN (aK s.1 i) (aF s.1 i)))
        rw [nI_add]; exact hJ
    refine key2 _ ?_
    refine ⟨vin9 hi9, ?_⟩
    generalize hv : (if lvA s.1 i = 0 then 0 else cmA s.1 i) = v
    have hv2 : v ≤ 200 := by rw [← hv]; unfold cmA; split <;> omega
    have hv3 : lvA s.1 i = 0 → v = 0 := fun q => by rw [← hv, if_pos q]
    have hv4 : ¬ lvA s.1 i = 0 → v = cmA s.1 i ∧ 0 < v := fun q => by rw [← hv, if_neg q]; unfold cmA; exact ⟨rfl, by omega⟩
    refine bLe (aN s.1) (aX s.1 i) e5 e4 (by omega) (by omega) (fun q => ?_) (fun q => ?_)
    · show p_X6_held (cu + nI v) 9999 _
      rw [e6, nI_add]
      refine sp_held (M := 9999) rfl (by omega) (by omega) ?_
      have key3 : ∀ J : Int32 → Prop, (J (nI (flS i s).2.2)) → ((nI s.2.2 = 0 → ((nI v ≤ 0 → J 0) ∧ (¬ nI v ≤ 0 → J 1))) ∧ (¬ nI s.2.2 = 0 → J 1)) := by
        intro J hJ
        unfold flS at hJ
        rw [if_neg (show ¬ aX s.1 i < aN s.1 by omega)] at hJ
        refine bEq s.2.2 0 rfl rfl (by omega) (by omega) (fun z => ?_) (fun z => ?_)
        · refine bLe v 0 rfl rfl (by omega) (by omega) (fun y => ?_) (fun y => ?_)
          · by_cases w : lvA s.1 i = 0
            · rw [if_pos w, z] at hJ; exact hJ
            · have := (hv4 w).2; omega
          · by_cases w : lvA s.1 i = 0
            · have := hv3 w; omega
            · rw [if_neg w] at hJ; exact hJ
        · by_cases w : lvA s.1 i = 0
          · rw [if_pos w, show s.2.2 = 1 by omega] at hJ; exact hJ
          · rw [if_neg w] at hJ; exact hJ
      refine key3 _ ?_
      have hdl : (flS i s).2.2 ≤ 1 := (fl_step g1 (by omega) f1 d1).2.2
      refine ⟨bz_n hdl, ?_⟩
      refine hK _ ⟨nI_1 i, ?_, by rw [hs]⟩
      rw [hs]; unfold flS
      by_cases w : lvA s.1 i = 0
      · rw [if_pos w]
        have hv0 := hv3 w
        rw [w, dec_0] at hR2
        refine ⟨hR2.1, hR2.2.1, hR2.2.2.1, hR2.2.2.2.1, ?_, hR2.2.2.2.2.2⟩
        show nI (min (aC s.1 + v) 9999) = nI (aC s.1)
        rw [hv0, Nat.min_eq_left (by omega)]; rfl
      · rw [if_neg w, if_neg (show ¬ aX s.1 i < aN s.1 by omega)]
        obtain ⟨hv5, -⟩ := hv4 w
        refine ⟨hR2.1, hR2.2.1, hR2.2.2.1, hR2.2.2.2.1, ?_, hR2.2.2.2.2.2⟩
        show nI (min (aC s.1 + v) 9999) = nI (min 9999 (aC s.1 + cmA s.1 i))
        rw [hv5, Nat.min_comm]
    · refine ⟨vin9 hi9, ?_⟩
      show p_X6_pourIn _ (nx (nI i).toNatClampNeg) (nI v) _
      rw [e4]
      refine sp_pourIn (a := decA s.1 i (lvA s.1 i)) hR2 g1.dec (i := aX s.1 i) (v := v) q (by omega) (fun t' hR4 hdr => ?_)
      refine hK _ ⟨nI_1 i, ?_, ?_⟩
      · rw [hs]; unfold flS
        by_cases w : lvA s.1 i = 0
        · rw [if_pos w]
          have hv0 := hv3 w
          rw [w, dec_0, hv0, fill_0 (g1.2.1 _ (by omega)).2.2.1] at hR4
          exact hR4
        · rw [if_neg w, if_pos q]
          obtain ⟨hv5, -⟩ := hv4 w
          rw [hv5] at hR4
          exact hR4
      · rw [hs]; unfold flS
        by_cases w : lvA s.1 i = 0
        · rw [if_pos w]; exact hdr
        · rw [if_neg w, if_pos q]; exact hdr
  · rintro K ⟨x2, kd, fg, hd, nx, bu, st, we, cu, ho, dr⟩ ⟨e2, hR, hd2⟩
    dsimp only at e2 hR hd2
    subst e2; subst hd2
    refine bLe (aN a) (aN a) (hR.2.1.trans (congrArg nI (flow_N g0))) rfl (by omega) (by omega) (fun _ => ?_) (fun q => absurd q (by omega))
    exact k _ hR rfl
