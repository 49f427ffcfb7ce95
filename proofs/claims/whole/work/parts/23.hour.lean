/-! an hour -/
def decA (a : AP) (i l : Nat) : AP := (aK a, aF a, upN (aH a) i (aH a i - l), aX a, aN a, aS a, aW a, aC a, aO a)
def cupA (a : AP) (v : Nat) : AP := (aK a, aF a, aH a, aX a, aN a, aS a, aW a, min 9999 (aC a + v), aO a)
def lvA (a : AP) (i : Nat) : Nat := if bt2 (aS a) i = 1 then 0 else letN (aK a i) (aF a i) (aH a i)
def cmA (a : AP) (i : Nat) : Nat := lvA a i + addN (aK a i) (aF a i)
def flS (i : Nat) (s : AP × Nat × Nat) : AP × Nat × Nat :=
  if lvA s.1 i = 0 then s else if aX s.1 i < aN s.1 then (fillA (decA s.1 i (lvA s.1 i)) (aX s.1 i) (cmA s.1 i), 1, s.2.2) else (cupA (decA s.1 i (lvA s.1 i)) (cmA s.1 i), 1, 1)
def flP (a : AP) (i : Nat) : AP × Nat × Nat := pre flS (a, 0, 0) i
def flowA (a : AP) : AP := (flP a (aN a)).1
def flwd (a : AP) : Nat := (flP a (aN a)).2.1
def drip (a : AP) : Nat := (flP a (aN a)).2.2
theorem lvA_le (a : AP) (i : Nat) : lvA a i ≤ aH a i := by
  unfold lvA
  split
  · omega
  · exact letN_le _ _ _
theorem GP.dec {a : AP} (g : GP a) {i l : Nat} : GP (decA a i l) := by
  refine ⟨g.1, fun j hj => ⟨(g.2.1 j hj).1, (g.2.1 j hj).2.1, ?_, (g.2.1 j hj).2.2.2⟩, g.2.2.1, g.2.2.2.1, g.2.2.2.2.1, g.2.2.2.2.2⟩
  show upN (aH a) i _ j < 100
  by_cases e : j = i
  · subst e; rw [upN_s]; have := (g.2.1 j hj).2.2.1; omega
  · rw [upN_n e]; exact (g.2.1 j hj).2.2.1
theorem GP.cup {a : AP} (g : GP a) {v : Nat} : GP (cupA a v) := ⟨g.1, g.2.1, g.2.2.1, g.2.2.2.1, g.2.2.2.2.1, Nat.min_le_left _ _⟩
theorem fl_keep (i : Nat) (s : AP × Nat × Nat) : aN (flS i s).1 = aN s.1 ∧ aK (flS i s).1 = aK s.1 ∧ aF (flS i s).1 = aF s.1 ∧ aX (flS i s).1 = aX s.1 ∧ aS (flS i s).1 = aS s.1 ∧ aO (flS i s).1 = aO s.1 := by
  unfold flS
  split
  · exact ⟨rfl, rfl, rfl, rfl, rfl, rfl⟩
  · split
    · exact ⟨rfl, rfl, rfl, rfl, rfl, rfl⟩
    · exact ⟨rfl, rfl, rfl, rfl, rfl, rfl⟩
theorem fl_step {s : AP × Nat × Nat} {i : Nat} (g : GP s.1) (hi : i < aN s.1) (h1 : s.2.1 ≤ 1) (h2 : s.2.2 ≤ 1) : GP (flS i s).1 ∧ (flS i s).2.1 ≤ 1 ∧ (flS i s).2.2 ≤ 1 := by
  unfold flS
  split
  · exact ⟨g, h1, h2⟩
  · split
    · exact ⟨GP.fill (a := decA s.1 i (lvA s.1 i)) g.dec (by assumption), Nat.le_refl 1, h2⟩
    · exact ⟨g.dec.cup, Nat.le_refl 1, Nat.le_refl 1⟩
theorem flP_inv {a : AP} (g : GP a) : ∀ i, i ≤ aN a → GP (flP a i).1 ∧ (flP a i).2.1 ≤ 1 ∧ (flP a i).2.2 ≤ 1 ∧ aN (flP a i).1 = aN a ∧ aK (flP a i).1 = aK a ∧ aF (flP a i).1 = aF a ∧ aX (flP a i).1 = aX a ∧ aS (flP a i).1 = aS a ∧ aO (flP a i).1 = aO a
  | 0, _ => ⟨g, by show 0 ≤ 1; omega, by show 0 ≤ 1; omega, rfl, rfl, rfl, rfl, rfl, rfl⟩
  | i + 1, hi => by
    obtain ⟨g1, f1, d1, n1, k1, e1, x1, s1, o1⟩ := flP_inv g i (by omega)
    obtain ⟨n2, k2, e2, x2, s2, o2⟩ := fl_keep i (flP a i)
    obtain ⟨g2, f2, d2⟩ := fl_step g1 (i := i) (by rw [n1]; omega) f1 d1
    exact ⟨g2, f2, d2, n2.trans n1, k2.trans k1, e2.trans e1, x2.trans x1, s2.trans s1, o2.trans o1⟩
theorem GP.flow {a : AP} (g : GP a) : GP (flowA a) := (flP_inv g _ (Nat.le_refl _)).1
theorem flwd_le {a : AP} (g : GP a) : flwd a ≤ 1 := (flP_inv g _ (Nat.le_refl _)).2.1
theorem drip_le {a : AP} (g : GP a) : drip a ≤ 1 := (flP_inv g _ (Nat.le_refl _)).2.2.1
theorem flow_N {a : AP} (g : GP a) : aN (flowA a) = aN a := (flP_inv g _ (Nat.le_refl _)).2.2.2.1
theorem flow_X {a : AP} (g : GP a) : aX (flowA a) = aX a := (flP_inv g _ (Nat.le_refl _)).2.2.2.2.2.2.1
theorem flow_S {a : AP} (g : GP a) : aS (flowA a) = aS a := (flP_inv g _ (Nat.le_refl _)).2.2.2.2.2.2.2.1
theorem flow_O {a : AP} (g : GP a) : aO (flowA a) = aO a := (flP_inv g _ (Nat.le_refl _)).2.2.2.2.2.2.2.2
theorem bz_n {n : Nat} (h : n ≤ 1) : bz (nI n) := by
  match n, h with
  | 0, _ => exact bz_0
  | 1, _ => exact bz_1
theorem RP.dec {t : PT} {a : AP} (h : RP t a) (g : GP a) {i l : Nat} (hi : i < 9) (hl : l ≤ aH a i) {hd : F1} (e : hd = upd t.2.2.1 (nI i).toNatClampNeg (t.2.2.1 (nI i).toNatClampNeg - nI l)) : RP (t.1, t.2.1, hd, t.2.2.2.1, t.2.2.2.2.1, t.2.2.2.2.2.1, t.2.2.2.2.2.2.1, t.2.2.2.2.2.2.2.1, t.2.2.2.2.2.2.2.2.1, t.2.2.2.2.2.2.2.2.2) (decA a i l) := by
  have hu : ∀ j, j < 9 → hd j = nI (upN (aH a) i (aH a i - l) j) := by
    rw [e]
    exact upd_up hi (fun j hj => (h.1 j hj).2.2.1) (by rw [h.h hi, pk_sub hl])
  exact ⟨fun j hj => ⟨(h.1 j hj).1, (h.1 j hj).2.1, hu j hj, (h.1 j hj).2.2.2⟩, h.2⟩
theorem RP.cupA {t : PT} {a : AP} (h : RP t a) {v : Nat} {cu : Int32} (e : cu = nI (min 9999 (aC a + v))) (dr : Int32) : RP (t.1, t.2.1, t.2.2.1, t.2.2.2.1, t.2.2.2.2.1, t.2.2.2.2.2.1, t.2.2.2.2.2.2.1, cu, t.2.2.2.2.2.2.2.2.1, dr) (cupA a v) := ⟨h.1, h.2.1, h.2.2.1, h.2.2.2.1, e, h.2.2.2.2.2⟩
theorem dec_0 {a : AP} {i : Nat} : decA a i 0 = a := by
  have : upN (aH a) i (aH a i - 0) = aH a := by
    funext j
    by_cases e : j = i
    · subst e; rw [upN_s]; rfl
    · rw [upN_n e]
  unfold decA
  rw [this]
theorem fill_0 {a : AP} {i : Nat} (h : aH a i < 100) : fillA a i 0 = a := by
  have : upN (aH a) i (min 99 (aH a i + 0)) = aH a := by
    funext j
    by_cases e : j = i
    · subst e; rw [upN_s]; omega
    · rw [upN_n e]
  unfold fillA
  rw [this, if_pos rfl]
theorem cup_0 {a : AP} (h : aC a ≤ 9999) : cupA a 0 = a := by
  unfold cupA
  rw [show min 9999 (aC a + 0) = aC a by omega]
set_option maxHeartbeats 1000000 in
theorem sp_flow {t : PT} {a : AP} {post : Int32 → PT → Prop} (h : RP t a) (g : GP a) (k : ∀ t', RP t' (flowA a) → t'.2.2.2.2.2.2.2.2.2 = nI (drip a) → post (nI (flwd a)) t') : p_X3_flow t post := by
  have h9 := g.1
  unfold p_X3_flow
  refine lpN_up (aN a) (fun i z => z.2.1 = nI i ∧ z.1 = nI (flP a i).2.1 ∧ RP z.2.2 (flP a i).1 ∧ z.2.2.2.2.2.2.2.2.2.2.2 = nI (flP a i).2.2) (by omega) ?_ ?_ _ ⟨rfl, rfl, h, rfl⟩
  · rintro K i ⟨x1, x2, kd, fg, hd, nx, bu, st, we, cu, ho, dr⟩ hi ⟨e2, e1, hR, hd2⟩ hK
    dsimp only at e1 e2 hR hd2
    subst e1; subst e2; subst hd2
    obtain ⟨g1, f1, d1, n1, -, -, xx1, -, -⟩ := flP_inv g i (by omega)
    have hs : flP a (i + 1) = flS i (flP a i) := rfl
    generalize flP a i = s at hR g1 f1 d1 n1 xx1 hs
    have hi9 : i < 9 := by omega
    have hx9 := (g1.2.1 i hi9).2.2.2
    have hh := (g1.2.1 i hi9).2.2.1
    have hlv := lvA_le s.1 i
    have had := addN_le (aK s.1 i) (aF s.1 i) (g1.2.1 i hi9).2.1
    refine bLe (aN s.1) i hR.2.1 rfl (by omega) (by omega) (fun q => absurd q (by omega)) (fun _ => ?_)
    refine sp_isBlk hR g1 (by omega) ?_
    have key : ∀ J : Int32 → Prop, J (nI (lvA s.1 i)) → ((nI (bt2 (aS s.1) i) = 0 → vp_in (nI i) 9 ∧ vp_in (nI i) 9 ∧ vp_in (nI i) 9 ∧ p_X0_letsThrough (kd (nI i).toNatClampNeg) (fg (nI i).toNatClampNeg) (hd (nI i).toNatClampNeg) (fun r => J r)) ∧ (¬ nI (bt2 (aS s.1) i) = 0 → J 0)) := by
      intro J hJ
      unfold lvA at hJ
      rcases bt2_or (aS s.1) i with e | e
      · rw [e] at hJ ⊢
        rw [if_neg (by decide)] at hJ
        refine br_t rfl ⟨vin9 hi9, vin9 hi9, vin9 hi9, ?_⟩
        have e1 := hR.k hi9
        have e2 := hR.f hi9
        have e3 := hR.h hi9
        dsimp only at e1 e2 e3
        rw [e1, e2, e3]
        exact sp_lets0 (g1.2.1 i hi9).1 (g1.2.1 i hi9).2.1 hh hJ
      · rw [e] at hJ ⊢
        rw [if_pos rfl] at hJ
        exact br_f (by decide) hJ
    refine key _ ?_
    refine bLe (lvA s.1 i) 0 rfl rfl (by omega) (by omega) (fun q => ?_) (fun q => ?_)
    · refine hK _ ⟨nI_1 i, ?_, ?_, ?_⟩
      · rw [hs]; unfold flS; rw [if_pos (by omega)]
      · rw [hs]; unfold flS; rw [if_pos (by omega)]; exact hR
      · rw [hs]; unfold flS; rw [if_pos (by omega)]
    · refine ⟨vin9 hi9, vin9 hi9, ?_⟩
      refine nm_in (fun hd17 eh => ⟨vin9 hi9, vin9 hi9, ?_⟩)
      have hR2 := hR.dec g1 hi9 hlv eh
      have e1 := hR.k hi9
      have e2 := hR.f hi9
      have e4 := hR.x hi9
      dsimp only at e1 e2 e4 hR2
      show p_X0_adds (kd (nI i).toNatClampNeg) (fg (nI i).toNatClampNeg) _
      rw [e1, e2]
      refine sp_adds (g1.2.1 i hi9).1 (g1.2.1 i hi9).2.1 ?_
      refine nm_in (fun v19 ev => ⟨vin9 hi9, ?_⟩)
      rw [nI_add] at ev
      subst ev
      show p_X3_fill _ (nx (nI i).toNatClampNeg) _ _
      rw [e4]
      rcases Nat.lt_or_ge (aX s.1 i) (aN s.1) with hx | hx
      · refine sp_fill (a := decA s.1 i (lvA s.1 i)) hR2 g1.dec (i := aX s.1 i) (v := lvA s.1 i + addN (aK s.1 i) (aF s.1 i)) hx (by omega) (fun t' hR3 hdr => ?_)
        refine br_f (by decide) ?_
        refine hK _ ⟨nI_1 i, ?_, ?_, ?_⟩
        · rw [hs]; unfold flS; rw [if_neg (by omega), if_pos hx]; rfl
        · rw [hs]; unfold flS; rw [if_neg (by omega), if_pos hx]; exact hR3
        · rw [hs]; unfold flS; rw [if_neg (by omega), if_pos hx]; exact hdr
      · refine sp_fillN (a := decA s.1 i (lvA s.1 i)) hR2 g1.dec (i := aX s.1 i) hx (by omega) ?_
        refine br_t rfl ?_
        refine nm_in (fun v31 e31 => ?_)
        refine hK _ ⟨nI_1 i, ?_, ?_, ?_⟩
        · rw [hs]; unfold flS; rw [if_neg (by omega), if_neg (by omega)]; rfl
        · rw [hs]; unfold flS; rw [if_neg (by omega), if_neg (by omega)]
          refine hR2.cupA (v := cmA s.1 i) ?_ 1
          have hc := g1.2.2.2.2.2
          have ec := hR.2.2.2.2.1
          dsimp only at ec
          rw [e31, ec, nI_add]
          exact minI (M := 9999) (by omega) (by omega)
        · rw [hs]; unfold flS; rw [if_neg (by omega), if_neg (by omega)]; rfl
  · rintro K ⟨x1, x2, kd, fg, hd, nx, bu, st, we, cu, ho, dr⟩ ⟨e2, e1, hR, hd2⟩
    dsimp only at e1 e2 hR hd2
    subst e1; subst e2; subst hd2
    refine bLe (aN a) (aN a) (hR.2.1.trans (congrArg nI (flow_N g))) rfl (by omega) (by omega) (fun _ => ⟨bz_n (flwd_le g), ?_⟩) (fun q => absurd q (by omega))
    exact k _ hR rfl
