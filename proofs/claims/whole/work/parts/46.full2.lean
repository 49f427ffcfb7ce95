def lsS (a : AP) (i : Nat) (s : Nat × Nat) : Nat × Nat := (if s.1 < (if drip (flowsA a i) = 0 then s.2 + 1 else 0) then (if drip (flowsA a i) = 0 then s.2 + 1 else 0) else s.1, if drip (flowsA a i) = 0 then s.2 + 1 else 0)
def lsA (a : AP) (j : Nat) : Nat × Nat := pre (lsS a) (0, 0) j
theorem ls_s {a : AP} {j : Nat} : lsA a (j + 1) = lsS a j (lsA a j) := rfl
theorem ls_le {a : AP} : ∀ j, (lsA a j).1 ≤ j ∧ (lsA a j).2 ≤ j
  | 0 => ⟨Nat.le_refl _, Nat.le_refl _⟩
  | j + 1 => by
    obtain ⟨h1, h2⟩ := ls_le (a := a) j
    rw [ls_s]
    unfold lsS
    dsimp only
    constructor
    · (repeat' split) <;> omega
    · split <;> omega
theorem sp_still5 {n m : PT} {a : AP} {post : Int32 → PT → Prop} (h : RP n a) (g : GP a) (k : ∀ m', post (nI (lsA a 60).1) m') : p_X5_longestStill n m post := by
  unfold p_X5_longestStill
  refine sp_think5 h (fun m' hm => ?_)
  refine lpN_up 60 (fun j z => z.1 = nI (lsA a j).1 ∧ z.2.1 = nI (lsA a j).2 ∧ z.2.2.1 = nI j ∧ RP z.2.2.2 (flowsA a j)) (by decide) ?_ ?_ _ ⟨rfl, rfl, rfl, hm⟩
  · rintro K j ⟨x, y, i, t⟩ hj ⟨w1, w2, w3, w4⟩ hK
    dsimp only at w1 w2 w3 w4
    subst w1; subst w2; subst w3
    obtain ⟨l1, l2⟩ := ls_le (a := a) j
    refine bLe 60 j rfl rfl (by omega) (by omega) (fun w => absurd w (by omega)) (fun _ => sp_flow w4 (g.flows j) (fun t' ht' edr => ?_))
    have dl := drip_le (g.flows j)
    unfold p_X3_hasDripped
    have bz' : bz t'.2.2.2.2.2.2.2.2.2 := by rw [edr]; exact bz_n dl
    refine ⟨bz', ?_⟩
    have fin : ∀ r : Nat, r = (if drip (flowsA a j) = 0 then (lsA a j).2 + 1 else 0) → ∀ v : Int32, v = (if nI (lsA a j).1 < nI r then nI r else nI (lsA a j).1) → K (v, nI r, nI j + 1, t') := by
      intro r hr v hv
      have r1 : r ≤ 61 := by rw [hr]; split <;> omega
      refine hK _ ⟨?_, ?_, nI_1 j, ht'⟩
      · refine hv.trans ?_
        rw [ls_s]
        unfold lsS
        dsimp only
        rw [← hr]
        by_cases w : (lsA a j).1 < r
        · rw [if_pos w, if_pos (nI_lt w (by omega))]
        · rw [if_neg w, if_neg (nI_nlt (by omega) (by omega))]
      · rw [ls_s]
        unfold lsS
        dsimp only
        rw [← hr]
    refine eq0 (drip (flowsA a j)) edr (by omega) (fun e => nm_in (fun v ev => ?_)) (fun e => nm_in (fun v ev => ?_))
    · have z := fin ((lsA a j).2 + 1) (by rw [if_pos e]) v (ev.trans (by rw [← nI_1]))
      rw [← nI_1] at z
      exact z
    · exact fin 0 (by rw [if_neg e]) v ev
  · rintro K ⟨x, y, i, t⟩ ⟨w1, w2, w3, w4⟩
    dsimp only at w1 w2 w3 w4
    subst w1; subst w2; subst w3
    exact bLe 60 60 rfl rfl (by omega) (by omega) (fun _ => k t) (fun w => absurd w (by omega))
theorem sp_still6 {c : PT} {ks : KS} {kp : F1} {a : AP} {post : Int32 → PT × KS × F1 → Prop} (h : RP c a) (g : GP a) (k : ∀ c' ks' kp', RP c' a → post (nI (lsA a 60).1) (c', ks', kp')) : p_X6_longestStill c ks kp post := by
  unfold p_X6_longestStill
  refine sp_think6 h (fun c' ks' kp' hc hkk => ?_)
  refine lpN_up 60 (fun j z => z.1 = nI (lsA a j).1 ∧ z.2.1 = nI (lsA a j).2 ∧ z.2.2.1 = nI j ∧ RP z.2.2.2 (hoursA a j)) (by decide) ?_ ?_ _ ⟨rfl, rfl, rfl, hc⟩
  · rintro K j ⟨x, y, i, t⟩ hj ⟨w1, w2, w3, w4⟩ hK
    dsimp only at w1 w2 w3 w4
    subst w1; subst w2; subst w3
    obtain ⟨l1, l2⟩ := ls_le (a := a) j
    refine bLe 60 j rfl rfl (by omega) (by omega) (fun w => absurd w (by omega)) (fun _ => sp_hour0 w4 (g.hours j) (fun t' ht' edr => ?_))
    rw [tick_hours] at ht'
    have ed : drip (hoursA a j) = drip (flowsA a j) := drip_setO _ _
    rw [ed] at edr
    have dl := drip_le (g.flows j)
    have fin : ∀ r : Nat, r = (if drip (flowsA a j) = 0 then (lsA a j).2 + 1 else 0) → ∀ u : Int32, u = nI r → ((u ≤ nI (lsA a j).1 → K (nI (lsA a j).1, u, nI j + 1, t'.1, t'.2.1, t'.2.2.1, t'.2.2.2.1, t'.2.2.2.2.1, t'.2.2.2.2.2.1, t'.2.2.2.2.2.2.1, t'.2.2.2.2.2.2.2.1, t'.2.2.2.2.2.2.2.2.1, t'.2.2.2.2.2.2.2.2.2)) ∧ (¬ u ≤ nI (lsA a j).1 → K (u, u, nI j + 1, t'.1, t'.2.1, t'.2.2.1, t'.2.2.2.1, t'.2.2.2.2.1, t'.2.2.2.2.2.1, t'.2.2.2.2.2.2.1, t'.2.2.2.2.2.2.2.1, t'.2.2.2.2.2.2.2.2.1, t'.2.2.2.2.2.2.2.2.2))) := by
      intro r hr u hu
      subst hu
      have r1 : r ≤ 61 := by rw [hr]; split <;> omega
      have e2 : (lsA a (j + 1)).2 = r := by
        rw [ls_s]
        unfold lsS
        dsimp only
        rw [← hr]
      have e1 : (lsA a (j + 1)).1 = if (lsA a j).1 < r then r else (lsA a j).1 := by
        rw [ls_s]
        unfold lsS
        dsimp only
        rw [← hr]
      refine bLe r (lsA a j).1 rfl rfl (by omega) (by omega) (fun w => hK _ ⟨?_, by rw [e2], nI_1 j, ht'⟩) (fun w => hK _ ⟨?_, by rw [e2], nI_1 j, ht'⟩)
      · rw [e1, if_neg (by omega)]
      · rw [e1, if_pos w]
    refine eq0 (drip (flowsA a j)) edr (by omega) (fun e => ?_) (fun e => ?_)
    · exact fin ((lsA a j).2 + 1) (by rw [if_pos e]) _ (nI_1 _)
    · exact fin 0 (by rw [if_neg e]) _ rfl
  · rintro K ⟨x, y, i, t⟩ ⟨w1, w2, w3, w4⟩
    dsimp only at w1 w2 w3 w4
    subst w1; subst w2; subst w3
    exact bLe 60 60 rfl rfl (by omega) (by omega) (fun _ => sp_again6 hkk (fun t3 ks3 ht3 => k t3 ks3 kp' ht3)) (fun w => absurd w (by omega))
/-! twins -/
def ti1 (a : AP) (i j : Nat) (s : Int32) : Int32 := if aH a i = aH a (i + 1 + j) then s + 1 else s
def tiA (a : AP) (i : Nat) (s : Int32) (j : Nat) : Int32 := pre (ti1 a i) s j
def twA (a : AP) (j : Nat) : Int32 := pre (fun i s => tiA a i s (aN a - (i + 1))) 0 j
theorem ti_t {a : AP} {i j : Nat} {s : Int32} (w : aH a i = aH a (i + 1 + j)) : tiA a i s (j + 1) = tiA a i s j + 1 := if_pos w
theorem ti_f {a : AP} {i j : Nat} {s : Int32} (w : ¬ aH a i = aH a (i + 1 + j)) : tiA a i s (j + 1) = tiA a i s j := if_neg w
theorem sp_twins5 {t : PT} {a : AP} {post : Int32 → Prop} (h : RP t a) (g : GP a) (k : post (twA a (aN a))) : p_X5_twins t post := by
  have h9 := g.1
  have hb : ∀ i, i < 9 → aH a i < 100 := fun i hi => (g.2.1 i hi).2.2.1
  unfold p_X5_twins
  refine lpN_up (aN a) (fun j z => z.1 = twA a j ∧ z.2 = nI j) (by omega) ?_ ?_ _ ⟨rfl, rfl⟩
  · rintro K i ⟨x, y⟩ hi ⟨w1, w2⟩ hK
    dsimp only at w1 w2
    subst w2
    refine sp_houses h (bLe (aN a) i rfl rfl (by omega) (by omega) (fun w => absurd w (by omega)) (fun _ => nm_in (fun v ev => ?_)))
    have ev' : v = nI (i + 1 + 0) := ev.trans (nI_1 i)
    subst ev'
    refine lpN_up (aN a - (i + 1)) (fun j z => z.1 = tiA a i x j ∧ z.2 = nI (i + 1 + j)) (by omega) ?_ ?_ _ ⟨rfl, rfl⟩
    · rintro K2 j ⟨u, y⟩ hj ⟨q1, q2⟩ hK2
      dsimp only at q1 q2
      subst q2
      have := hb i (by omega)
      have := hb (i + 1 + j) (by omega)
      refine sp_houses h (bLe (aN a) (i + 1 + j) rfl rfl (by omega) (by omega) (fun w => absurd w (by omega)) (fun _ => sp_holdsOf h g hi (sp_holdsOf h g (by omega) ?_)))
      refine bEq (aH a i) (aH a (i + 1 + j)) rfl rfl (by omega) (by omega) (fun w => hK2 _ ⟨?_, nI_1 _⟩) (fun w => hK2 _ ⟨?_, nI_1 _⟩)
      · rw [ti_t w, ← q1]
      · rw [ti_f w, ← q1]
    · rintro K2 ⟨u, y⟩ ⟨q1, q2⟩
      dsimp only at q1 q2
      subst q2
      refine sp_houses h (bLe (aN a) (i + 1 + (aN a - (i + 1))) rfl rfl (by omega) (by omega) (fun _ => hK _ ⟨?_, nI_1 i⟩) (fun w => absurd w (by omega)))
      refine q1.trans ?_
      show tiA a i x (aN a - (i + 1)) = tiA a i (twA a i) (aN a - (i + 1))
      rw [w1]
  · rintro K ⟨x, i⟩ ⟨w1, w2⟩
    dsimp only at w1 w2
    subst w2; subst w1
    exact sp_houses h (bLe (aN a) (aN a) rfl rfl (by omega) (by omega) (fun _ => k) (fun w => absurd w (by omega)))
theorem sp_twins6 {t : PT} {a : AP} {post : Int32 → Prop} (h : RP t a) (g : GP a) (k : post (twA a (aN a))) : p_X6_twinTwos t post := by
  have h9 := g.1
  have hb : ∀ i, i < 9 → aH a i < 100 := fun i hi => (g.2.1 i hi).2.2.1
  unfold p_X6_twinTwos
  refine lpN_up (aN a) (fun j z => z.1 = twA a j ∧ z.2 = nI j) (by omega) ?_ ?_ _ ⟨rfl, rfl⟩
  · rintro K i ⟨x, y⟩ hi ⟨w1, w2⟩ hK
    dsimp only at w1 w2
    subst w2
    refine bLe (aN a) i h.2.1 rfl (by omega) (by omega) (fun w => absurd w (by omega)) (fun _ => nm_in (fun v ev => ?_))
    have ev' : v = nI (i + 1 + 0) := ev.trans (nI_1 i)
    subst ev'
    refine lpN_up (aN a - (i + 1)) (fun j z => z.1 = tiA a i x j ∧ z.2 = nI (i + 1 + j)) (by omega) ?_ ?_ _ ⟨rfl, rfl⟩
    · rintro K2 j ⟨u, y⟩ hj ⟨q1, q2⟩ hK2
      dsimp only at q1 q2
      subst q2
      have := hb i (by omega)
      have := hb (i + 1 + j) (by omega)
      refine bLe (aN a) (i + 1 + j) h.2.1 rfl (by omega) (by omega) (fun w => absurd w (by omega)) (fun _ => ⟨vin9 (by omega), vin9 (by omega), ?_⟩)
      refine bEq (aH a i) (aH a (i + 1 + j)) (h.h (by omega)) (h.h (by omega)) (by omega) (by omega) (fun w => nm_in (fun v ev => hK2 _ ⟨?_, nI_1 _⟩)) (fun w => nm_in (fun v ev => hK2 _ ⟨?_, nI_1 _⟩))
      · rw [ti_t w, ← q1]; exact ev
      · rw [ti_f w, ← q1]; exact ev.trans (Int32.add_zero _)
    · rintro K2 ⟨u, y⟩ ⟨q1, q2⟩
      dsimp only at q1 q2
      subst q2
      refine bLe (aN a) (i + 1 + (aN a - (i + 1))) h.2.1 rfl (by omega) (by omega) (fun _ => hK _ ⟨?_, nI_1 i⟩) (fun w => absurd w (by omega))
      refine q1.trans ?_
      show tiA a i x (aN a - (i + 1)) = tiA a i (twA a i) (aN a - (i + 1))
      rw [w1]
  · rintro K ⟨x, i⟩ ⟨w1, w2⟩
    dsimp only at w1 w2
    subst w2; subst w1
    exact bLe (aN a) (aN a) h.2.1 rfl (by omega) (by omega) (fun _ => k) (fun w => absurd w (by omega))
theorem okk_fullest : ok_fullest Inv := by
  rintro ⟨n, m, q, hh, P, le, nu, rf, pq⟩ ⟨c, th, le6, qz, ks, hi, td, ro, se, rf6, kp, ig, ts, tf, hd, gn⟩ p1 ⟨a, hS, hT, g, ho, hrf, hle, hro, him, hpa⟩
  dsimp only at hS hT hrf hle hro him hpa
  unfold p_X5_fullest
  rcases in_or p1 5 with ⟨u, hu, rfl⟩ | hu
  case inr =>
    refine br_f (hu 0 (by omega)) (br_f (hu 1 (by omega)) (br_f (hu 2 (by omega)) (br_f (hu 3 (by omega)) (br_f (hu 4 (by omega)) (br_f (hu 5 (by omega)) (sp_ref5 isR2 ?_))))))
    unfold p_X6_fullest
    refine br_f (hu 0 (by omega)) (br_f (hu 1 (by omega)) (br_f (hu 2 (by omega)) (br_f (hu 3 (by omega)) (br_f (hu 4 (by omega)) (br_f (hu 5 (by omega)) (sp_ref6 isR2 ?_))))))
    exact ⟨rfl, a, hS, hT, g, ho, hrf.s _, hle, hro, him, hpa⟩
  match u, hu with
  | 0, _ =>
    refine br_t rfl (sp_most5 hS g ?_)
    unfold p_X6_fullest
    refine br_t rfl (sp_most6 hT g ?_)
    exact ⟨rfl, a, hS, hT, g, ho, hrf, hle, hro, him, hpa⟩
  | 1, _ =>
    iterate 1 refine br_f (by decide) ?_
    refine br_t rfl (sp_cupH5 hS g ?_)
    unfold p_X6_fullest
    iterate 1 refine br_f (by decide) ?_
    refine br_t rfl (sp_cupH6 hT g ?_)
    exact ⟨rfl, a, hS, hT, g, ho, hrf, hle, hro, him, hpa⟩
  | 2, _ =>
    iterate 2 refine br_f (by decide) ?_
    refine br_t rfl ?_
    unfold p_X3_allBits
    refine sp_wetBits hS ?_
    unfold p_X6_fullest
    iterate 2 refine br_f (by decide) ?_
    refine br_t rfl ⟨?_, a, hS, hT, g, ho, hrf, hle, hro, him, hpa⟩
    have e1 := hS.2.1
    have e2 := hT.2.1
    have e3 := hT.2.2.2.1
    rw [e1, e2, e3]
  | 3, _ =>
    iterate 3 refine br_f (by decide) ?_
    refine br_t rfl (sp_long5 hS g ?_)
    unfold p_X6_fullest
    iterate 3 refine br_f (by decide) ?_
    refine br_t rfl (sp_long6 hT g ?_)
    exact ⟨rfl, a, hS, hT, g, ho, hrf, hle, hro, him, hpa⟩
  | 4, _ =>
    iterate 4 refine br_f (by decide) ?_
    refine br_t rfl (sp_still5 hS g (fun m' => ?_))
    unfold p_X6_fullest
    iterate 4 refine br_f (by decide) ?_
    refine br_t rfl (sp_still6 hT g (fun c' ks' kp' hc => ?_))
    exact ⟨rfl, a, hS, hc, g, ho, hrf, hle, hro, him, hpa⟩
  | 5, _ =>
    iterate 5 refine br_f (by decide) ?_
    refine br_t rfl (sp_twins5 hS g ?_)
    unfold p_X6_fullest
    iterate 5 refine br_f (by decide) ?_
    refine br_t rfl (sp_twins6 hT g ?_)
    exact ⟨rfl, a, hS, hT, g, ho, hrf, hle, hro, him, hpa⟩
