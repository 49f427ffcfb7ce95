theorem IRow.self {B M : Nat} {x y : LT} {k : Nat} (h : ∀ i, i < k → ∃ v, v < B ∧ x.1 i = nI v ∧ y.1 i = nI v) (_ : k ≤ M) : ∀ i, i < k → ∃ v, v < B ∧ x.1 i = nI v ∧ x.1 i = nI v := fun i hi => by
  obtain ⟨v, v1, v2, v3⟩ := h i hi
  exact ⟨v, v1, v2, v2⟩
def wpS (a : AP) (f : F1) (k h i : Nat) (s : Int32 × Int32 × Int32) : Int32 × Int32 × Int32 := if rowN f (fillA a h i) k = 0 then (s.1 + 1, (if s.2.1 = -9 then nI i else s.2.1), nI i) else s
set_option maxHeartbeats 1000000 in
theorem okk_wasPoured : ok_wasPoured Inv := by
  rintro ⟨n, m, q, hh, P, le, nu, rf, pq⟩ ⟨c, th, le6, qz, ks, hi, td, ro, se, rf6, kp, ig, ts, tf, hd, gn⟩ p1 p2 ⟨a, hS, hT, g, ho, hrf, hle, hro, him, hpa⟩
  dsimp only at hS hT hrf hle hro him hpa
  have h9 := g.1
  obtain ⟨k, hk, e1, e2, hv⟩ := id hro
  have hv5 := IRow.self hv hk
  unfold p_X5_wasPoured
  rcases house_or a p1 with ⟨h, hh2, rfl⟩ | hn
  case inr =>
    refine sp_there_f hS g hn (br_t rfl (sp_ref5 isR1 ?_))
    unfold p_X6_wasPoured
    refine sp_isH_f hT g hn (br_t rfl (sp_wb_no (by decide) (br_f (by decide) (sp_ref6 isR1 ?_))))
    exact ⟨rfl, a, hS, hT, g, ho, hrf.s _, hle, hro, him, hpa⟩
  refine sp_there_t hS g hh2 (br_f (by decide) ?_)
  rcases in_or p2 2 with ⟨u, hu, rfl⟩ | hu
  case inr =>
    refine br_out (M := 2) (by omega) hu (sp_ref5 isR2 ?_)
    unfold p_X6_wasPoured
    refine sp_isH_t hT g hh2 (br_f (by decide) (sp_wb_f (M := 2) (by omega) hu (br_f (by decide) (sp_ref6 isR2 ?_))))
    exact ⟨rfl, a, hS, hT, g, ho, hrf.s _, hle, hro, him, hpa⟩
  refine br_into (M := 2) hu (by omega) ?_
  have gf : ∀ v, GP (fillA a h v) := fun v => g.fill hh2
  have wt : ∀ {x y z : Int32} {j : Nat}, (x, y, z) = pre (wpS a nu.1 k h) (0, -9, -9) j → rowP nu.1 k (fillA a h j) → (x + 1, (if y = -9 then nI j else y), nI j) = pre (wpS a nu.1 k h) (0, -9, -9) (j + 1) := by
    intro x y z j h1 h2
    show _ = wpS a nu.1 k h j (pre (wpS a nu.1 k h) (0, -9, -9) j)
    rw [← h1]
    exact (if_pos ((row_iff _ _ _).mpr h2)).symm
  have wf : ∀ {x y z : Int32} {j : Nat}, (x, y, z) = pre (wpS a nu.1 k h) (0, -9, -9) j → ¬ rowP nu.1 k (fillA a h j) → (x, y, z) = pre (wpS a nu.1 k h) (0, -9, -9) (j + 1) := by
    intro x y z j h1 h2
    show _ = wpS a nu.1 k h j (pre (wpS a nu.1 k h) (0, -9, -9) j)
    rw [← h1]
    exact (if_neg (fun h => h2 ((row_iff _ _ _).mp h))).symm
  refine lpN_up 100 (fun j z => (z.1, z.2.1, z.2.2.1) = pre (wpS a nu.1 k h) (0, -9, -9) j ∧ z.2.2.2.1 = nI j) (by decide) ?_ ?_ _ ⟨rfl, rfl⟩
  · rintro K j ⟨x, y, z, i, t⟩ hj ⟨w1, w2⟩ hK
    dsimp only at w1 w2
    subst w2
    refine bLt 99 j rfl rfl (by omega) (by omega) (fun w => absurd w (by omega)) (fun _ => sp_think5 hS (fun m1 hm1 => sp_fill hm1 g hh2 (by omega) (fun m2 hm2 _ => sp_rowT hm2 (gf j) e1 hk hv5 (fun r m3 => ?_) (fun r m3 => ?_))))
    · refine br_f (show ¬ (1 : Int32) = 0 by decide) ⟨fun q => hK _ ⟨?_, nI_1 j⟩, fun q => hK _ ⟨?_, nI_1 j⟩⟩
      · have := wt w1 r
        rw [if_pos q] at this
        exact this
      · have := wt w1 r
        rw [if_neg q] at this
        exact this
    · exact br_t rfl (hK _ ⟨wf w1 r, nI_1 j⟩)
  · rintro K ⟨x, y, z, i, t⟩ ⟨w1, w2⟩
    dsimp only at w1 w2
    subst w2
    refine bLt 99 100 rfl rfl (by omega) (by omega) (fun _ => ?_) (fun w => absurd w (by omega))
    have mod : ∀ r : Int32, r = (if u = 0 then x else if u = 1 then y else z) → p_X6_wasPoured c th ks ro rf6 kp (nI h) (nI u) (fun (r2 : Int32) (u2 : PT × Int32 × KS × F1 × F1) => r = r2 ∧ Inv (n, t, q, hh, P, le, nu, rf, pq) (u2.1, u2.2.1, le6, qz, u2.2.2.1, hi, td, ro, se, u2.2.2.2.1, u2.2.2.2.2, ig, ts, tf, hd, gn)) := by
      intro r hr
      unfold p_X6_wasPoured
      refine sp_isH_t hT g hh2 (br_f (by decide) (sp_wb_t (M := 2) hu (by omega) (br_t (by decide) (sp_think6 hT (fun c' ks' kp' hc hkk => ?_)))))
      refine lpN_up 100 (fun j (x, y, z, i, k1, k2, k3, k4, k5, k6, k7, k8, k9, k0, _, _, _, kk) => (x, y, z) = pre (wpS a nu.1 k h) (0, -9, -9) j ∧ (y = -9 ∨ (0 : Int32) ≤ y) ∧ i = nI j ∧ RP (k1, k2, k3, k4, k5, k6, k7, k8, k9, k0) a ∧ RK kk a) (by decide) ?_ ?_ _ ⟨rfl, Or.inl rfl, rfl, hc, hkk⟩
      · rintro K j ⟨x, y, z, i, k1, k2, k3, k4, k5, k6, k7, k8, k9, k0, l1, l2, l3, kk⟩ hj ⟨w1, wy, w2, w3, w4⟩ hK
        subst w2
        refine bLe 100 j rfl rfl (by omega) (by omega) (fun w => absurd w (by omega)) (fun _ => ?_)
        refine sp_pourIn (i := h) (v := j) w3 g hh2 (by omega) (fun t' ht' _ => sp_isRow (b := fillA a h j) ht' (gf j) w4 e2 hk hv (fun t2 ks2 r ht2 hr => ?_))
        rcases hr with ⟨rfl, hr⟩ | ⟨rfl, hr⟩
        · have w5 := wt w1 hr
          refine br_f (show ¬ (1 : Int32) = 0 by decide) ⟨fun q => hK _ ⟨?_, Or.inr q, nI_1 j, ht2, w4⟩, fun q => hK _ ⟨?_, Or.inr (nI_pos' (by omega)), nI_1 j, ht2, w4⟩⟩
          · rw [if_neg (fun e => by have q' : (0 : Int32) ≤ y := q; rw [e] at q'; exact absurd q' (by decide))] at w5
            exact w5
          · rw [if_pos (wy.elim id (fun e => absurd e q))] at w5
            exact w5
        · exact br_t rfl (hK _ ⟨wf w1 hr, wy, nI_1 j, ht2, w4⟩)
      · rintro K ⟨x2, y2, z2, i, k1, k2, k3, k4, k5, k6, k7, k8, k9, k0, l1, l2, l3, kk⟩ ⟨w5, wy, w2, w3, w4⟩
        subst w2
        have w6 := w1.trans w5.symm
        injection w6 with f1 f2
        injection f2 with f2 f3
        subst f1; subst f2; subst f3
        subst hr
        refine bLe 100 100 rfl rfl (by omega) (by omega) (fun _ => ?_) (fun w => absurd w (by omega))
        match u, hu with
        | 0, _ => exact br_t rfl ⟨rfl, a, hS, w3, g, ho, hrf, hle, hro, him, hpa⟩
        | 1, _ => exact br_f (by decide) (br_t rfl ⟨rfl, a, hS, w3, g, ho, hrf, hle, hro, him, hpa⟩)
        | 2, _ => exact br_f (by decide) (br_f (by decide) ⟨rfl, a, hS, w3, g, ho, hrf, hle, hro, him, hpa⟩)
    match u, hu, mod with
    | 0, _, mod => exact br_t rfl (mod _ rfl)
    | 1, _, mod => exact br_f (by decide) (br_t rfl (mod _ rfl))
    | 2, _, mod => exact br_f (by decide) (br_f (by decide) (mod _ rfl))
def remA (a : AP) (h k f : Nat) : AP := (upN (aK a) h k, upN (aF a) h f, aH a, aX a, aN a, aS a, aW a, aC a, aO a)
theorem GP.rem {a : AP} (g : GP a) {h k f : Nat} (hk : k < 6) (hf : f < 10) : GP (remA a h k f) := by
  refine ⟨g.1, fun j hj => ?_, g.2.2⟩
  obtain ⟨g1, g2, g3, g4⟩ := g.2.1 j hj
  show upN (aK a) h k j < 6 ∧ upN (aF a) h f j < 10 ∧ aH a j < 100 ∧ aX a j ≤ 9
  by_cases e : j = h
  · subst e; rw [upN_s, upN_s]; exact ⟨hk, hf, g3, g4⟩
  · rw [upN_n e, upN_n e]; exact ⟨g1, g2, g3, g4⟩
theorem RP.rem {t : PT} {a : AP} (h : RP t a) {i k f : Nat} (hi : i < 9) {x1 x2 : F1} (e1 : x1 = upd t.1 (nI i).toNatClampNeg (nI k)) (e2 : x2 = upd t.2.1 (nI i).toNatClampNeg (nI f)) : RP (x1, x2, t.2.2) (remA a i k f) := by
  subst e1; subst e2
  exact ⟨fun j hj => ⟨upd_up hi (fun j hj => (h.1 j hj).1) rfl j hj, upd_up hi (fun j hj => (h.1 j hj).2.1) rfl j hj, (h.1 j hj).2.2⟩, h.2⟩
theorem sp_remake {t : PT} {a : AP} {i k f : Nat} {post : PT → Prop} (h : RP t a) (g : GP a) (hi : i < aN a) (q : ∀ t', RP t' (remA a i k f) → post t') : p_X3_remake t (nI i) (nI k) (nI f) post := by
  have h9 := g.1
  unfold p_X3_remake
  exact sp_there_t h g hi (br_f (by decide) ⟨vin9 (by omega), nm_in (fun x1 d1 => ⟨vin9 (by omega), nm_in (fun x2 d2 => q _ (h.rem (by omega) d1 d2))⟩)⟩)
def wkS (B : Nat → AP) (f : F1) (k i : Nat) (s : Int32) : Int32 := if rowN f (B i) k = 0 then s ||| bitI i else s
theorem wk_t {B : Nat → AP} {f : F1} {k j : Nat} {s : Int32} (h : s = pre (wkS B f k) 0 j) (r : rowP f k (B j)) : s ||| bitI j = pre (wkS B f k) 0 (j + 1) := by
  show _ = wkS B f k j (pre (wkS B f k) 0 j)
  rw [← h]
  exact (if_pos ((row_iff _ _ _).mpr r)).symm
theorem wk_f {B : Nat → AP} {f : F1} {k j : Nat} {s : Int32} (h : s = pre (wkS B f k) 0 j) (r : ¬ rowP f k (B j)) : s = pre (wkS B f k) 0 (j + 1) := by
  show _ = wkS B f k j (pre (wkS B f k) 0 j)
  rw [← h]
  exact (if_neg (fun q => r ((row_iff _ _ _).mp q))).symm
set_option maxHeartbeats 1000000 in
theorem okk_whatKind : ok_whatKind Inv := by
  rintro ⟨n, m, q, hh, P, le, nu, rf, pq⟩ ⟨c, th, le6, qz, ks, hi, td, ro, se, rf6, kp, ig, ts, tf, hd, gn⟩ p1 p2 ⟨a, hS, hT, g, ho, hrf, hle, hro, him, hpa⟩
  dsimp only at hS hT hrf hle hro him hpa
  have h9 := g.1
  obtain ⟨k, hk, e1, e2, hv⟩ := id hro
  have hv5 := IRow.self hv hk
  unfold p_X5_whatKind
  rcases house_or a p1 with ⟨h, hh2, rfl⟩ | hn
  case inr =>
    refine sp_there_f hS g hn (br_t rfl (sp_ref5 isR1 ?_))
    unfold p_X6_whatKind
    refine sp_isH_f hT g hn (br_t rfl (sp_wb_no (by decide) (br_f (by decide) (sp_ref6 isR1 ?_))))
    exact ⟨rfl, a, hS, hT, g, ho, hrf.s _, hle, hro, him, hpa⟩
  obtain ⟨gk, gg, -, -⟩ := g.2.1 h (by omega)
  refine sp_there_t hS g hh2 (br_f (by decide) ?_)
  rcases in_or p2 1 with ⟨u, hu, rfl⟩ | hu
  case inr =>
    refine br_f (hu 0 (by omega)) (br_f (hu 1 (by omega)) (sp_ref5 isR2 ?_))
    unfold p_X6_whatKind
    refine sp_isH_t hT g hh2 (br_f (by decide) (sp_wb_f (M := 1) (by omega) hu (br_f (by decide) (sp_ref6 isR2 ?_))))
    exact ⟨rfl, a, hS, hT, g, ho, hrf.s _, hle, hro, him, hpa⟩
  match u, hu with
  | 0, hu =>
    let B : Nat → AP := fun i => remA a h i (aF a h)
    have gB : ∀ j, j < 6 → GP (B j) := fun j hj => g.rem hj gg
    refine br_t rfl ?_
    unfold p_X5_kindsTold
    refine lpN_up 6 (fun j z => z.1 = pre (wkS B nu.1 k) 0 j ∧ z.2.1 = nI j) (by decide) ?_ ?_ _ ⟨rfl, rfl⟩
    · rintro K j ⟨x, y, t⟩ hj ⟨w1, w2⟩ hK
      dsimp only at w1 w2
      subst w2
      refine bLt 5 j rfl rfl (by omega) (by omega) (fun w => absurd w (by omega)) (fun _ => sp_think5 hS (fun m1 hm1 => sp_figOf hS g hh2 (sp_remake hm1 g hh2 (fun m2 hm2 => sp_rowT hm2 (gB j hj) e1 hk hv5 (fun r m3 => ?_) (fun r m3 => ?_)))))
      · exact br_f (show ¬ (1 : Int32) = 0 by decide) (nm_in (fun v ev => hK _ ⟨ev.trans (wk_t w1 r), nI_1 j⟩))
      · exact br_t rfl (hK _ ⟨wk_f w1 r, nI_1 j⟩)
    · rintro K ⟨x, y, t⟩ ⟨w1, w2⟩
      dsimp only at w1 w2
      subst w2
      refine bLt 5 6 rfl rfl (by omega) (by omega) (fun _ => ?_) (fun w => absurd w (by omega))
      unfold p_X6_whatKind
      refine sp_isH_t hT g hh2 (br_f (by decide) (sp_wb_t (k := 0) (M := 1) (by omega) (by omega) (br_t (by decide) (sp_think6 hT (fun c' ks' kp' hc hkk => ?_)))))
      refine lpN_up 6 (fun j (x, i, k1, k2, k3, k4, k5, k6, k7, k8, k9, k0, _, _, _, kk) => x = pre (wkS B nu.1 k) 0 j ∧ i = nI j ∧ RP (k1, k2, k3, k4, k5, k6, k7, k8, k9, k0) a ∧ RK kk a) (by omega) ?_ ?_ _ ⟨rfl, rfl, hc, hkk⟩
      · rintro K j ⟨x, i, k1, k2, k3, k4, k5, k6, k7, k8, k9, k0, l1, l2, l3, kk⟩ hj ⟨w1, w2, w3, w4⟩ hK
        subst w2
        refine br_t rfl (bLe 6 j rfl rfl (by omega) (by omega) (fun w => absurd w (by omega)) (fun _ => br_t rfl ⟨vin9 (by omega), nm_in (fun x1 d1 => br_f (show ¬ nI 0 = (1 : Int32) by decide) ⟨vin9 (by omega), vin9 (by omega), nm_in (fun x2 d2 => ?_)⟩)⟩))
        have hb := w3.rem (i := h) (k := j) (f := aF a h) (by omega) d1 (d2.trans (congrArg (upd k2 (nI h).toNatClampNeg) (w3.f (i := h) (by omega))))
        refine sp_isRow (b := B j) hb (gB j hj) w4 e2 hk hv (fun t' ks2 r ht' hr => ?_)
        rcases hr with ⟨rfl, hr⟩ | ⟨rfl, hr⟩
        · exact br_f (show ¬ (1 : Int32) = 0 by decide) (nm_in (fun v ev => hK _ ⟨ev.trans (wk_t w1 hr), nI_1 j, ht', w4⟩))
        · exact br_t rfl (nm_in (fun v ev => hK _ ⟨(ev.trans (or0 x)).trans (wk_f w1 hr), nI_1 j, ht', w4⟩))
      · rintro K ⟨x2, i, k1, k2, k3, k4, k5, k6, k7, k8, k9, k0, l1, l2, l3, kk⟩ ⟨w1', w2, w3, w4⟩
        subst w2
        exact br_t rfl (bLe 6 6 rfl rfl (by omega) (by omega) (fun _ => ⟨w1.trans w1'.symm, a, hS, w3, g, ho, hrf, hle, hro, him, hpa⟩) (fun w => absurd w (by omega)))
  | 1, hu =>
    let B : Nat → AP := fun i => remA a h (aK a h) i
    have gB : ∀ j, j < 10 → GP (B j) := fun j hj => g.rem gk hj
    refine br_f (by decide) (br_t rfl ?_)
    unfold p_X5_figuresTold
    refine lpN_up 10 (fun j z => z.1 = pre (wkS B nu.1 k) 0 j ∧ z.2.1 = nI j) (by decide) ?_ ?_ _ ⟨rfl, rfl⟩
    · rintro K j ⟨x, y, t⟩ hj ⟨w1, w2⟩ hK
      dsimp only at w1 w2
      subst w2
      refine bLt 9 j rfl rfl (by omega) (by omega) (fun w => absurd w (by omega)) (fun _ => sp_think5 hS (fun m1 hm1 => sp_kindOf hS g hh2 (sp_remake hm1 g hh2 (fun m2 hm2 => sp_rowT hm2 (gB j hj) e1 hk hv5 (fun r m3 => ?_) (fun r m3 => ?_)))))
      · exact br_f (show ¬ (1 : Int32) = 0 by decide) (nm_in (fun v ev => hK _ ⟨ev.trans (wk_t w1 r), nI_1 j⟩))
      · exact br_t rfl (hK _ ⟨wk_f w1 r, nI_1 j⟩)
    · rintro K ⟨x, y, t⟩ ⟨w1, w2⟩
      dsimp only at w1 w2
      subst w2
      refine bLt 9 10 rfl rfl (by omega) (by omega) (fun _ => ?_) (fun w => absurd w (by omega))
      unfold p_X6_whatKind
      refine sp_isH_t hT g hh2 (br_f (by decide) (sp_wb_t (k := 1) (M := 1) (by omega) (by omega) (br_t (by decide) (sp_think6 hT (fun c' ks' kp' hc hkk => ?_)))))
      refine lpN_up 10 (fun j (x, i, k1, k2, k3, k4, k5, k6, k7, k8, k9, k0, _, _, _, kk) => x = pre (wkS B nu.1 k) 0 j ∧ i = nI j ∧ RP (k1, k2, k3, k4, k5, k6, k7, k8, k9, k0) a ∧ RK kk a) (by omega) ?_ ?_ _ ⟨rfl, rfl, hc, hkk⟩
      · rintro K j ⟨x, i, k1, k2, k3, k4, k5, k6, k7, k8, k9, k0, l1, l2, l3, kk⟩ hj ⟨w1, w2, w3, w4⟩ hK
        subst w2
        refine br_f (show ¬ nI 1 = 0 by decide) (bLe 10 j rfl rfl (by omega) (by omega) (fun w => absurd w (by omega)) (fun _ => br_f (show ¬ nI 1 = 0 by decide) ⟨vin9 (by omega), vin9 (by omega), nm_in (fun x1 d1 => br_t rfl ⟨vin9 (by omega), nm_in (fun x2 d2 => ?_)⟩)⟩))
        have hb := w3.rem (i := h) (k := aK a h) (f := j) (by omega) (d1.trans (congrArg (upd k1 (nI h).toNatClampNeg) (w3.k (i := h) (by omega)))) d2
        refine sp_isRow (b := B j) hb (gB j hj) w4 e2 hk hv (fun t' ks2 r ht' hr => ?_)
        rcases hr with ⟨rfl, hr⟩ | ⟨rfl, hr⟩
        · exact br_f (show ¬ (1 : Int32) = 0 by decide) (nm_in (fun v ev => hK _ ⟨ev.trans (wk_t w1 hr), nI_1 j, ht', w4⟩))
        · exact br_t rfl (nm_in (fun v ev => hK _ ⟨(ev.trans (or0 x)).trans (wk_f w1 hr), nI_1 j, ht', w4⟩))
      · rintro K ⟨x2, i, k1, k2, k3, k4, k5, k6, k7, k8, k9, k0, l1, l2, l3, kk⟩ ⟨w1', w2, w3, w4⟩
        subst w2
        exact br_f (show ¬ nI 1 = 0 by decide) (bLe 10 10 rfl rfl (by omega) (by omega) (fun _ => ⟨w1.trans w1'.symm, a, hS, w3, g, ho, hrf, hle, hro, him, hpa⟩) (fun w => absurd w (by omega)))
