/-! counting, first places -/
def cntN (f : Nat → Nat) (v n : Nat) : Nat := pre (fun i s => if f i = v then s + 1 else s) 0 n
theorem cnt_t {f : Nat → Nat} {v n : Nat} (h : f n = v) : nI (cntN f v n) + 1 = nI (cntN f v (n + 1)) := by
  rw [show cntN f v (n + 1) = cntN f v n + 1 from if_pos h]
  exact nI_1 _
theorem cnt_f {f : Nat → Nat} {v n : Nat} (h : f n ≠ v) : nI (cntN f v n) = nI (cntN f v (n + 1)) := by
  rw [show cntN f v (n + 1) = cntN f v n from if_neg h]
theorem cnt_f0 {f : Nat → Nat} {v n : Nat} (h : f n ≠ v) : nI (cntN f v n) + 0 = nI (cntN f v (n + 1)) := by
  rw [← cnt_f h]
  exact Int32.add_zero _
theorem sp_inN_t {k Y Z : Nat} {y z : Int64} {post : Int32 → Prop} (hy : y.toInt = Y) (hz : z.toInt = Z) (h1 : Y ≤ k) (h2 : k ≤ Z) (hk : k < 2 ^ 31) (q : post 1) : p_X6_in (nI k).toInt64 y z post := by
  refine sp_in_t ?_ ?_ q
  · rw [Int32.toInt_toInt64, nI_toInt hk, hy]; omega
  · rw [Int32.toInt_toInt64, nI_toInt hk, hz]; omega
theorem sp_inN_f {p : Int32} {Y Z : Nat} {y z : Int64} {post : Int32 → Prop} (hy : y.toInt = Y) (hz : z.toInt = Z) (h : ∀ k, Y ≤ k → k ≤ Z → p ≠ nI k) (q : post 0) : p_X6_in p.toInt64 y z post := by
  refine sp_in_f ?_ q
  rw [Int32.toInt_toInt64, hy, hz]
  by_cases w : p < 0
  · left; rw [Int32.lt_iff_toInt_lt] at w; have : (0 : Int32).toInt = 0 := rfl; omega
  · obtain ⟨j, hj, rfl⟩ := nI_of w
    rw [nI_toInt hj]
    by_cases a1 : (j : Int) < Y
    · left; exact a1
    · right
      rcases Nat.lt_or_ge Z j with b | b
      · omega
      · exact absurd rfl (h j (by omega) b)
theorem br_out {A B : Prop} {p : Int32} {M : Nat} (hM : M < 2 ^ 31) (h : ∀ k, k ≤ M → p ≠ nI k) (q : A) : (p < 0 → A) ∧ (¬ p < 0 → (p ≤ nI M → B) ∧ (¬ p ≤ nI M → A)) := by
  refine ⟨fun _ => q, fun w => ⟨fun v => ?_, fun _ => q⟩⟩
  obtain ⟨j, hj, rfl⟩ := nI_of w
  rcases Nat.lt_or_ge M j with b | b
  · exact absurd (nI_lt b hj) (Int32.not_lt.mpr v)
  · exact absurd rfl (h j b)
theorem br_into {A B : Prop} {k M : Nat} (hk : k ≤ M) (hM : M < 2 ^ 31) (q : B) : (nI k < 0 → A) ∧ (¬ nI k < 0 → (nI k ≤ nI M → B) ∧ (¬ nI k ≤ nI M → A)) :=
  br_f (Int32.not_lt.mpr (nI_pos' (by omega))) (br_t (nI_le hk hM) q)
theorem okk_into : ok_into Inv := by
  rintro ⟨n, m, q, hh, P, le, nu, rf, pq⟩ ⟨c, th, le6, qz, ks, hi, td, ro, se, rf6, kp, ig, ts, tf, hd, gn⟩ p1 ⟨a, hS, hT, g, ho, hrf, hle, hro, him, hpa⟩
  dsimp only at hS hT hrf hle hro him hpa
  have h9 := g.1
  unfold p_X5_into
  rcases house_or a p1 with ⟨i, hi, rfl⟩ | hn
  · refine sp_there_t hS g hi (br_f (by decide) ?_)
    refine lpN_up (aN a) (fun j z => z.2 = nI j ∧ z.1 = nI (cntN (aX a) i j)) (by omega) ?_ ?_ _ ⟨rfl, rfl⟩
    · rintro K j ⟨x, y⟩ hj ⟨e1, e2⟩ hK
      dsimp only at e1 e2
      subst e1; subst e2
      obtain ⟨-, -, -, gx⟩ := g.2.1 j (by omega)
      refine sp_houses hS (bLe (aN a) j rfl rfl (by omega) (by omega) (fun q => absurd q (by omega)) (fun _ => sp_nextOf hS g hj ?_))
      exact bEq (aX a j) i rfl rfl (by omega) (by omega) (fun q => hK _ ⟨nI_1 j, cnt_t q⟩) (fun q => hK _ ⟨nI_1 j, cnt_f q⟩)
    · rintro K ⟨x, y⟩ ⟨e1, e2⟩
      dsimp only at e1 e2
      subst e1; subst e2
      refine sp_houses hS (bLe (aN a) (aN a) rfl rfl (by omega) (by omega) (fun _ => ?_) (fun q => absurd q (by omega)))
      unfold p_X6_into
      refine sp_isH_t hT g hi (br_f (by decide) ?_)
      refine lpN_up (aN a) (fun j z => z.2 = nI j ∧ z.1 = nI (cntN (aX a) i j)) (by omega) ?_ ?_ _ ⟨rfl, rfl⟩
      · rintro K j ⟨x, y⟩ hj ⟨e1, e2⟩ hK
        dsimp only at e1 e2
        subst e1; subst e2
        obtain ⟨-, -, -, gx⟩ := g.2.1 j (by omega)
        refine bLe (aN a) j hT.2.1 rfl (by omega) (by omega) (fun q => absurd q (by omega)) (fun _ => ⟨vin9 (by omega), ?_⟩)
        exact bEq (aX a j) i (hT.x (by omega)) rfl (by omega) (by omega) (fun q => nm_in (fun v e => hK _ ⟨nI_1 j, e.trans (cnt_t q)⟩)) (fun q => nm_in (fun v e => hK _ ⟨nI_1 j, e.trans (cnt_f0 q)⟩))
      · rintro K ⟨x, y⟩ ⟨e1, e2⟩
        dsimp only at e1 e2
        subst e1; subst e2
        refine bLe (aN a) (aN a) hT.2.1 rfl (by omega) (by omega) (fun _ => ?_) (fun q => absurd q (by omega))
        exact ⟨rfl, a, hS, hT, g, ho, hrf, hle, hro, him, hpa⟩
  · refine sp_there_f hS g hn (br_t rfl (sp_ref5 isR1 ?_))
    unfold p_X6_into
    refine sp_isH_f hT g hn (br_t rfl (sp_ref6 isR1 ?_))
    exact ⟨rfl, a, hS, hT, g, ho, hrf.s _, hle, hro, him, hpa⟩
theorem okk_kinds : ok_kinds Inv := by
  rintro ⟨n, m, q, hh, P, le, nu, rf, pq⟩ ⟨c, th, le6, qz, ks, hi, td, ro, se, rf6, kp, ig, ts, tf, hd, gn⟩ p1 ⟨a, hS, hT, g, ho, hrf, hle, hro, him, hpa⟩
  dsimp only at hS hT hrf hle hro him hpa
  have h9 := g.1
  unfold p_X5_kinds
  rcases in_or p1 5 with ⟨i, hi, rfl⟩ | hn
  · refine br_into (M := 5) hi (by omega) ?_
    refine lpN_up (aN a) (fun j z => z.2 = nI j ∧ z.1 = nI (cntN (aK a) i j)) (by omega) ?_ ?_ _ ⟨rfl, rfl⟩
    · rintro K j ⟨x, y⟩ hj ⟨e1, e2⟩ hK
      dsimp only at e1 e2
      subst e1; subst e2
      obtain ⟨gx, -⟩ := g.2.1 j (by omega)
      refine sp_houses hS (bLe (aN a) j rfl rfl (by omega) (by omega) (fun q => absurd q (by omega)) (fun _ => sp_kindOf hS g hj ?_))
      exact bEq (aK a j) i rfl rfl (by omega) (by omega) (fun q => hK _ ⟨nI_1 j, cnt_t q⟩) (fun q => hK _ ⟨nI_1 j, cnt_f q⟩)
    · rintro K ⟨x, y⟩ ⟨e1, e2⟩
      dsimp only at e1 e2
      subst e1; subst e2
      refine sp_houses hS (bLe (aN a) (aN a) rfl rfl (by omega) (by omega) (fun _ => ?_) (fun q => absurd q (by omega)))
      unfold p_X6_kinds
      refine sp_inN_t (Y := 0) (Z := 5) rfl rfl (by omega) hi (by omega) (br_f (by decide) ?_)
      refine lpN_up (aN a) (fun j z => z.2 = nI j ∧ z.1 = nI (cntN (aK a) i j)) (by omega) ?_ ?_ _ ⟨rfl, rfl⟩
      · rintro K j ⟨x, y⟩ hj ⟨e1, e2⟩ hK
        dsimp only at e1 e2
        subst e1; subst e2
        obtain ⟨gx, -⟩ := g.2.1 j (by omega)
        refine bLe (aN a) j hT.2.1 rfl (by omega) (by omega) (fun q => absurd q (by omega)) (fun _ => ⟨vin9 (by omega), ?_⟩)
        exact bEq (aK a j) i (hT.k (by omega)) rfl (by omega) (by omega) (fun q => nm_in (fun v e => hK _ ⟨nI_1 j, e.trans (cnt_t q)⟩)) (fun q => nm_in (fun v e => hK _ ⟨nI_1 j, e.trans (cnt_f0 q)⟩))
      · rintro K ⟨x, y⟩ ⟨e1, e2⟩
        dsimp only at e1 e2
        subst e1; subst e2
        refine bLe (aN a) (aN a) hT.2.1 rfl (by omega) (by omega) (fun _ => ?_) (fun q => absurd q (by omega))
        exact ⟨rfl, a, hS, hT, g, ho, hrf, hle, hro, him, hpa⟩
  · refine br_out (M := 5) (by omega) hn (sp_ref5 isR2 ?_)
    unfold p_X6_kinds
    refine sp_inN_f (Y := 0) (Z := 5) rfl rfl (fun k _ h => hn k h) (br_t rfl (sp_ref6 isR2 ?_))
    exact ⟨rfl, a, hS, hT, g, ho, hrf.s _, hle, hro, him, hpa⟩
theorem okk_count : ok_count Inv := by
  rintro ⟨n, m, q, hh, P, le, nu, rf, pq⟩ ⟨c, th, le6, qz, ks, hi, td, ro, se, rf6, kp, ig, ts, tf, hd, gn⟩ p1 ⟨a, hS, hT, g, ho, hrf, hle, hro, him, hpa⟩
  dsimp only at hS hT hrf hle hro him hpa
  obtain ⟨k1, hk1, e1, e2, -⟩ := id hle
  obtain ⟨k2, hk2, e3, e4, -⟩ := id hro
  obtain ⟨k3, la, -, -, -, e5, e6, -⟩ := id hpa
  have fin : ∀ r : Int32, r = r ∧ Inv (n, m, q, hh, P, le, nu, rf, pq) (c, 0, le6, qz, ks, hi, td, ro, se, rf6, kp, ig, ts, tf, hd, gn) := fun r => ⟨rfl, a, hS, hT, g, ho, hrf, hle, hro, him, hpa⟩
  unfold p_X5_count
  by_cases d0 : p1 = 0
  · refine br_t d0 (sp_houses hS ?_)
    unfold p_X6_count
    exact br_t d0 ⟨hT.2.1.symm, (fin 0).2⟩
  refine br_f d0 ?_
  by_cases d1 : p1 = 1
  · refine br_t d1 (sp_hour hS ?_)
    unfold p_X6_count
    exact br_f d0 (br_t d1 ⟨hT.2.2.2.2.2.symm, (fin 0).2⟩)
  refine br_f d1 ?_
  by_cases d2 : p1 = 2
  · refine br_t d2 (sp_inCup hS ?_)
    unfold p_X6_count
    exact br_f d0 (br_f d1 (br_t d2 ⟨hT.2.2.2.2.1.symm, (fin 0).2⟩))
  refine br_f d2 ?_
  by_cases d3 : p1 = 3
  · refine br_t d3 (sp_blkBits hS ?_)
    unfold p_X6_count
    exact br_f d0 (br_f d1 (br_f d2 (br_t d3 ⟨hT.2.2.1.symm, (fin 0).2⟩)))
  refine br_f d3 ?_
  by_cases d4 : p1 = 4
  · refine br_t d4 (sp_wetBits hS ?_)
    unfold p_X6_count
    exact br_f d0 (br_f d1 (br_f d2 (br_f d3 (br_t d4 ⟨hT.2.2.2.1.symm, (fin 0).2⟩))))
  refine br_f d4 ?_
  by_cases d5 : p1 = 5
  · refine br_t d5 (sp_holdsAll hS g ?_)
    unfold p_X6_count
    exact br_f d0 (br_f d1 (br_f d2 (br_f d3 (br_f d4 (br_t d5 (sp_allHold hT g ⟨rfl, (fin 0).2⟩))))))
  refine br_f d5 ?_
  by_cases d6 : p1 = 6
  · unfold p_X1_size
    refine br_t d6 ?_
    unfold p_X6_count
    exact br_f d0 (br_f d1 (br_f d2 (br_f d3 (br_f d4 (br_f d5 (br_t d6 ⟨e1.trans e2.symm, (fin 0).2⟩))))))
  refine br_f d6 ?_
  by_cases d7 : p1 = 7
  · unfold p_X2_size
    refine br_t d7 ?_
    unfold p_X6_count
    exact br_f d0 (br_f d1 (br_f d2 (br_f d3 (br_f d4 (br_f d5 (br_f d6 (br_t d7 ⟨e3.trans e4.symm, (fin 0).2⟩)))))))
  refine br_f d7 ?_
  by_cases d8 : p1 = 8
  · unfold p_X4_size
    refine br_t d8 ?_
    unfold p_X6_count
    exact br_f d0 (br_f d1 (br_f d2 (br_f d3 (br_f d4 (br_f d5 (br_f d6 (br_f d7 (br_t d8 ⟨e5.trans e6.symm, (fin 0).2⟩))))))))
  refine br_f d8 ?_
  unfold p_X5_refusalsCounted
  have sub : ∀ w, w ≤ 5 → nI (w + 11) - 10 = nI (w + 1) := by decide
  have i6 : ∀ {r : Int32 → Int32 → Prop}, p_X6_in (p1).toInt64 (11 : Int64) (16 : Int64) (fun (r2 : Int32) => ((r2 = 0 → r (-9 : Int32) (0 : Int32)) ∧ (¬ r2 = 0 → (vp_in (p1 - (10 : Int32)) 7 ∧ r (rf6 ((p1 - (10 : Int32))).toNatClampNeg) (0 : Int32))))) → p_X6_count c th le6 td ro rf6 p1 r := by
    intro r h
    unfold p_X6_count
    exact br_f d0 (br_f d1 (br_f d2 (br_f d3 (br_f d4 (br_f d5 (br_f d6 (br_f d7 (br_f d8 h))))))))
  rcases out3 p1 11 16 (by omega) (by omega) with ⟨w, h1, h2, rfl⟩ | h | ⟨h1, h2⟩
  · obtain ⟨j, rfl⟩ : ∃ j, w = j + 11 := ⟨w - 11, by omega⟩
    have ej := sub j (by omega)
    refine br_f (nI_nlt h1 (by omega)) (br_t (nI_le (b := 16) h2 (by omega)) ⟨by rw [ej]; exact vp_in_nI (show j + 1 < 7 by omega) (by decide), i6 ?_⟩)
    refine sp_inN_t (Y := 11) (Z := 16) rfl rfl h1 h2 (by omega) (br_f (by decide) ⟨by rw [ej]; exact vp_in_nI (show j + 1 < 7 by omega) (by decide), ?_, (fin 0).2⟩)
    rw [ej, cl_nI (by omega)]
    exact hrf _ (by omega)
  · refine br_t h (i6 (sp_inN_f (Y := 11) (Z := 16) rfl rfl (fun k a b e => ?_) (br_t rfl (fin _))))
    subst e
    exact nI_nlt a (by omega) h
  · refine br_f h1 (br_f (Int32.not_le.mpr h2) (i6 (sp_inN_f (Y := 11) (Z := 16) rfl rfl (fun k a b e => ?_) (br_t rfl (fin _)))))
    subst e
    exact nI_nlt b (by omega) h2
