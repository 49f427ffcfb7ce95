/-! lots drawn -/
theorem all_nI (v : Int32) : ∃ x, v = nI x := ⟨v.toBitVec.toNat, by
  apply Int32.toBitVec_inj.mp
  show v.toBitVec = (Int32.ofNat v.toBitVec.toNat).toBitVec
  rw [Int32.toBitVec_ofNat', BitVec.ofNat_toNat, BitVec.setWidth_eq]⟩
def dwN (v : Int32) (n : Nat) : Nat := ((v &&& (2147483647 : Int32)) / (65536 : Int32)).toNatClampNeg % n
theorem dw_d (v : Int32) : ∃ d, d < 32768 ∧ (v &&& (2147483647 : Int32)) / (65536 : Int32) = nI d := by
  obtain ⟨x, rfl⟩ := all_nI v
  have e : nI x &&& (2147483647 : Int32) = nI (x &&& 2147483647) := fa_and x 2147483647
  have l : x &&& 2147483647 < 2 ^ 31 := Nat.lt_of_le_of_lt Nat.and_le_right (by decide)
  refine ⟨(x &&& 2147483647) / 65536, by omega, ?_⟩
  rw [e, show (65536 : Int32) = nI 65536 from rfl]
  exact pk_div l (by decide) (by decide)
theorem dw_e {v : Int32} {n : Nat} (h0 : 0 < n) (hn : n < 2 ^ 31) : ((v &&& (2147483647 : Int32)) / (65536 : Int32)) - ((v &&& (2147483647 : Int32)) / (65536 : Int32)) / nI n * nI n = nI (dwN v n) := by
  obtain ⟨d, hd, e⟩ := dw_d v
  unfold dwN
  rw [e, cl_nI (by omega), pk_div (by omega) h0 hn, nI_mulN, nI_subN (Nat.div_mul_le_self d n)]
  congr 1
  have h1 := Nat.div_add_mod d n
  have h2 := Nat.mul_comm n (d / n)
  omega
theorem dw_lt {v : Int32} {n : Nat} (h0 : 0 < n) : dwN v n < n := Nat.mod_lt _ h0
def sdI (v : Int32) : Int32 := (v * (1103515245 : Int32)) + (12345 : Int32)
theorem sp_drawn {v : Int32} {n : Nat} {post : Int32 → Prop} (h0 : 0 < n) (hn : n < 2 ^ 31) (k : post (nI (dwN v n))) : p_X5_drawn v (nI n) post := by
  unfold p_X5_drawn
  refine br_t (show (1 : Int32) ≤ nI n from nI_le (a := 1) h0 hn) ⟨nI_ne0 h0 hn, ?_⟩
  rw [dw_e h0 hn]
  exact k
theorem sp_drawB {v : Int32} {n : Nat} {post : Int32 → Int32 → Prop} (h0 : 0 < n) (hn : n < 2 ^ 31) (k : post (nI (dwN (sdI v) n)) (sdI v)) : p_X6_drawBelow v (nI n) post := by
  unfold p_X6_drawBelow
  refine nm_in (fun w ew => ?_)
  have ew' : w = sdI v := ew
  subst ew'
  refine ⟨nI_ne0 h0 hn, ?_⟩
  rw [dw_e h0 hn]
  exact k
def LG (f : Int32 → Nat → Nat) (sd : Int32 → Int32) : Prop := (∀ v n, 0 < n → f v n < n) ∧ (∀ v n (post : Int32 → Prop), 0 < n → n < 2 ^ 31 → post (nI (f v n)) → p_X5_drawn v (nI n) post) ∧ (∀ v (post : Int32 → Prop), post (sd v) → p_X5_nextSeed v post) ∧ (∀ v n (post : Int32 → Int32 → Prop), 0 < n → n < 2 ^ 31 → post (nI (f (sd v) n)) (sd v) → p_X6_drawBelow v (nI n) post)
theorem lg : LG dwN sdI := ⟨fun _ _ h => dw_lt h, fun _ _ _ h0 hn k => sp_drawn h0 hn k, fun _ _ k => k, fun _ _ _ h0 hn k => sp_drawB h0 hn k⟩
def ltS (f : Int32 → Nat → Nat) (sd : Int32 → Int32) (n : Nat) (s : Int32 × AP) : Int32 × AP := (sd (sd s.1), fillA s.2 (f (sd s.1) n) (f (sd (sd s.1)) 40))
def ltA (f : Int32 → Nat → Nat) (sd : Int32 → Int32) (a : AP) (v : Int32) (j : Nat) : Int32 × AP := itr (ltS f sd (aN a)) (v, a) j
def wkN (a : AP) : Nat := if aN a = 0 then 0 else 3
def wkA (f : Int32 → Nat → Nat) (sd : Int32 → Int32) (a : AP) (v : Int32) : Int32 × AP := ltA f sd a v (wkN a)
theorem lt_inv {f : Int32 → Nat → Nat} {sd : Int32 → Int32} (L : LG f sd) {a : AP} (g : GP a) (h0 : 0 < aN a) (v : Int32) : ∀ j, GP (ltA f sd a v j).2 ∧ aN (ltA f sd a v j).2 = aN a
  | 0 => ⟨g, rfl⟩
  | j + 1 => by
    obtain ⟨h1, h2⟩ := lt_inv L g h0 v j
    exact ⟨h1.fill (by rw [h2]; exact L.1 _ _ h0), h2⟩
theorem wk_g {f : Int32 → Nat → Nat} {sd : Int32 → Int32} (L : LG f sd) {a : AP} (g : GP a) (v : Int32) : GP (wkA f sd a v).2 := by
  unfold wkA wkN
  split
  · exact g
  · exact (lt_inv L g (by omega) v 3).1
theorem sp_week5 {f : Int32 → Nat → Nat} {sd : Int32 → Int32} (L : LG f sd) {n m : PT} {a : AP} {v : Int32} {post : Int32 → PT → Prop} (h : RP n a) (g : GP a) (k : ∀ m', RP m' (hoursA (wkA f sd a v).2 12) → post (wkA f sd a v).1 m') : p_X5_liveWeek n m v post := by
  have h9 := g.1
  have wl : wkN a ≤ 3 := by unfold wkN; split <;> omega
  unfold p_X5_liveWeek
  refine sp_think5 h (fun m' hm => ?_)
  refine lpN_up (wkN a) (fun j z => z.1 = (ltA f sd a v j).1 ∧ z.2.1 = nI j ∧ RP z.2.2 (ltA f sd a v j).2) (by omega) ?_ ?_ _ ⟨rfl, rfl, hm⟩
  · rintro K j ⟨x, y, t⟩ hj ⟨w1, w2, w3⟩ hK
    dsimp only at w1 w2 w3
    subst w1; subst w2
    have n0 : 0 < aN a := by
      unfold wkN at hj
      split at hj
      · omega
      · omega
    obtain ⟨gj, nj⟩ := lt_inv L g n0 v j
    refine bLe 3 j rfl rfl (by omega) (by omega) (fun w => absurd w (by omega)) (fun _ => sp_houses h (br_f (nI_nle n0 (by omega)) ?_))
    refine L.2.2.1 _ _ (sp_houses h (L.2.1 _ _ _ n0 (by omega) (L.2.2.1 _ _ (L.2.1 _ 40 _ (by decide) (by decide) ?_))))
    exact sp_fill w3 gj (by rw [nj]; exact L.1 _ _ n0) (Nat.lt_of_lt_of_le (L.1 _ 40 (by decide)) (by decide)) (fun t' ht' _ => hK _ ⟨rfl, nI_1 j, ht'⟩)
  · rintro K ⟨x, y, t⟩ ⟨w1, w2, w3⟩
    dsimp only at w1 w2 w3
    subst w1; subst w2
    have fin : p_X3_pass t (12 : Int32) (fun u => post (ltA f sd a v (wkN a)).1 u) := sp_pass (n := 12) w3 (wk_g L g v) (by decide) (fun t' ht' => k t' ht')
    unfold wkN at *
    by_cases n0 : aN a = 0
    · rw [if_pos n0] at *
      exact br_f (show ¬ (3 : Int32) ≤ 0 by decide) (sp_houses h (br_t (by rw [n0]; decide) fin))
    · rw [if_neg n0] at *
      exact br_t (show (3 : Int32) ≤ 3 by decide) fin
def valI (f : Int32 → Nat → Nat) (sd : Int32 → Int32) (a : AP) (u : Nat) (v : Int32) : Int32 := if u = 0 then nI (aC (hoursA (wkA f sd a v).2 12)) - nI (aC a) else nI (sumN (aH (hoursA (wkA f sd a v).2 12)) (aN (hoursA (wkA f sd a v).2 12)))
def loS (f : Int32 → Nat → Nat) (sd : Int32 → Int32) (a : AP) (u : Nat) (s : Int32 × Int32) : Int32 × Int32 := ((wkA f sd a s.1).1, s.2 + valI f sd a u s.1)
def loA (f : Int32 → Nat → Nat) (sd : Int32 → Int32) (a : AP) (u : Nat) (v : Int32) (j : Nat) : Int32 × Int32 := itr (loS f sd a u) (v, 0) j
theorem lo_s {f : Int32 → Nat → Nat} {sd : Int32 → Int32} {a : AP} {u : Nat} {v : Int32} {j : Nat} : loA f sd a u v (j + 1) = ((wkA f sd a (loA f sd a u v j).1).1, (loA f sd a u v j).2 + valI f sd a u (loA f sd a u v j).1) := rfl
theorem val0 {f : Int32 → Nat → Nat} {sd : Int32 → Int32} {a : AP} {u : Nat} {v : Int32} (h : u = 0) : valI f sd a u v = nI (aC (hoursA (wkA f sd a v).2 12)) - nI (aC a) := if_pos h
theorem val1 {f : Int32 → Nat → Nat} {sd : Int32 → Int32} {a : AP} {u : Nat} {v : Int32} (h : u = 1) : valI f sd a u v = nI (sumN (aH (hoursA (wkA f sd a v).2 12)) (aN (hoursA (wkA f sd a v).2 12))) := if_neg (by omega)
set_option maxHeartbeats 1000000 in
theorem okk_lotsG {f : Int32 → Nat → Nat} {sd : Int32 → Int32} (L : LG f sd) : ok_lots Inv := by
  rintro ⟨n, m, q, hh, P, le, nu, rf, pq⟩ ⟨c, th, le6, qz, ks, hi, td, ro, se, rf6, kp, ig, ts, tf, hd, gn⟩ p1 p2 p3 ⟨a, hS, hT, g, ho, hrf, hle, hro, him, hpa⟩
  dsimp only at hS hT hrf hle hro him hpa
  have h9 := g.1
  unfold p_X5_lots
  rcases out3 p1 1 20 (by omega) (by omega) with ⟨w, hw1, hw, rfl⟩ | h | ⟨h1, h2⟩
  · refine sp_out_ok (lo := 1) (hi := 20) hw1 hw (by omega) (br_t rfl ?_)
    rcases in_or p3 1 with ⟨u, hu, rfl⟩ | hu
    case inr =>
      refine br_f (hu 0 (by omega)) (br_f (hu 1 (by omega)) (sp_ref5 isR2 ?_))
      unfold p_X6_lots
      refine sp_wn_ok (lo := 1) (hi := 20) hw1 hw (by omega) (sp_wb_f (M := 1) (by omega) hu (br_f (by decide) (sp_ref6 isR2 ?_)))
      exact ⟨rfl, a, hS, hT, g, ho, hrf.s _, hle, hro, him, hpa⟩
    have go : ∀ (A B : Prop), A → (nI u = 0 → A) ∧ (¬ nI u = 0 → (nI u = (1 : Int32) → A) ∧ (¬ nI u = (1 : Int32) → B)) := by
      intro A B h
      match u, hu with
      | 0, _ => exact br_t rfl h
      | 1, _ => exact br_f (by decide) (br_t rfl h)
    refine go _ _ ?_
    refine lpN_up w (fun j z => z.1 = (loA f sd a u p2 j).1 ∧ z.2.1 = (loA f sd a u p2 j).2 ∧ z.2.2.1 = nI j) (by omega) ?_ ?_ _ ⟨rfl, rfl, rfl⟩
    · rintro K j ⟨x, y, i, t⟩ hj ⟨w1, w2, w3⟩ hK
      dsimp only at w1 w2 w3
      subst w3
      refine bLe w j rfl rfl (by omega) (by omega) (fun w => absurd w (by omega)) (fun _ => sp_week5 (v := x) L hS g (fun m2 hm2 => ?_))
      have gz := (wk_g L g x).hours 12
      rcases (show u = 0 ∨ u = 1 by omega) with u0 | u0
      · refine br_t (by rw [u0]; rfl) (sp_inCup hm2 (sp_inCup hS (nm_in (fun v ev => hK _ ⟨?_, ?_, nI_1 j⟩))))
        · show (wkA f sd a x).1 = _
          rw [lo_s, w1]
        · show v = _
          rw [lo_s, val0 u0, ← w1, ← w2]
          exact ev
      · refine br_f (by rw [u0]; decide) (sp_holdsAll hm2 gz (nm_in (fun v ev => hK _ ⟨?_, ?_, nI_1 j⟩)))
        · show (wkA f sd a x).1 = _
          rw [lo_s, w1]
        · show v = _
          rw [lo_s, val1 u0, ← w1, ← w2]
          exact ev
    · rintro K ⟨x, y, i, t⟩ ⟨w1, w2, w3⟩
      dsimp only at w1 w2 w3
      subst w1; subst w2; subst w3
      refine bLe w w rfl rfl (by omega) (by omega) (fun _ => ?_) (fun w => absurd w (by omega))
      unfold p_X6_lots
      refine sp_wn_ok (lo := 1) (hi := 20) hw1 hw (by omega) (sp_wb_t (M := 1) hu (by omega) (br_t (by decide) (sp_think6 hT (fun c' ks' kp' hc hkk => ?_))))
      refine lpN_up w (fun j (x, i, k1, k2, k3, k4, k5, k6, k7, k8, k9, k0, _, _, _, sv, kk) => x = (loA f sd a u p2 j).2 ∧ sv = (loA f sd a u p2 j).1 ∧ i = nI j ∧ RP (k1, k2, k3, k4, k5, k6, k7, k8, k9, k0) a ∧ RK kk a) (by omega) ?_ ?_ _ ⟨rfl, rfl, rfl, hc, hkk⟩
      · rintro K j ⟨x, i, k1, k2, k3, k4, k5, k6, k7, k8, k9, k0, l1, l2, l3, sv0, kk⟩ hj ⟨w1, w2, w3, w4, w5⟩ hK
        subst w3
        refine bLe w j rfl rfl (by omega) (by omega) (fun w => absurd w (by omega)) (fun _ => ?_)
        have wl : wkN a ≤ 3 := by unfold wkN; split <;> omega
        refine lpN_up (wkN a) (fun q (i, k1, k2, k3, k4, k5, k6, k7, k8, k9, k0, sv) => sv = (ltA f sd a sv0 q).1 ∧ i = nI q ∧ RP (k1, k2, k3, k4, k5, k6, k7, k8, k9, k0) (ltA f sd a sv0 q).2) (by omega) ?_ ?_ _ ⟨rfl, rfl, w4⟩
        · rintro K2 q ⟨i, q1, q2, q3, q4, q5, q6, q7, q8, q9, q0, sv⟩ hq ⟨z1, z2, z3⟩ hK2
          subst z1; subst z2
          have n0 : 0 < aN a := by
            unfold wkN at hq
            split at hq
            · omega
            · omega
          obtain ⟨gj, nj⟩ := lt_inv L g n0 sv0 q
          have e5 : q5 = nI (aN a) := by rw [← nj]; exact z3.2.1
          refine bLe 3 q rfl rfl (by omega) (by omega) (fun w => absurd w (by omega)) (fun _ => br_f ?_ ?_)
          · show ¬ q5 ≤ 0
            rw [e5]; exact nI_nle n0 (by omega)
          · subst e5
            refine L.2.2.2 _ _ _ n0 (by omega) (L.2.2.2 _ 40 _ (by decide) (by decide) ?_)
            exact sp_pourIn z3 gj (by rw [nj]; exact L.1 _ _ n0) (Nat.lt_of_lt_of_le (L.1 _ 40 (by decide)) (by decide)) (fun t' ht' _ => hK2 _ ⟨rfl, nI_1 q, ht'⟩)
        · rintro K2 ⟨i, q1, q2, q3, q4, q5, q6, q7, q8, q9, q0, sv⟩ ⟨z1, z2, z3⟩
          subst z1; subst z2
          have ew : wkA f sd a sv0 = ltA f sd a sv0 (wkN a) := rfl
          have gw : GP (ltA f sd a sv0 (wkN a)).2 := wk_g L g sv0
          have gz : GP (hoursA (ltA f sd a sv0 (wkN a)).2 12) := gw.hours 12
          have fin : p_X6_goHours (q1, q2, q3, q4, q5, q6, q7, q8, q9, q0) (12 : Int32) (fun (u50 : PT) => (fun (J62 : Int32 → Prop) => ((nI u = 0 → J62 (u50.2.2.2.2.2.2.2.1 - c.2.2.2.2.2.2.2.1)) ∧ (¬ nI u = 0 → p_X6_allHold u50 (fun (r79 : Int32) => J62 r79)))) (fun (x61 : Int32) => nm ((x + x61) : Int32) (fun (v63 : Int32) => p_X6_again u50 (l1, l2, l3) kk (fun (u64 : PT × KS × F1) => K (v63, (nI j + 1), u64.1.1, u64.1.2.1, u64.1.2.2.1, u64.1.2.2.2.1, u64.1.2.2.2.2.1, u64.1.2.2.2.2.2.1, u64.1.2.2.2.2.2.2.1, u64.1.2.2.2.2.2.2.2.1, u64.1.2.2.2.2.2.2.2.2.1, u64.1.2.2.2.2.2.2.2.2.2, u64.2.1.1, u64.2.1.2.1, u64.2.1.2.2, (ltA f sd a sv0 (wkN a)).1, u64.2.2))))) := by
            refine sp_goHours (n := 12) z3 gw (by decide) (fun t' ht' => ?_)
            have ec : c.2.2.2.2.2.2.2.1 = nI (aC a) := hT.2.2.2.2.1
            rcases (show u = 0 ∨ u = 1 by omega) with u0 | u0
            · refine br_t (by rw [u0]; rfl) (nm_in (fun v ev => sp_again6 w5 (fun t3 ks3 ht3 => hK _ ⟨?_, ?_, nI_1 j, ht3, w5⟩)))
              · rw [lo_s, val0 u0, ← w1, ← w2, ew]
                refine ev.trans ?_
                rw [ht'.2.2.2.2.1, ec]
              · rw [lo_s, ← w2, ew]
            · refine br_f (by rw [u0]; decide) (sp_allHold ht' gz (nm_in (fun v ev => sp_again6 w5 (fun t3 ks3 ht3 => hK _ ⟨?_, ?_, nI_1 j, ht3, w5⟩))))
              · rw [lo_s, val1 u0, ← w1, ← w2, ew]
                exact ev
              · rw [lo_s, ← w2, ew]
          have wz : (aN a = 0 ∧ wkN a = 0) ∨ (aN a ≠ 0 ∧ wkN a = 3) := by
            unfold wkN
            by_cases n0 : aN a = 0
            · rw [if_pos n0]; exact Or.inl ⟨n0, rfl⟩
            · rw [if_neg n0]; exact Or.inr ⟨n0, rfl⟩
          rcases wz with ⟨n0, wz⟩ | ⟨n0, wz⟩
          · refine br_f (show ¬ (3 : Int32) ≤ nI (wkN a) by rw [wz]; decide) (br_t ?_ fin)
            show q5 ≤ 0
            rw [wz] at z3
            have e5 : q5 = nI (aN a) := z3.2.1
            rw [e5, n0]; decide
          · exact br_t (show (3 : Int32) ≤ nI (wkN a) by rw [wz]; decide) fin
      · rintro K ⟨x, i, k1, k2, k3, k4, k5, k6, k7, k8, k9, k0, l1, l2, l3, sv, kk⟩ ⟨w1, w2, w3, w4, w5⟩
        subst w1; subst w2; subst w3
        exact bLe w w rfl rfl (by omega) (by omega) (fun _ => ⟨rfl, a, hS, w4, g, ho, hrf, hle, hro, him, hpa⟩) (fun w => absurd w (by omega))
  · refine sp_out_lo h (br_f (by decide) (sp_ref5 isR4 ?_))
    unfold p_X6_lots
    refine sp_wn_lo h (sp_wb_no (by decide) (br_f (by decide) (sp_ref6 isR4 ?_)))
    exact ⟨rfl, a, hS, hT, g, ho, hrf.s _, hle, hro, him, hpa⟩
  · refine sp_out_hi h1 h2 (br_f (by decide) (sp_ref5 isR6 ?_))
    unfold p_X6_lots
    refine sp_wn_hi h1 h2 (sp_wb_no (by decide) (br_f (by decide) (sp_ref6 isR6 ?_)))
    exact ⟨rfl, a, hS, hT, g, ho, hrf.s _, hle, hro, him, hpa⟩
theorem okk_lots : ok_lots Inv := okk_lotsG lg
